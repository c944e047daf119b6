/-! STATES: nine cells in a row, and what the class's own methods do to them -/
theorem lp {σ R : Type} (L : Nat → Nat → σ → Option R) (I : Nat → σ → Prop) (P : R → Prop) (b : Nat)
    (hs : ∀ t k s, k < b → I k s → (∃ s', L (t + 1) k s = L t (k + 1) s' ∧ I (k + 1) s') ∨ ∃ r, L (t + 1) k s = some r ∧ P r)
    (he : ∀ t s, I b s → ∃ r, L (t + 1) b s = some r ∧ P r) : ∀ (d k t : Nat) (s : σ), k + d = b → d < t → I k s → ∃ r, L t k s = some r ∧ P r := by
  intro d
  induction d with
  | zero =>
    intro k t s h1 h2 h3
    obtain ⟨t, rfl⟩ : ∃ u, t = u + 1 := ⟨t - 1, by omega⟩
    have : k = b := by omega
    subst this
    exact he t s h3
  | succ d ih =>
    intro k t s h1 h2 h3
    obtain ⟨t, rfl⟩ : ∃ u, t = u + 1 := ⟨t - 1, by omega⟩
    rcases hs t k s (by omega) h3 with ⟨s', e, h⟩ | h
    · rw [e]
      exact ih (k + 1) t s' (by omega) (by omega) h
    · exact h
/-- eight rows of a state, as one function: here x y u v centerX centerY lastPair -/
abbrev Rw : Type := Nat → Nat → Int32
def StC (w : Wd) (a : Nat) (t : Int32) (F : Rw) : Prop :=
  w a = some (.inr (3, [.ref (a + 1), .ref (a + 2), .ref (a + 3), .ref (a + 4), .ref (a + 5), .ref (a + 6), .ref (a + 7), .ref (a + 8), .int t])) ∧
  w (a + 1) = some (.inl (1, 24, .inl (F 0))) ∧ w (a + 2) = some (.inl (0, 24, .inl (F 1))) ∧ w (a + 3) = some (.inl (0, 24, .inl (F 2))) ∧ w (a + 4) = some (.inl (0, 24, .inl (F 3))) ∧ w (a + 5) = some (.inl (0, 24, .inl (F 4))) ∧
  w (a + 6) = some (.inl (0, 4, .inl (F 5))) ∧ w (a + 7) = some (.inl (0, 4, .inl (F 6))) ∧ w (a + 8) = some (.inl (0, 4, .inl (F 7)))
def setF (F : Rw) (j k : Nat) (x : Int32) : Rw := fun i => if i = j then upd (F j) k x else F i
theorem setF_at {F : Rw} {j k i m : Nat} {x : Int32} : setF F j k x i m = if i = j ∧ m = k then x else F i m := by
  unfold setF
  by_cases h : i = j
  · subst h
    by_cases g : m = k <;> simp [upd, g]
  · simp [h]
theorem StC.frame {w w' : Wd} {a : Nat} {t : Int32} {F : Rw} (h : StC w a t F) (hq : ∀ q, a ≤ q → q ≤ a + 8 → w' q = w q) : StC w' a t F := by
  obtain ⟨h0, h1, h2, h3, h4, h5, h6, h7, h8⟩ := h
  refine ⟨?_, ?_, ?_, ?_, ?_, ?_, ?_, ?_, ?_⟩ <;> first | (rw [hq _ (by omega) (by omega)]; assumption)
section ST
variable {w : Wd} {a b k : Nat} {t tb x : Int32} {F Fb : Rw}
theorem StC.s0 (h : StC w a t F) : StC (wup w (a + 1) (.inl (1, 24, .inl (upd (F 0) k x)))) a t (setF F 0 k x) := by
  obtain ⟨h0, h1, h2, h3, h4, h5, h6, h7, h8⟩ := h
  refine ⟨?_, wup_self, ?_, ?_, ?_, ?_, ?_, ?_, ?_⟩ <;> (rw [wup_ne (by omega)]; assumption)
theorem StC.s1 (h : StC w a t F) : StC (wup w (a + 2) (.inl (0, 24, .inl (upd (F 1) k x)))) a t (setF F 1 k x) := by
  obtain ⟨h0, h1, h2, h3, h4, h5, h6, h7, h8⟩ := h
  refine ⟨?_, ?_, wup_self, ?_, ?_, ?_, ?_, ?_, ?_⟩ <;> (rw [wup_ne (by omega)]; assumption)
theorem StC.s2 (h : StC w a t F) : StC (wup w (a + 3) (.inl (0, 24, .inl (upd (F 2) k x)))) a t (setF F 2 k x) := by
  obtain ⟨h0, h1, h2, h3, h4, h5, h6, h7, h8⟩ := h
  refine ⟨?_, ?_, ?_, wup_self, ?_, ?_, ?_, ?_, ?_⟩ <;> (rw [wup_ne (by omega)]; assumption)
theorem StC.s3 (h : StC w a t F) : StC (wup w (a + 4) (.inl (0, 24, .inl (upd (F 3) k x)))) a t (setF F 3 k x) := by
  obtain ⟨h0, h1, h2, h3, h4, h5, h6, h7, h8⟩ := h
  refine ⟨?_, ?_, ?_, ?_, wup_self, ?_, ?_, ?_, ?_⟩ <;> (rw [wup_ne (by omega)]; assumption)
theorem StC.s4 (h : StC w a t F) : StC (wup w (a + 5) (.inl (0, 24, .inl (upd (F 4) k x)))) a t (setF F 4 k x) := by
  obtain ⟨h0, h1, h2, h3, h4, h5, h6, h7, h8⟩ := h
  refine ⟨?_, ?_, ?_, ?_, ?_, wup_self, ?_, ?_, ?_⟩ <;> (rw [wup_ne (by omega)]; assumption)
theorem StC.s5 (h : StC w a t F) : StC (wup w (a + 6) (.inl (0, 4, .inl (upd (F 5) k x)))) a t (setF F 5 k x) := by
  obtain ⟨h0, h1, h2, h3, h4, h5, h6, h7, h8⟩ := h
  refine ⟨?_, ?_, ?_, ?_, ?_, ?_, wup_self, ?_, ?_⟩ <;> (rw [wup_ne (by omega)]; assumption)
theorem StC.s6 (h : StC w a t F) : StC (wup w (a + 7) (.inl (0, 4, .inl (upd (F 6) k x)))) a t (setF F 6 k x) := by
  obtain ⟨h0, h1, h2, h3, h4, h5, h6, h7, h8⟩ := h
  refine ⟨?_, ?_, ?_, ?_, ?_, ?_, ?_, wup_self, ?_⟩ <;> (rw [wup_ne (by omega)]; assumption)
theorem StC.s7 (h : StC w a t F) : StC (wup w (a + 8) (.inl (0, 4, .inl (upd (F 7) k x)))) a t (setF F 7 k x) := by
  obtain ⟨h0, h1, h2, h3, h4, h5, h6, h7, h8⟩ := h
  refine ⟨?_, ?_, ?_, ?_, ?_, ?_, ?_, ?_, wup_self⟩ <;> (rw [wup_ne (by omega)]; assumption)
theorem StC.st {t' : Int32} (h : StC w a t F) : StC (wup w a (.inr (3, [.ref (a + 1), .ref (a + 2), .ref (a + 3), .ref (a + 4), .ref (a + 5), .ref (a + 6), .ref (a + 7), .ref (a + 8), .int t']))) a t' F := by
  obtain ⟨h0, h1, h2, h3, h4, h5, h6, h7, h8⟩ := h
  refine ⟨wup_self, ?_, ?_, ?_, ?_, ?_, ?_, ?_, ?_⟩ <;> (rw [wup_ne (by omega)]; assumption)
theorem vp_nar_bo {v : Int32} (h : v = 0 ∨ v = 1) : vp_nar .boolean v = v := by rcases h with rfl | rfl <;> rfl
/-- the chain of a state's writes -/
theorem ch0 {R : Type} {f : Wd → Option R} (h : StC w a t F) (hk : k < 24) : ((gfR 3 0 w a).bind fun q => (asI 1 w q (nI k) x).bind f) = f (wup w (a + 1) (.inl (1, 24, .inl (upd (F 0) k x)))) := by
  rw [gfR_at h.1 rfl, Option.bind_some, asI_at h.2.1 hk (by decide), Option.bind_some]
theorem ch1 {R : Type} {f : Wd → Option R} (h : StC w a t F) (hk : k < 24) : ((gfR 3 1 w a).bind fun q => (asI 0 w q (nI k) x).bind f) = f (wup w (a + 2) (.inl (0, 24, .inl (upd (F 1) k x)))) := by
  rw [gfR_at h.1 rfl, Option.bind_some, asI_at h.2.2.1 hk (by decide), Option.bind_some]
theorem ch2 {R : Type} {f : Wd → Option R} (h : StC w a t F) (hk : k < 24) : ((gfR 3 2 w a).bind fun q => (asI 0 w q (nI k) x).bind f) = f (wup w (a + 3) (.inl (0, 24, .inl (upd (F 2) k x)))) := by
  rw [gfR_at h.1 rfl, Option.bind_some, asI_at h.2.2.2.1 hk (by decide), Option.bind_some]
theorem ch3 {R : Type} {f : Wd → Option R} (h : StC w a t F) (hk : k < 24) : ((gfR 3 3 w a).bind fun q => (asI 0 w q (nI k) x).bind f) = f (wup w (a + 4) (.inl (0, 24, .inl (upd (F 3) k x)))) := by
  rw [gfR_at h.1 rfl, Option.bind_some, asI_at h.2.2.2.2.1 hk (by decide), Option.bind_some]
theorem ch4 {R : Type} {f : Wd → Option R} (h : StC w a t F) (hk : k < 24) : ((gfR 3 4 w a).bind fun q => (asI 0 w q (nI k) x).bind f) = f (wup w (a + 5) (.inl (0, 24, .inl (upd (F 4) k x)))) := by
  rw [gfR_at h.1 rfl, Option.bind_some, asI_at h.2.2.2.2.2.1 hk (by decide), Option.bind_some]
/-- reads -/
theorem rd0 {R : Type} {f : Int32 → Option R} (h : StC w a t F) (hk : k < 24) : ((gfR 3 0 w a).bind fun q => (agI 1 w q (nI k)).bind f) = f (F 0 k) := by
  rw [gfR_at h.1 rfl, Option.bind_some, agI_at h.2.1 hk (by decide), Option.bind_some]
theorem rd1 {R : Type} {f : Int32 → Option R} (h : StC w a t F) (hk : k < 24) : ((gfR 3 1 w a).bind fun q => (agI 0 w q (nI k)).bind f) = f (F 1 k) := by
  rw [gfR_at h.1 rfl, Option.bind_some, agI_at h.2.2.1 hk (by decide), Option.bind_some]
theorem rd2 {R : Type} {f : Int32 → Option R} (h : StC w a t F) (hk : k < 24) : ((gfR 3 2 w a).bind fun q => (agI 0 w q (nI k)).bind f) = f (F 2 k) := by
  rw [gfR_at h.1 rfl, Option.bind_some, agI_at h.2.2.2.1 hk (by decide), Option.bind_some]
theorem rd3 {R : Type} {f : Int32 → Option R} (h : StC w a t F) (hk : k < 24) : ((gfR 3 3 w a).bind fun q => (agI 0 w q (nI k)).bind f) = f (F 3 k) := by
  rw [gfR_at h.1 rfl, Option.bind_some, agI_at h.2.2.2.2.1 hk (by decide), Option.bind_some]
theorem rd4 {R : Type} {f : Int32 → Option R} (h : StC w a t F) (hk : k < 24) : ((gfR 3 4 w a).bind fun q => (agI 0 w q (nI k)).bind f) = f (F 4 k) := by
  rw [gfR_at h.1 rfl, Option.bind_some, agI_at h.2.2.2.2.2.1 hk (by decide), Option.bind_some]
theorem rd5 {R : Type} {f : Int32 → Option R} (h : StC w a t F) (hk : k < 4) : ((gfR 3 5 w a).bind fun q => (agI 0 w q (nI k)).bind f) = f (F 5 k) := by
  rw [gfR_at h.1 rfl, Option.bind_some, agI_at h.2.2.2.2.2.2.1 hk (by decide), Option.bind_some]
theorem rd6 {R : Type} {f : Int32 → Option R} (h : StC w a t F) (hk : k < 4) : ((gfR 3 6 w a).bind fun q => (agI 0 w q (nI k)).bind f) = f (F 6 k) := by
  rw [gfR_at h.1 rfl, Option.bind_some, agI_at h.2.2.2.2.2.2.2.1 hk (by decide), Option.bind_some]
theorem rd7 {R : Type} {f : Int32 → Option R} (h : StC w a t F) (hk : k < 4) : ((gfR 3 7 w a).bind fun q => (agI 0 w q (nI k)).bind f) = f (F 7 k) := by
  rw [gfR_at h.1 rfl, Option.bind_some, agI_at h.2.2.2.2.2.2.2.2 hk (by decide), Option.bind_some]
theorem ch5 {R : Type} {f : Wd → Option R} (h : StC w a t F) (hk : k < 4) : ((gfR 3 5 w a).bind fun q => (asI 0 w q (nI k) x).bind f) = f (wup w (a + 6) (.inl (0, 4, .inl (upd (F 5) k x)))) := by
  rw [gfR_at h.1 rfl, Option.bind_some, asI_at h.2.2.2.2.2.2.1 hk (by decide), Option.bind_some]
theorem ch6 {R : Type} {f : Wd → Option R} (h : StC w a t F) (hk : k < 4) : ((gfR 3 6 w a).bind fun q => (asI 0 w q (nI k) x).bind f) = f (wup w (a + 7) (.inl (0, 4, .inl (upd (F 6) k x)))) := by
  rw [gfR_at h.1 rfl, Option.bind_some, asI_at h.2.2.2.2.2.2.2.1 hk (by decide), Option.bind_some]
theorem ch7 {R : Type} {f : Wd → Option R} (h : StC w a t F) (hk : k < 4) : ((gfR 3 7 w a).bind fun q => (asI 0 w q (nI k) x).bind f) = f (wup w (a + 8) (.inl (0, 4, .inl (upd (F 7) k x)))) := by
  rw [gfR_at h.1 rfl, Option.bind_some, asI_at h.2.2.2.2.2.2.2.2 hk (by decide), Option.bind_some]
/-- one cell of a row from the other state -/
theorem cp0 {R : Type} {f : Wd → Option R} (h : StC w a t F) (g : StC w b tb Fb) (hk : k < 24) (hb : Fb 0 k = 0 ∨ Fb 0 k = 1) : ((gfR 3 0 w a).bind fun q => (gfR 3 0 w b).bind fun q2 => (agI 1 w q2 (nI k)).bind fun x => (asI 1 w q (nI k) (vp_nar .boolean x)).bind f) = f (wup w (a + 1) (.inl (1, 24, .inl (upd (F 0) k (Fb 0 k))))) := by
  rw [gfR_at h.1 rfl, Option.bind_some, gfR_at g.1 rfl, Option.bind_some, agI_at g.2.1 hk (by decide), Option.bind_some, vp_nar_bo hb, asI_at h.2.1 hk (by decide), Option.bind_some]
theorem cp1 {R : Type} {f : Wd → Option R} (h : StC w a t F) (g : StC w b tb Fb) (hk : k < 24) : ((gfR 3 1 w a).bind fun q => (gfR 3 1 w b).bind fun q2 => (agI 0 w q2 (nI k)).bind fun x => (asI 0 w q (nI k) x).bind f) = f (wup w (a + 2) (.inl (0, 24, .inl (upd (F 1) k (Fb 1 k))))) := by
  rw [gfR_at h.1 rfl, Option.bind_some, gfR_at g.1 rfl, Option.bind_some, agI_at g.2.2.1 hk (by decide), Option.bind_some, asI_at h.2.2.1 hk (by decide), Option.bind_some]
theorem cp2 {R : Type} {f : Wd → Option R} (h : StC w a t F) (g : StC w b tb Fb) (hk : k < 24) : ((gfR 3 2 w a).bind fun q => (gfR 3 2 w b).bind fun q2 => (agI 0 w q2 (nI k)).bind fun x => (asI 0 w q (nI k) x).bind f) = f (wup w (a + 3) (.inl (0, 24, .inl (upd (F 2) k (Fb 2 k))))) := by
  rw [gfR_at h.1 rfl, Option.bind_some, gfR_at g.1 rfl, Option.bind_some, agI_at g.2.2.2.1 hk (by decide), Option.bind_some, asI_at h.2.2.2.1 hk (by decide), Option.bind_some]
theorem cp3 {R : Type} {f : Wd → Option R} (h : StC w a t F) (g : StC w b tb Fb) (hk : k < 24) : ((gfR 3 3 w a).bind fun q => (gfR 3 3 w b).bind fun q2 => (agI 0 w q2 (nI k)).bind fun x => (asI 0 w q (nI k) x).bind f) = f (wup w (a + 4) (.inl (0, 24, .inl (upd (F 3) k (Fb 3 k))))) := by
  rw [gfR_at h.1 rfl, Option.bind_some, gfR_at g.1 rfl, Option.bind_some, agI_at g.2.2.2.2.1 hk (by decide), Option.bind_some, asI_at h.2.2.2.2.1 hk (by decide), Option.bind_some]
theorem cp4 {R : Type} {f : Wd → Option R} (h : StC w a t F) (g : StC w b tb Fb) (hk : k < 24) : ((gfR 3 4 w a).bind fun q => (gfR 3 4 w b).bind fun q2 => (agI 0 w q2 (nI k)).bind fun x => (asI 0 w q (nI k) x).bind f) = f (wup w (a + 5) (.inl (0, 24, .inl (upd (F 4) k (Fb 4 k))))) := by
  rw [gfR_at h.1 rfl, Option.bind_some, gfR_at g.1 rfl, Option.bind_some, agI_at g.2.2.2.2.2.1 hk (by decide), Option.bind_some, asI_at h.2.2.2.2.2.1 hk (by decide), Option.bind_some]
theorem cp5 {R : Type} {f : Wd → Option R} (h : StC w a t F) (g : StC w b tb Fb) (hk : k < 4) : ((gfR 3 5 w a).bind fun q => (gfR 3 5 w b).bind fun q2 => (agI 0 w q2 (nI k)).bind fun x => (asI 0 w q (nI k) x).bind f) = f (wup w (a + 6) (.inl (0, 4, .inl (upd (F 5) k (Fb 5 k))))) := by
  rw [gfR_at h.1 rfl, Option.bind_some, gfR_at g.1 rfl, Option.bind_some, agI_at g.2.2.2.2.2.2.1 hk (by decide), Option.bind_some, asI_at h.2.2.2.2.2.2.1 hk (by decide), Option.bind_some]
theorem cp6 {R : Type} {f : Wd → Option R} (h : StC w a t F) (g : StC w b tb Fb) (hk : k < 4) : ((gfR 3 6 w a).bind fun q => (gfR 3 6 w b).bind fun q2 => (agI 0 w q2 (nI k)).bind fun x => (asI 0 w q (nI k) x).bind f) = f (wup w (a + 7) (.inl (0, 4, .inl (upd (F 6) k (Fb 6 k))))) := by
  rw [gfR_at h.1 rfl, Option.bind_some, gfR_at g.1 rfl, Option.bind_some, agI_at g.2.2.2.2.2.2.2.1 hk (by decide), Option.bind_some, asI_at h.2.2.2.2.2.2.2.1 hk (by decide), Option.bind_some]
theorem cp7 {R : Type} {f : Wd → Option R} (h : StC w a t F) (g : StC w b tb Fb) (hk : k < 4) : ((gfR 3 7 w a).bind fun q => (gfR 3 7 w b).bind fun q2 => (agI 0 w q2 (nI k)).bind fun x => (asI 0 w q (nI k) x).bind f) = f (wup w (a + 8) (.inl (0, 4, .inl (upd (F 7) k (Fb 7 k))))) := by
  rw [gfR_at h.1 rfl, Option.bind_some, gfR_at g.1 rfl, Option.bind_some, agI_at g.2.2.2.2.2.2.2.2 hk (by decide), Option.bind_some, asI_at h.2.2.2.2.2.2.2.2 hk (by decide), Option.bind_some]
end ST
theorem nle24 {k b : Nat} (hk : k < b) (hb : b < 2 ^ 31) : ¬ nI b ≤ nI k := nI_ge hk hb
/-- a state becomes a copy of another -/
theorem m_copy {n : Nat} (hn : 30 ≤ n) {w : Wd} {a b : Nat} {ta tb : Int32} {Fa Fb : Rw} (ha : StC w a ta Fa) (hb : StC w b tb Fb) (hab : a + 8 < b ∨ b + 8 < a) (hbo : ∀ i, i < 24 → Fb 0 i = 0 ∨ Fb 0 i = 1) :
    ∃ w', m_X4_copy n w a b = some w' ∧ (∃ F, StC w' a tb F ∧ (∀ j i, j < 5 → i < 24 → F j i = Fb j i) ∧ ∀ j i, 5 ≤ j → j < 8 → i < 4 → F j i = Fb j i) ∧ ∀ q, (q < a ∨ a + 8 < q) → w' q = w q := by
  have hne : ∀ q i, b ≤ q → q ≤ b + 8 → i ≤ 8 → q ≠ a + i := fun q i h1 h2 h3 => by omega
  unfold m_X4_copy
  refine lp (σ := Wd) (fun t k w => m_X4_copy_p2 n t w a b (nI k)) (fun k v => (∃ F, StC v a ta F ∧ ∀ j i, j < 5 → i < k → F j i = Fb j i) ∧ ∀ q, (q < a ∨ a + 8 < q) → v q = w q) _ 24 ?_ ?_ 24 0 n w rfl (by omega) ⟨⟨Fa, ha, fun j i _ h => absurd h (Nat.not_lt_zero _)⟩, fun q _ => rfl⟩
  · rintro t k v hk ⟨⟨F, h0, hF⟩, hq⟩
    left
    have g0 : StC v b tb Fb := hb.frame fun q h1 h2 => hq q (by omega)
    have h1 := h0.s0 (k := k) (x := Fb 0 k)
    have g1 := g0.frame (w' := wup v (a + 1) (.inl (1, 24, .inl (upd (F 0) k (Fb 0 k))))) fun q a1 a2 => wup_ne (hne q 1 a1 a2 (by decide))
    have h2 := h1.s1 (k := k) (x := Fb 1 k)
    have g2 := g1.frame (w' := wup _ (a + 2) (.inl (0, 24, .inl (upd (setF F 0 k (Fb 0 k) 1) k (Fb 1 k))))) fun q a1 a2 => wup_ne (hne q 2 a1 a2 (by decide))
    have h3 := h2.s2 (k := k) (x := Fb 2 k)
    have g3 := g2.frame (w' := wup _ (a + 3) (.inl (0, 24, .inl (upd (setF (setF F 0 k (Fb 0 k)) 1 k (Fb 1 k) 2) k (Fb 2 k))))) fun q a1 a2 => wup_ne (hne q 3 a1 a2 (by decide))
    have h4 := h3.s3 (k := k) (x := Fb 3 k)
    have g4 := g3.frame (w' := wup _ (a + 4) (.inl (0, 24, .inl (upd (setF (setF (setF F 0 k (Fb 0 k)) 1 k (Fb 1 k)) 2 k (Fb 2 k) 3) k (Fb 3 k))))) fun q a1 a2 => wup_ne (hne q 4 a1 a2 (by decide))
    have h5 := h4.s4 (k := k) (x := Fb 4 k)
    refine ⟨_, ?_, ⟨_, h5, ?_⟩, ?_⟩
    · show m_X4_copy_p2 n (t + 1) v a b (nI k) = _
      rw [m_X4_copy_p2, if_neg (show ¬ (24 : Int32) ≤ nI k from nI_ge hk (by decide)), cp0 h0 g0 hk (hbo k hk), cp1 h1 g1 hk, cp2 h2 g2 hk, cp3 h3 g3 hk, cp4 h4 g4 hk, nI_1]
    · intro j i hj hi
      simp only [setF_at]
      by_cases e : i = k
      · subst e
        rcases i5 hj with rfl | rfl | rfl | rfl | rfl <;> simp
      · simp only [e, and_false, if_false]
        exact hF j i hj (by omega)
    · intro q h
      rw [wup_ne (by omega), wup_ne (by omega), wup_ne (by omega), wup_ne (by omega), wup_ne (by omega)]
      exact hq q h
  · rintro t v ⟨⟨F, h0, hF⟩, hq⟩
    show ∃ r, m_X4_copy_p2 n (t + 1) v a b (nI 24) = some r ∧ _
    rw [m_X4_copy_p2, if_pos (by decide), m_X4_copy_p74]
    refine lp (σ := Wd) (fun t k w => m_X4_copy_p76 n t w a b (nI k)) (fun k v => (∃ F, StC v a ta F ∧ (∀ j i, j < 5 → i < 24 → F j i = Fb j i) ∧ ∀ j i, 5 ≤ j → j < 8 → i < k → F j i = Fb j i) ∧ ∀ q, (q < a ∨ a + 8 < q) → v q = w q) _ 4 ?_ ?_ 4 0 n v rfl (by omega) ⟨⟨F, h0, hF, fun j i _ _ h => absurd h (Nat.not_lt_zero _)⟩, hq⟩
    · rintro t k v hk ⟨⟨F, h0, hF, hG⟩, hq⟩
      left
      have g0 : StC v b tb Fb := hb.frame fun q h1 h2 => hq q (by omega)
      have h1 := h0.s5 (k := k) (x := Fb 5 k)
      have g1 := g0.frame (w' := wup v (a + 6) (.inl (0, 4, .inl (upd (F 5) k (Fb 5 k))))) fun q a1 a2 => wup_ne (hne q 6 a1 a2 (by decide))
      have h2 := h1.s6 (k := k) (x := Fb 6 k)
      have g2 := g1.frame (w' := wup _ (a + 7) (.inl (0, 4, .inl (upd (setF F 5 k (Fb 5 k) 6) k (Fb 6 k))))) fun q a1 a2 => wup_ne (hne q 7 a1 a2 (by decide))
      have h3 := h2.s7 (k := k) (x := Fb 7 k)
      refine ⟨_, ?_, ⟨_, h3, ?_, ?_⟩, ?_⟩
      · show m_X4_copy_p76 n (t + 1) v a b (nI k) = _
        rw [m_X4_copy_p76, if_neg (show ¬ (4 : Int32) ≤ nI k from nI_ge hk (by decide)), cp5 h0 g0 hk, cp6 h1 g1 hk, cp7 h2 g2 hk, nI_1]
      · intro j i hj hi
        simp only [setF_at]
        rw [if_neg (by omega), if_neg (by omega), if_neg (by omega)]
        exact hF j i hj hi
      · intro j i hj hj2 hi
        simp only [setF_at]
        by_cases e : i = k
        · subst e
          rcases (show j = 5 ∨ j = 6 ∨ j = 7 by omega) with rfl | rfl | rfl <;> simp
        · simp only [e, and_false, if_false]
          exact hG j i hj hj2 (by omega)
      · intro q h
        rw [wup_ne (by omega), wup_ne (by omega), wup_ne (by omega)]
        exact hq q h
    · rintro t v ⟨⟨F, h0, hF, hG⟩, hq⟩
      have g0 : StC v b tb Fb := hb.frame fun q h1 h2 => hq q (by omega)
      refine ⟨_, ?_, ⟨F, h0.st, hF, hG⟩, ?_⟩
      · show m_X4_copy_p76 n (t + 1) v a b (nI 4) = _
        rw [m_X4_copy_p76, if_pos (by decide), m_X4_copy_p123, gfI_at g0.1 rfl, Option.bind_some, pfV_at h0.1 (Nat.le_of_ble_eq_true rfl), Option.bind_some]
        rfl
      · intro q h
        rw [wup_ne (by omega)]
        exact hq q h
