/-! THE REFERENCE'S CELLS: ten in a row, by its int fields I, its long fields J and its rows A -/
def MoC (w : Wd) (b : Nat) (I : Nat → Int32) (J : Nat → Int64) (A : Rw) : Prop :=
  w b = some (.inr (6, [.ref (b + 1), .ref (b + 2), .ref (b + 3), .int (I 3), .int (I 4), .ref (b + 4), .int (I 6), .ref (b + 5), .ref (b + 6), .ref (b + 7), .ref (b + 8), .long (J 11), .int (I 12), .int (I 13), .int (I 14), .int (I 15), .int (I 16), .int (I 17), .ref (b + 9), .long (J 19)])) ∧ w (b + 1) = some (.inl (0, 141, .inl (A 0))) ∧ w (b + 2) = some (.inl (0, 564, .inl (A 1))) ∧ w (b + 3) = some (.inl (0, 141, .inl (A 2))) ∧ w (b + 4) = some (.inl (0, 120, .inl (A 3))) ∧ w (b + 5) = some (.inl (0, 160, .inl (A 4))) ∧ w (b + 6) = some (.inl (0, 5, .inl (A 5))) ∧ w (b + 7) = some (.inl (0, 160, .inl (A 6))) ∧ w (b + 8) = some (.inl (0, 5, .inl (A 7))) ∧ w (b + 9) = some (.inl (0, 3, .inl (A 8)))
def setI (I : Nat → Int32) (k : Nat) (x : Int32) : Nat → Int32 := fun i => if i = k then x else I i
def setJ (I : Nat → Int64) (k : Nat) (x : Int64) : Nat → Int64 := fun i => if i = k then x else I i
theorem setI_at {I : Nat → Int32} {k i : Nat} {x : Int32} : setI I k x i = if i = k then x else I i := rfl
theorem setI_self {I : Nat → Int32} {k : Nat} {x : Int32} : setI I k x k = x := if_pos rfl
theorem setI_ne {I : Nat → Int32} {k i : Nat} {x : Int32} (h : i ≠ k) : setI I k x i = I i := if_neg h
theorem setJ_self {I : Nat → Int64} {k : Nat} {x : Int64} : setJ I k x k = x := if_pos rfl
theorem setJ_ne {I : Nat → Int64} {k i : Nat} {x : Int64} (h : i ≠ k) : setJ I k x i = I i := if_neg h
theorem setF_self {F : Rw} {j k : Nat} {x : Int32} : setF F j k x j k = x := by rw [setF_at, if_pos ⟨rfl, rfl⟩]
theorem setF_row {F : Rw} {j k i m : Nat} {x : Int32} (h : i ≠ j) : setF F j k x i m = F i m := by rw [setF_at, if_neg (fun q => h q.1)]
theorem setF_col {F : Rw} {j k i m : Nat} {x : Int32} (h : m ≠ k) : setF F j k x i m = F i m := by rw [setF_at, if_neg (fun q => h q.2)]
theorem MoC.frame {w w' : Wd} {b : Nat} {I : Nat → Int32} {J : Nat → Int64} {A : Rw} (h : MoC w b I J A) (hq : ∀ q, b ≤ q → q ≤ b + 9 → w' q = w q) : MoC w' b I J A := by
  obtain ⟨h0, h1, h2, h3, h4, h5, h6, h7, h8, h9⟩ := h
  refine ⟨?_, ?_, ?_, ?_, ?_, ?_, ?_, ?_, ?_, ?_⟩ <;> (rw [hq _ (by omega) (by omega)]; assumption)
section MO
variable {w : Wd} {b k : Nat} {I : Nat → Int32} {J : Nat → Int64} {A : Rw}
theorem MoC.g0 (h : MoC w b I J A) : gfR 6 0 w b = some (b + 1) := gfR_at h.1 rfl
theorem MoC.r0 (h : MoC w b I J A) (hk : k < 141) : agI 0 w (b + 1) (nI k) = some (A 0 k) := agI_at h.2.1 hk (by decide)
theorem MoC.w0 (h : MoC w b I J A) (x : Int32) (hk : k < 141) : ∃ w', asI 0 w (b + 1) (nI k) x = some w' ∧ MoC w' b I J (setF A 0 k x) ∧ ∀ q, (q < b ∨ b + 9 < q) → w' q = w q := by
  refine ⟨_, asI_at h.2.1 hk (by decide), ?_, fun q hq => wup_ne (by omega)⟩
  obtain ⟨h0, h1, h2, h3, h4, h5, h6, h7, h8, h9⟩ := h
  refine ⟨?_, ?_, ?_, ?_, ?_, ?_, ?_, ?_, ?_, ?_⟩ <;> first | exact wup_self | (rw [wup_ne (by omega)]; assumption)
theorem MoC.g1 (h : MoC w b I J A) : gfR 6 1 w b = some (b + 2) := gfR_at h.1 rfl
theorem MoC.r1 (h : MoC w b I J A) (hk : k < 564) : agI 0 w (b + 2) (nI k) = some (A 1 k) := agI_at h.2.2.1 hk (by decide)
theorem MoC.w1 (h : MoC w b I J A) (x : Int32) (hk : k < 564) : ∃ w', asI 0 w (b + 2) (nI k) x = some w' ∧ MoC w' b I J (setF A 1 k x) ∧ ∀ q, (q < b ∨ b + 9 < q) → w' q = w q := by
  refine ⟨_, asI_at h.2.2.1 hk (by decide), ?_, fun q hq => wup_ne (by omega)⟩
  obtain ⟨h0, h1, h2, h3, h4, h5, h6, h7, h8, h9⟩ := h
  refine ⟨?_, ?_, ?_, ?_, ?_, ?_, ?_, ?_, ?_, ?_⟩ <;> first | exact wup_self | (rw [wup_ne (by omega)]; assumption)
theorem MoC.g2 (h : MoC w b I J A) : gfR 6 2 w b = some (b + 3) := gfR_at h.1 rfl
theorem MoC.r2 (h : MoC w b I J A) (hk : k < 141) : agI 0 w (b + 3) (nI k) = some (A 2 k) := agI_at h.2.2.2.1 hk (by decide)
theorem MoC.w2 (h : MoC w b I J A) (x : Int32) (hk : k < 141) : ∃ w', asI 0 w (b + 3) (nI k) x = some w' ∧ MoC w' b I J (setF A 2 k x) ∧ ∀ q, (q < b ∨ b + 9 < q) → w' q = w q := by
  refine ⟨_, asI_at h.2.2.2.1 hk (by decide), ?_, fun q hq => wup_ne (by omega)⟩
  obtain ⟨h0, h1, h2, h3, h4, h5, h6, h7, h8, h9⟩ := h
  refine ⟨?_, ?_, ?_, ?_, ?_, ?_, ?_, ?_, ?_, ?_⟩ <;> first | exact wup_self | (rw [wup_ne (by omega)]; assumption)
theorem MoC.g5 (h : MoC w b I J A) : gfR 6 5 w b = some (b + 4) := gfR_at h.1 rfl
theorem MoC.r5 (h : MoC w b I J A) (hk : k < 120) : agI 0 w (b + 4) (nI k) = some (A 3 k) := agI_at h.2.2.2.2.1 hk (by decide)
theorem MoC.w5 (h : MoC w b I J A) (x : Int32) (hk : k < 120) : ∃ w', asI 0 w (b + 4) (nI k) x = some w' ∧ MoC w' b I J (setF A 3 k x) ∧ ∀ q, (q < b ∨ b + 9 < q) → w' q = w q := by
  refine ⟨_, asI_at h.2.2.2.2.1 hk (by decide), ?_, fun q hq => wup_ne (by omega)⟩
  obtain ⟨h0, h1, h2, h3, h4, h5, h6, h7, h8, h9⟩ := h
  refine ⟨?_, ?_, ?_, ?_, ?_, ?_, ?_, ?_, ?_, ?_⟩ <;> first | exact wup_self | (rw [wup_ne (by omega)]; assumption)
theorem MoC.g7 (h : MoC w b I J A) : gfR 6 7 w b = some (b + 5) := gfR_at h.1 rfl
theorem MoC.r7 (h : MoC w b I J A) (hk : k < 160) : agI 0 w (b + 5) (nI k) = some (A 4 k) := agI_at h.2.2.2.2.2.1 hk (by decide)
theorem MoC.w7 (h : MoC w b I J A) (x : Int32) (hk : k < 160) : ∃ w', asI 0 w (b + 5) (nI k) x = some w' ∧ MoC w' b I J (setF A 4 k x) ∧ ∀ q, (q < b ∨ b + 9 < q) → w' q = w q := by
  refine ⟨_, asI_at h.2.2.2.2.2.1 hk (by decide), ?_, fun q hq => wup_ne (by omega)⟩
  obtain ⟨h0, h1, h2, h3, h4, h5, h6, h7, h8, h9⟩ := h
  refine ⟨?_, ?_, ?_, ?_, ?_, ?_, ?_, ?_, ?_, ?_⟩ <;> first | exact wup_self | (rw [wup_ne (by omega)]; assumption)
theorem MoC.g8 (h : MoC w b I J A) : gfR 6 8 w b = some (b + 6) := gfR_at h.1 rfl
theorem MoC.r8 (h : MoC w b I J A) (hk : k < 5) : agI 0 w (b + 6) (nI k) = some (A 5 k) := agI_at h.2.2.2.2.2.2.1 hk (by decide)
theorem MoC.w8 (h : MoC w b I J A) (x : Int32) (hk : k < 5) : ∃ w', asI 0 w (b + 6) (nI k) x = some w' ∧ MoC w' b I J (setF A 5 k x) ∧ ∀ q, (q < b ∨ b + 9 < q) → w' q = w q := by
  refine ⟨_, asI_at h.2.2.2.2.2.2.1 hk (by decide), ?_, fun q hq => wup_ne (by omega)⟩
  obtain ⟨h0, h1, h2, h3, h4, h5, h6, h7, h8, h9⟩ := h
  refine ⟨?_, ?_, ?_, ?_, ?_, ?_, ?_, ?_, ?_, ?_⟩ <;> first | exact wup_self | (rw [wup_ne (by omega)]; assumption)
theorem MoC.g9 (h : MoC w b I J A) : gfR 6 9 w b = some (b + 7) := gfR_at h.1 rfl
theorem MoC.r9 (h : MoC w b I J A) (hk : k < 160) : agI 0 w (b + 7) (nI k) = some (A 6 k) := agI_at h.2.2.2.2.2.2.2.1 hk (by decide)
theorem MoC.w9 (h : MoC w b I J A) (x : Int32) (hk : k < 160) : ∃ w', asI 0 w (b + 7) (nI k) x = some w' ∧ MoC w' b I J (setF A 6 k x) ∧ ∀ q, (q < b ∨ b + 9 < q) → w' q = w q := by
  refine ⟨_, asI_at h.2.2.2.2.2.2.2.1 hk (by decide), ?_, fun q hq => wup_ne (by omega)⟩
  obtain ⟨h0, h1, h2, h3, h4, h5, h6, h7, h8, h9⟩ := h
  refine ⟨?_, ?_, ?_, ?_, ?_, ?_, ?_, ?_, ?_, ?_⟩ <;> first | exact wup_self | (rw [wup_ne (by omega)]; assumption)
theorem MoC.g10 (h : MoC w b I J A) : gfR 6 10 w b = some (b + 8) := gfR_at h.1 rfl
theorem MoC.r10 (h : MoC w b I J A) (hk : k < 5) : agI 0 w (b + 8) (nI k) = some (A 7 k) := agI_at h.2.2.2.2.2.2.2.2.1 hk (by decide)
theorem MoC.w10 (h : MoC w b I J A) (x : Int32) (hk : k < 5) : ∃ w', asI 0 w (b + 8) (nI k) x = some w' ∧ MoC w' b I J (setF A 7 k x) ∧ ∀ q, (q < b ∨ b + 9 < q) → w' q = w q := by
  refine ⟨_, asI_at h.2.2.2.2.2.2.2.2.1 hk (by decide), ?_, fun q hq => wup_ne (by omega)⟩
  obtain ⟨h0, h1, h2, h3, h4, h5, h6, h7, h8, h9⟩ := h
  refine ⟨?_, ?_, ?_, ?_, ?_, ?_, ?_, ?_, ?_, ?_⟩ <;> first | exact wup_self | (rw [wup_ne (by omega)]; assumption)
theorem MoC.g18 (h : MoC w b I J A) : gfR 6 18 w b = some (b + 9) := gfR_at h.1 rfl
theorem MoC.r18 (h : MoC w b I J A) (hk : k < 3) : agI 0 w (b + 9) (nI k) = some (A 8 k) := agI_at h.2.2.2.2.2.2.2.2.2 hk (by decide)
theorem MoC.w18 (h : MoC w b I J A) (x : Int32) (hk : k < 3) : ∃ w', asI 0 w (b + 9) (nI k) x = some w' ∧ MoC w' b I J (setF A 8 k x) ∧ ∀ q, (q < b ∨ b + 9 < q) → w' q = w q := by
  refine ⟨_, asI_at h.2.2.2.2.2.2.2.2.2 hk (by decide), ?_, fun q hq => wup_ne (by omega)⟩
  obtain ⟨h0, h1, h2, h3, h4, h5, h6, h7, h8, h9⟩ := h
  refine ⟨?_, ?_, ?_, ?_, ?_, ?_, ?_, ?_, ?_, ?_⟩ <;> first | exact wup_self | (rw [wup_ne (by omega)]; assumption)
theorem MoC.i3 (h : MoC w b I J A) : gfI 6 3 w b = some (I 3) := gfI_at h.1 rfl
theorem MoC.p3 (h : MoC w b I J A) (x : Int32) : ∃ w', pfV 6 3 w b (.int x) = some w' ∧ MoC w' b (setI I 3 x) J A ∧ ∀ q, (q < b ∨ b + 9 < q) → w' q = w q := by
  refine ⟨_, pfV_at h.1 (Nat.le_of_ble_eq_true rfl), ?_, fun q hq => wup_ne (by omega)⟩
  obtain ⟨h0, h1, h2, h3, h4, h5, h6, h7, h8, h9⟩ := h
  refine ⟨wup_self, ?_, ?_, ?_, ?_, ?_, ?_, ?_, ?_, ?_⟩ <;> (rw [wup_ne (by omega)]; assumption)
theorem MoC.i4 (h : MoC w b I J A) : gfI 6 4 w b = some (I 4) := gfI_at h.1 rfl
theorem MoC.p4 (h : MoC w b I J A) (x : Int32) : ∃ w', pfV 6 4 w b (.int x) = some w' ∧ MoC w' b (setI I 4 x) J A ∧ ∀ q, (q < b ∨ b + 9 < q) → w' q = w q := by
  refine ⟨_, pfV_at h.1 (Nat.le_of_ble_eq_true rfl), ?_, fun q hq => wup_ne (by omega)⟩
  obtain ⟨h0, h1, h2, h3, h4, h5, h6, h7, h8, h9⟩ := h
  refine ⟨wup_self, ?_, ?_, ?_, ?_, ?_, ?_, ?_, ?_, ?_⟩ <;> (rw [wup_ne (by omega)]; assumption)
theorem MoC.i6 (h : MoC w b I J A) : gfI 6 6 w b = some (I 6) := gfI_at h.1 rfl
theorem MoC.p6 (h : MoC w b I J A) (x : Int32) : ∃ w', pfV 6 6 w b (.int x) = some w' ∧ MoC w' b (setI I 6 x) J A ∧ ∀ q, (q < b ∨ b + 9 < q) → w' q = w q := by
  refine ⟨_, pfV_at h.1 (Nat.le_of_ble_eq_true rfl), ?_, fun q hq => wup_ne (by omega)⟩
  obtain ⟨h0, h1, h2, h3, h4, h5, h6, h7, h8, h9⟩ := h
  refine ⟨wup_self, ?_, ?_, ?_, ?_, ?_, ?_, ?_, ?_, ?_⟩ <;> (rw [wup_ne (by omega)]; assumption)
theorem MoC.i12 (h : MoC w b I J A) : gfI 6 12 w b = some (I 12) := gfI_at h.1 rfl
theorem MoC.p12 (h : MoC w b I J A) (x : Int32) : ∃ w', pfV 6 12 w b (.int x) = some w' ∧ MoC w' b (setI I 12 x) J A ∧ ∀ q, (q < b ∨ b + 9 < q) → w' q = w q := by
  refine ⟨_, pfV_at h.1 (Nat.le_of_ble_eq_true rfl), ?_, fun q hq => wup_ne (by omega)⟩
  obtain ⟨h0, h1, h2, h3, h4, h5, h6, h7, h8, h9⟩ := h
  refine ⟨wup_self, ?_, ?_, ?_, ?_, ?_, ?_, ?_, ?_, ?_⟩ <;> (rw [wup_ne (by omega)]; assumption)
theorem MoC.i13 (h : MoC w b I J A) : gfI 6 13 w b = some (I 13) := gfI_at h.1 rfl
theorem MoC.p13 (h : MoC w b I J A) (x : Int32) : ∃ w', pfV 6 13 w b (.int x) = some w' ∧ MoC w' b (setI I 13 x) J A ∧ ∀ q, (q < b ∨ b + 9 < q) → w' q = w q := by
  refine ⟨_, pfV_at h.1 (Nat.le_of_ble_eq_true rfl), ?_, fun q hq => wup_ne (by omega)⟩
  obtain ⟨h0, h1, h2, h3, h4, h5, h6, h7, h8, h9⟩ := h
  refine ⟨wup_self, ?_, ?_, ?_, ?_, ?_, ?_, ?_, ?_, ?_⟩ <;> (rw [wup_ne (by omega)]; assumption)
theorem MoC.i14 (h : MoC w b I J A) : gfI 6 14 w b = some (I 14) := gfI_at h.1 rfl
theorem MoC.p14 (h : MoC w b I J A) (x : Int32) : ∃ w', pfV 6 14 w b (.int x) = some w' ∧ MoC w' b (setI I 14 x) J A ∧ ∀ q, (q < b ∨ b + 9 < q) → w' q = w q := by
  refine ⟨_, pfV_at h.1 (Nat.le_of_ble_eq_true rfl), ?_, fun q hq => wup_ne (by omega)⟩
  obtain ⟨h0, h1, h2, h3, h4, h5, h6, h7, h8, h9⟩ := h
  refine ⟨wup_self, ?_, ?_, ?_, ?_, ?_, ?_, ?_, ?_, ?_⟩ <;> (rw [wup_ne (by omega)]; assumption)
theorem MoC.i15 (h : MoC w b I J A) : gfI 6 15 w b = some (I 15) := gfI_at h.1 rfl
theorem MoC.p15 (h : MoC w b I J A) (x : Int32) : ∃ w', pfV 6 15 w b (.int x) = some w' ∧ MoC w' b (setI I 15 x) J A ∧ ∀ q, (q < b ∨ b + 9 < q) → w' q = w q := by
  refine ⟨_, pfV_at h.1 (Nat.le_of_ble_eq_true rfl), ?_, fun q hq => wup_ne (by omega)⟩
  obtain ⟨h0, h1, h2, h3, h4, h5, h6, h7, h8, h9⟩ := h
  refine ⟨wup_self, ?_, ?_, ?_, ?_, ?_, ?_, ?_, ?_, ?_⟩ <;> (rw [wup_ne (by omega)]; assumption)
theorem MoC.i16 (h : MoC w b I J A) : gfI 6 16 w b = some (I 16) := gfI_at h.1 rfl
theorem MoC.p16 (h : MoC w b I J A) (x : Int32) : ∃ w', pfV 6 16 w b (.int x) = some w' ∧ MoC w' b (setI I 16 x) J A ∧ ∀ q, (q < b ∨ b + 9 < q) → w' q = w q := by
  refine ⟨_, pfV_at h.1 (Nat.le_of_ble_eq_true rfl), ?_, fun q hq => wup_ne (by omega)⟩
  obtain ⟨h0, h1, h2, h3, h4, h5, h6, h7, h8, h9⟩ := h
  refine ⟨wup_self, ?_, ?_, ?_, ?_, ?_, ?_, ?_, ?_, ?_⟩ <;> (rw [wup_ne (by omega)]; assumption)
theorem MoC.i17 (h : MoC w b I J A) : gfI 6 17 w b = some (I 17) := gfI_at h.1 rfl
theorem MoC.p17 (h : MoC w b I J A) (x : Int32) : ∃ w', pfV 6 17 w b (.int x) = some w' ∧ MoC w' b (setI I 17 x) J A ∧ ∀ q, (q < b ∨ b + 9 < q) → w' q = w q := by
  refine ⟨_, pfV_at h.1 (Nat.le_of_ble_eq_true rfl), ?_, fun q hq => wup_ne (by omega)⟩
  obtain ⟨h0, h1, h2, h3, h4, h5, h6, h7, h8, h9⟩ := h
  refine ⟨wup_self, ?_, ?_, ?_, ?_, ?_, ?_, ?_, ?_, ?_⟩ <;> (rw [wup_ne (by omega)]; assumption)
theorem MoC.j11 (h : MoC w b I J A) : gfJ 6 11 w b = some (J 11) := gfJ_at h.1 rfl
theorem MoC.q11 (h : MoC w b I J A) (x : Int64) : ∃ w', pfV 6 11 w b (.long x) = some w' ∧ MoC w' b I (setJ J 11 x) A ∧ ∀ q, (q < b ∨ b + 9 < q) → w' q = w q := by
  refine ⟨_, pfV_at h.1 (Nat.le_of_ble_eq_true rfl), ?_, fun q hq => wup_ne (by omega)⟩
  obtain ⟨h0, h1, h2, h3, h4, h5, h6, h7, h8, h9⟩ := h
  refine ⟨wup_self, ?_, ?_, ?_, ?_, ?_, ?_, ?_, ?_, ?_⟩ <;> (rw [wup_ne (by omega)]; assumption)
theorem MoC.j19 (h : MoC w b I J A) : gfJ 6 19 w b = some (J 19) := gfJ_at h.1 rfl
theorem MoC.q19 (h : MoC w b I J A) (x : Int64) : ∃ w', pfV 6 19 w b (.long x) = some w' ∧ MoC w' b I (setJ J 19 x) A ∧ ∀ q, (q < b ∨ b + 9 < q) → w' q = w q := by
  refine ⟨_, pfV_at h.1 (Nat.le_of_ble_eq_true rfl), ?_, fun q hq => wup_ne (by omega)⟩
  obtain ⟨h0, h1, h2, h3, h4, h5, h6, h7, h8, h9⟩ := h
  refine ⟨wup_self, ?_, ?_, ?_, ?_, ?_, ?_, ?_, ?_, ?_⟩ <;> (rw [wup_ne (by omega)]; assumption)
theorem MoC.c (h : MoC w b I J A) : chk 6 w b = some () := chk_at h.1
theorem MoC.fr {w' : Wd} {a : Nat} {t : Int32} {F : Rw} (g : StC w a t F) (hq : ∀ q, (q < b ∨ b + 9 < q) → w' q = w q) (h : a + 8 < b ∨ b + 9 < a) : StC w' a t F := g.frame fun q h1 h2 => hq q (by omega)
end MO
