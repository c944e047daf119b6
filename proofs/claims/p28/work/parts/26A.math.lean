section
/-! THE DIGEST -/
def mixN (a : Int64) (v : Int32) : Int64 := (31 * a) + (Int32.toInt64 v)
def mxs (f : Nat → Int32) : Nat → Int64 → Int64
  | 0, a => a
  | k + 1, a => mixN (mxs f k a) (f k)
def dgP (S : Nat → Int32) : Nat → Int64 → Int64
  | 0, a => a
  | i + 1, a => mxs (ptV S i) 6 (dgP S i a)
noncomputable def dgN (S : Nat → Int32) (l : Nat) : Nat → Int64 → Int64
  | 0, a => a
  | i + 1, a => mxs (chV S l i) 4 (mxs (ndV S l i) 6 (dgN S l i a))
noncomputable def dgL (S : Nat → Int32) : Nat → Int64 → Int64
  | 0, a => a
  | l + 1, a => dgN S l (nds S l).length (mxs (fun x => nI (lvV S l x)) 5 (dgL S l a))
noncomputable def dgC (S : Nat → Int32) : Nat → Int64 → Int64
  | 0, a => a
  | cu + 1, a => mxs (cuV S cu) 6 (dgC S cu a)
section DG
variable {n h c L : Nat} {w : Wd} {S : Nat → Int32} {P : Nat → Nat → Int32} {B : Nat → Int32} {r : Int32} {K : Nat → Nat} {xs : Nat → Int32} {i : Int32}
noncomputable def digN (S : Nat → Int32) (c L : Nat) : Int64 := mxs (clV (ouC S 24)) 3 (dgC S 4 (mixN (mixN (dgL S 5 (dgP S 24 (mixN (mixN (mixN 19606 (nI c)) (nI L)) (S 140)))) (nI (wstN S true 24))) (nI (wstN S false 24))))
/-! the reference's -/
variable {b : Nat} {I : Nat → Int32} {J : Nat → Int64} {A : Rw}
end DG
end
section
/-! THE START: behind the constructors the invariant holds -/
theorem wz_at (h i : Nat) {x : Cel} (e : (wzL h)[i]? = some x) : wz h (h + i) = some x := by
  unfold wz
  rw [if_neg (by omega), Nat.add_sub_cancel_left]
  exact e
def rw0 : Rw := fun j => if j = 7 then upd (upd (upd (upd (fun _ => 0) 0 (-1)) 1 (-1)) 2 (-1)) 3 (-1) else fun _ => 0
theorem wf_0 : WF fun _ => 0 := by
  have z : N64 0 := ⟨0, by decide, rfl⟩
  have s : sp 0 := ⟨by decide, by decide⟩
  exact ⟨fun i hi => ⟨Or.inl rfl, z, z, s, s, fun _ => ⟨rfl, rfl, rfl, rfl⟩⟩, fun c hc => ⟨z, z, Or.inl rfl⟩⟩
theorem lp_0 (c : Nat) : lpOf (fun _ => 0) c = -1 := if_pos rfl
theorem st_r0 : StR (fun _ => 0) rw0 0 := by
  refine ⟨fun j i hj _ => ?_, fun c hc => ⟨?_, ?_, ?_⟩, rfl⟩
  · unfold rw0
    rw [if_neg (by omega)]
  · unfold rw0
    rw [if_neg (by decide)]
  · unfold rw0
    rw [if_neg (by decide)]
  · rw [lp_0]
    unfold rw0 upd
    rw [if_pos rfl]
    rcases (show c = 0 ∨ c = 1 ∨ c = 2 ∨ c = 3 by omega) with rfl | rfl | rfl | rfl <;> rfl
theorem st_0 (h : Nat) : StC (wz h) (h + 1) 0 rw0 := ⟨wz_at h 1 rfl, wz_at h 2 rfl, wz_at h 3 rfl, wz_at h 4 rfl, wz_at h 5 rfl, wz_at h 6 rfl, wz_at h 7 rfl, wz_at h 8 rfl, wz_at h 9 rfl⟩
theorem st_1 (h : Nat) : StC (wz h) (h + 12) 0 rw0 := ⟨wz_at h 12 rfl, wz_at h 13 rfl, wz_at h 14 rfl, wz_at h 15 rfl, wz_at h 16 rfl, wz_at h 17 rfl, wz_at h 18 rfl, wz_at h 19 rfl, wz_at h 20 rfl⟩
theorem st_2 (h : Nat) : StC (wz h) (h + 21) 0 rw0 := ⟨wz_at h 21 rfl, wz_at h 22 rfl, wz_at h 23 rfl, wz_at h 24 rfl, wz_at h 25 rfl, wz_at h 26 rfl, wz_at h 27 rfl, wz_at h 28 rfl, wz_at h 29 rfl⟩
theorem st_3 (h : Nat) : StC (wz h) (h + 30) 0 rw0 := ⟨wz_at h 30 rfl, wz_at h 31 rfl, wz_at h 32 rfl, wz_at h 33 rfl, wz_at h 34 rfl, wz_at h 35 rfl, wz_at h 36 rfl, wz_at h 37 rfl, wz_at h 38 rfl⟩
theorem st_4 (h : Nat) : StC (wz h) (h + 39) 0 rw0 := ⟨wz_at h 39 rfl, wz_at h 40 rfl, wz_at h 41 rfl, wz_at h 42 rfl, wz_at h 43 rfl, wz_at h 44 rfl, wz_at h 45 rfl, wz_at h 46 rfl, wz_at h 47 rfl⟩
theorem rg_0 (h : Nat) (P : Nat → Nat → Int32) : Rg (wz h) h 0 0 P := by
  refine ⟨by decide, Nat.zero_le _, ⟨wz_at h 10 rfl, _, wz_at h 11 rfl, fun k hk => ?_⟩, fun k hk => ?_, fun j hj => absurd hj (Nat.not_lt_zero _)⟩
  · rcases (show k = 0 ∨ k = 1 ∨ k = 2 ∨ k = 3 by omega) with rfl | rfl | rfl | rfl <;> rfl
  · rcases (show k = 0 ∨ k = 1 ∨ k = 2 ∨ k = 3 by omega) with rfl | rfl | rfl | rfl
    · exact ⟨_, _, st_1 h⟩
    · exact ⟨_, _, st_2 h⟩
    · exact ⟨_, _, st_3 h⟩
    · exact ⟨_, _, st_4 h⟩
theorem lv_0 {w : Wd} {a : Nat} (h0 : w a = some (.inr (1, [.ref (a + 1), .int 0, .ref (a + 2), .int 1]))) (h1 : w (a + 1) = some (.inl (0, 24, .inl fun _ => 0))) (h2 : w (a + 2) = some (.inl (0, 24, .inl fun _ => 0))) : LvC w a [] [0] :=
  ⟨h0, ⟨_, h1, fun i hi => absurd hi (Nat.not_lt_zero _)⟩, ⟨_, h2, fun i hi => by
    have : i = 0 := by
      have q : i < 1 := hi
      omega
    subst this
    rfl⟩, by decide, by decide, by decide, rfl⟩
theorem fo_lv (h l : Nat) (hl : l < 5) : LvC (wz h) (h + 51 + 3 + 3 * l) [] [0] := by
  rcases (show l = 0 ∨ l = 1 ∨ l = 2 ∨ l = 3 ∨ l = 4 by omega) with rfl | rfl | rfl | rfl | rfl
  · exact lv_0 (a := h + 54) (wz_at h 54 rfl) (wz_at h 55 rfl) (wz_at h 56 rfl)
  · exact lv_0 (a := h + 57) (wz_at h 57 rfl) (wz_at h 58 rfl) (wz_at h 59 rfl)
  · exact lv_0 (a := h + 60) (wz_at h 60 rfl) (wz_at h 61 rfl) (wz_at h 62 rfl)
  · exact lv_0 (a := h + 63) (wz_at h 63 rfl) (wz_at h 64 rfl) (wz_at h 65 rfl)
  · exact lv_0 (a := h + 66) (wz_at h 66 rfl) (wz_at h 67 rfl) (wz_at h 68 rfl)
theorem sp_lv (h l : Nat) (hl : l < 5) : LvC (wz h) (h + 69 + 3 + 3 * l) [] [0] := by
  rcases (show l = 0 ∨ l = 1 ∨ l = 2 ∨ l = 3 ∨ l = 4 by omega) with rfl | rfl | rfl | rfl | rfl
  · exact lv_0 (a := h + 72) (wz_at h 72 rfl) (wz_at h 73 rfl) (wz_at h 74 rfl)
  · exact lv_0 (a := h + 75) (wz_at h 75 rfl) (wz_at h 76 rfl) (wz_at h 77 rfl)
  · exact lv_0 (a := h + 78) (wz_at h 78 rfl) (wz_at h 79 rfl) (wz_at h 80 rfl)
  · exact lv_0 (a := h + 81) (wz_at h 81 rfl) (wz_at h 82 rfl) (wz_at h 83 rfl)
  · exact lv_0 (a := h + 84) (wz_at h 84 rfl) (wz_at h 85 rfl) (wz_at h 86 rfl)
theorem fo_g (h : Nat) : FoG (wz h) (h + 51) := ⟨wz_at h 51 rfl, _, wz_at h 52 rfl, fun k hk => by
  rcases (show k = 0 ∨ k = 1 ∨ k = 2 ∨ k = 3 ∨ k = 4 by omega) with rfl | rfl | rfl | rfl | rfl <;> rfl⟩
theorem sp_g (h : Nat) : FoG (wz h) (h + 69) := ⟨wz_at h 69 rfl, _, wz_at h 70 rfl, fun k hk => by
  rcases (show k = 0 ∨ k = 1 ∨ k = 2 ∨ k = 3 ∨ k = 4 by omega) with rfl | rfl | rfl | rfl | rfl <;> rfl⟩
theorem es_0 : EsOf (fun _ => 0) 24 [] := by
  have e : idsS (fun _ => 0) 24 = [] := List.eq_nil_iff_forall_not_mem.mpr fun i hi => (idsS_mem.mp hi).2 rfl
  refine ⟨List.Pairwise.nil, ?_⟩
  rw [e]
  exact List.Perm.nil
theorem nodes_0 : NodesOf [] [0] := by
  refine ⟨List.pairwise_singleton _ _, fun q => ?_⟩
  rw [List.mem_singleton]
  refine ⟨fun h => Or.inl h, fun h => ?_⟩
  rcases h with h | ⟨e, c, d, -, -, hc, -⟩
  · exact h
  · cases hc
theorem fo_0 (h : Nat) : FoC (wz h) (h + 51) fun _ => 0 := ⟨fo_g h, [], ⟨wz_at h 51 rfl, _, wz_at h 53 rfl, fun i hi => absurd hi (Nat.not_lt_zero _)⟩, es_0, fun l hl => ⟨[0], fo_lv h l hl, nodes_0⟩⟩
theorem sp_0 (h : Nat) : FoX (wz h) (h + 69) := ⟨sp_g h, ⟨_, wz_at h 71 rfl⟩, fun l hl => ⟨[], [0], sp_lv h l hl⟩⟩
theorem cl_0 (h : Nat) : ClI (wz h) h (fun _ => 0) (fun _ _ => 0) 0 := ⟨⟨rw0, 0, st_0 h, st_r0⟩, ⟨0, rg_0 h _⟩, h + 51, h + 69, Or.inl ⟨rfl, rfl⟩, wz_at h 0 rfl, fo_0 h, sp_0 h⟩
theorem sc_0 (h : Nat) : ScC (wz h) (h + 48) 0 (fun _ => 0) := ⟨⟨0, 0, 0, wz_at h 48 rfl⟩, ⟨_, wz_at h 49 rfl, fun i hi => absurd hi (Nat.not_lt_zero _)⟩, _, wz_at h 50 rfl⟩
end
