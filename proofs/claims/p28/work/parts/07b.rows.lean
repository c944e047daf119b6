theorem fX4_pairsAfter_9 : Cond.fieldLink RX4 9 (TX4 0).1 (TX4 0).2.1 (TX4 0).2.2.1 ∈ wsX4_pairsAfter := by decide +kernel
theorem inX4_pairsAfter_X4 : ∀ x ∈ u_ws RX4 TX4 9, x ∈ wsX4_pairsAfter := by decide +kernel
set_option maxRecDepth 100000 in
set_option maxHeartbeats 4000000 in
theorem r_X4_pairsAfter_p6 {p : Program} {l : Launch} {e : Env} {s : State} {m : MethodId} {args : Array Value} {below : List Frame} {meth : Method} {c : Code} {G : GG} {A : Nat → Prop} (C : Cx p s m args meth c G A cX4_pairsAfter 6 RX4 wsX4_pairsAfter (some .int)) (n : Nat) {z : Int32} : ∀ (t : Nat), ∀ (w : Wd) (a0 : Nat) (a1 : Int32) (a2 : Int32) (a3 : Int32) (a4 : Int32) (a5 : Int32), m_X4_pairsAfter_p6 n t w a0 a1 a2 a3 a4 a5 = some z → V p l e { frames := 2, cells := 0, slots := 0, locals := 46 } s m args below meth c G A 6 6 [(0, .ref a0), (1, .int a1), (2, .int a2), (3, .int a3), (4, .int a4), (5, .int a5)] [] w (some (.int z)) w := by
  intro t
  induction t with
  | zero =>
    intro w a0 a1 a2 a3 a4 a5 h
    rw [m_X4_pairsAfter_p6] at h
    cases h
  | succ t ih =>
    intro w a0 a1 a2 a3 a4 a5 h
    rw [m_X4_pairsAfter_p6] at h
    refine v_iload C 5 dX4_pairsAfter_6 rfl ?_
    refine v_bipush C (v := 24) dX4_pairsAfter_8 (by decide) ?_
    refine v_icmp_ge C (tgt := 44) dX4_pairsAfter_10 (by decide) (fun q => ?_) (fun q => ?_)
    · have h := ite_t q h
      refine v_iload C 4 dX4_pairsAfter_44 rfl ?_
      obtain rfl := Option.some.inj h
      exact v_iret C dX4_pairsAfter_46
    · have h := ite_f q h
      refine v_aload_n C 0 dX4_pairsAfter_13 rfl rfl ?_
      obtain ⟨q1, e_q1, h⟩ := bnd h
      refine v_getf C (ci := 3) (k := 0) rfl inX4_pairsAfter_X4 (by decide) fX4_pairsAfter_9 dX4_pairsAfter_14 (gfR_e e_q1) ?_
      refine v_iload C 5 dX4_pairsAfter_17 rfl ?_
      obtain ⟨x2, e_x2, h⟩ := bnd h
      refine v_zald C dX4_pairsAfter_19 e_x2 ?_
      refine v_if_eq C (tgt := 38) dX4_pairsAfter_20 (by decide) (fun q => ?_) (fun q => ?_)
      · have h := ite_t q h
        refine v_iinc C (k := 5) (v := (a5 + 1)) (lv' := [(5, .int (a5 + 1)), (0, .ref a0), (1, .int a1), (2, .int a2), (3, .int a3), (4, .int a4)]) dX4_pairsAfter_38 rfl rfl (by decide) rfl ?_
        refine v_goto C (tgt := 6) dX4_pairsAfter_41 (by decide) ?_
        refine v_sub [1, 2, 3, 4, 5, 0] rfl ?_
        exact ih _ _ _ _ _ _ _ h
      · have h := ite_f q h
        refine v_aload_n C 0 dX4_pairsAfter_23 rfl rfl ?_
        refine v_iload C 5 dX4_pairsAfter_24 rfl ?_
        refine v_iload_n C 2 dX4_pairsAfter_26 rfl rfl ?_
        refine v_iload_n C 3 dX4_pairsAfter_27 rfl rfl ?_
        obtain ⟨u3, e_u3, h⟩ := bnd h
        obtain ⟨x4, e_x4, h⟩ := bnd h
        refine v_callVi C (ci := 3) (av := [.int a5, .int a2, .int a3]) (rest := []) rfl gX4_pairsAfter_X4_pairOf rfl ⟨rfl, rfl⟩ hV_X4_pairOf ⟨(Nat.le_of_ble_eq_true rfl), (Nat.le_of_ble_eq_true rfl)⟩ e_u3 (r_X4_pairOf (A := A) e_x4) rfl rfl (Nat.le_of_ble_eq_true rfl) dX4_pairsAfter_28 ?_
        refine v_iload_n C 1 dX4_pairsAfter_31 rfl rfl ?_
        refine v_icmp_le C (tgt := 38) dX4_pairsAfter_32 (by decide) (fun q => ?_) (fun q => ?_)
        · have h := ite_t q h
          refine v_iinc C (k := 5) (v := (a5 + 1)) (lv' := [(5, .int (a5 + 1)), (0, .ref a0), (1, .int a1), (2, .int a2), (3, .int a3), (4, .int a4)]) dX4_pairsAfter_38 rfl rfl (by decide) rfl ?_
          refine v_goto C (tgt := 6) dX4_pairsAfter_41 (by decide) ?_
          refine v_sub [1, 2, 3, 4, 5, 0] rfl ?_
          exact ih _ _ _ _ _ _ _ h
        · have h := ite_f q h
          refine v_iinc C (k := 4) (v := (a4 + 1)) (lv' := [(4, .int (a4 + 1)), (0, .ref a0), (1, .int a1), (2, .int a2), (3, .int a3), (5, .int a5)]) dX4_pairsAfter_35 rfl rfl (by decide) rfl ?_
          refine v_iinc C (k := 5) (v := (a5 + 1)) (lv' := [(5, .int (a5 + 1)), (4, .int (a4 + 1)), (0, .ref a0), (1, .int a1), (2, .int a2), (3, .int a3)]) dX4_pairsAfter_38 rfl rfl (by decide) rfl ?_
          refine v_goto C (tgt := 6) dX4_pairsAfter_41 (by decide) ?_
          refine v_sub [2, 3, 4, 5, 1, 0] rfl ?_
          exact ih _ _ _ _ _ _ _ h
set_option maxRecDepth 100000 in
set_option maxHeartbeats 4000000 in
theorem r_X4_pairsAfter {l : Launch} {G : GG} {A : Nat → Prop} {n : Nat} {w : Wd} {this : Nat} {a1 : Int32} {a2 : Int32} {a3 : Int32} {z : Int32} (h : m_X4_pairsAfter n w this a1 a2 a3 = some z) : Con l yX4_pairsAfter wsX4_pairsAfter { frames := 2, cells := 0, slots := 0, locals := 46 } G A [.ref this, .int a1, .int a2, .int a3] w (some (.int z)) w := by
  refine Con.of (own := RX4) (cc := cX4_pairsAfter) (maxL := 6) (ret := (some .int)) rfl (by decide) rfl (Nat.le_of_ble_eq_true rfl) ?_
  intro p e s m args below meth c C
  show V p l e { frames := 2, cells := 0, slots := 0, locals := 46 } s m args below meth c G A 6 0 [(0, .ref this), (1, .int a1), (2, .int a2), (3, .int a3)] [] w (some (.int z)) w
  unfold m_X4_pairsAfter at h
  refine v_iconst C (v := 0) dX4_pairsAfter_0 (by decide) ?_
  refine v_istore C (lv' := [(4, .int 0), (0, .ref this), (1, .int a1), (2, .int a2), (3, .int a3)]) dX4_pairsAfter_1 (by decide) rfl ?_
  refine v_iconst C (v := 0) dX4_pairsAfter_3 (by decide) ?_
  refine v_istore C (lv' := [(5, .int 0), (4, .int 0), (0, .ref this), (1, .int a1), (2, .int a2), (3, .int a3)]) dX4_pairsAfter_4 (by decide) rfl ?_
  refine v_sub [2, 3, 4, 5, 1, 0] rfl ?_
  exact r_X4_pairsAfter_p6 C n n _ _ _ _ _ _ _ h
theorem fX4_closestCouple_9 : Cond.fieldLink RX4 9 (TX4 0).1 (TX4 0).2.1 (TX4 0).2.2.1 ∈ wsX4_closestCouple := by decide +kernel
theorem inX4_closestCouple_X4 : ∀ x ∈ u_ws RX4 TX4 9, x ∈ wsX4_closestCouple := by decide +kernel
theorem fX4_closestCouple_15 : Cond.fieldLink RX4 15 (TX4 1).1 (TX4 1).2.1 (TX4 1).2.2.1 ∈ wsX4_closestCouple := by decide +kernel
theorem fX4_closestCouple_19 : Cond.fieldLink RX4 19 (TX4 2).1 (TX4 2).2.1 (TX4 2).2.2.1 ∈ wsX4_closestCouple := by decide +kernel
set_option maxRecDepth 100000 in
set_option maxHeartbeats 4000000 in
theorem r_X4_closestCouple_p14 {p : Program} {l : Launch} {e : Env} {s : State} {m : MethodId} {args : Array Value} {below : List Frame} {meth : Method} {c : Code} {G : GG} {A : Nat → Prop} (C : Cx p s m args meth c G A cX4_closestCouple 5 RX4 wsX4_closestCouple (some .int)) (n : Nat) {k4 : Wd → Nat → Int32 → Int32 → Option Int32} {z : Int32} (H4 : ∀ (w : Wd) (b0 : Nat) (b1 : Int32) (b2 : Int32), k4 w b0 b1 b2 = some z → V p l e { frames := 2, cells := 0, slots := 0, locals := 46 } s m args below meth c G A 5 4 [(0, .ref b0), (1, .int b1), (2, .int b2)] [] w (some (.int z)) w) : ∀ (t : Nat), ∀ (w : Wd) (a0 : Nat) (a1 : Int32) (a2 : Int32) (a3 : Int32), m_X4_closestCouple_p14 n k4 t w a0 a1 a2 a3 = some z → V p l e { frames := 2, cells := 0, slots := 0, locals := 46 } s m args below meth c G A 5 14 [(0, .ref a0), (1, .int a1), (2, .int a2), (3, .int a3)] [] w (some (.int z)) w := by
  intro t
  induction t with
  | zero =>
    intro w a0 a1 a2 a3 h
    rw [m_X4_closestCouple_p14] at h
    cases h
  | succ t ih =>
    intro w a0 a1 a2 a3 h
    rw [m_X4_closestCouple_p14] at h
    refine v_aload_n C 0 dX4_closestCouple_14 rfl rfl ?_
    obtain ⟨q1, e_q1, h⟩ := bnd h
    refine v_getf C (ci := 3) (k := 0) rfl inX4_closestCouple_X4 (by decide) fX4_closestCouple_9 dX4_closestCouple_15 (gfR_e e_q1) ?_
    refine v_iload_n C 2 dX4_closestCouple_18 rfl rfl ?_
    obtain ⟨x2, e_x2, h⟩ := bnd h
    refine v_zald C dX4_closestCouple_19 e_x2 ?_
    refine v_if_eq C (tgt := 82) dX4_closestCouple_20 (by decide) (fun q => ?_) (fun q => ?_)
    · have h := ite_t q h
      refine v_iinc C (k := 2) (v := (a2 + 1)) (lv' := [(2, .int (a2 + 1)), (0, .ref a0), (1, .int a1), (3, .int a3)]) dX4_closestCouple_82 rfl rfl (by decide) rfl ?_
      refine v_goto C (tgt := 4) dX4_closestCouple_85 (by decide) ?_
      refine v_sub [1, 2, 0] rfl ?_
      exact H4 _ _ _ _ h
    · have h := ite_f q h
      refine v_iload_n C 3 dX4_closestCouple_23 rfl rfl ?_
      refine v_bipush C (v := 24) dX4_closestCouple_24 (by decide) ?_
      refine v_icmp_ge C (tgt := 82) dX4_closestCouple_26 (by decide) (fun q => ?_) (fun q => ?_)
      · have h := ite_t q h
        refine v_iinc C (k := 2) (v := (a2 + 1)) (lv' := [(2, .int (a2 + 1)), (0, .ref a0), (1, .int a1), (3, .int a3)]) dX4_closestCouple_82 rfl rfl (by decide) rfl ?_
        refine v_goto C (tgt := 4) dX4_closestCouple_85 (by decide) ?_
        refine v_sub [1, 2, 0] rfl ?_
        exact H4 _ _ _ _ h
      · have h := ite_f q h
        refine v_aload_n C 0 dX4_closestCouple_29 rfl rfl ?_
        refine v_iload_n C 2 dX4_closestCouple_30 rfl rfl ?_
        refine v_aload_n C 0 dX4_closestCouple_31 rfl rfl ?_
        obtain ⟨q3, e_q3, h⟩ := bnd h
        refine v_getf C (ci := 3) (k := 1) rfl inX4_closestCouple_X4 (by decide) fX4_closestCouple_15 dX4_closestCouple_32 (gfR_e e_q3) ?_
        refine v_iload_n C 3 dX4_closestCouple_35 rfl rfl ?_
        obtain ⟨x4, e_x4, h⟩ := bnd h
        refine v_iald C dX4_closestCouple_36 e_x4 ?_
        refine v_aload_n C 0 dX4_closestCouple_37 rfl rfl ?_
        refine v_at (pc' := 38) rfl ?_
        obtain ⟨q5, e_q5, h⟩ := bnd h
        refine v_getf C (ci := 3) (k := 2) rfl inX4_closestCouple_X4 (by decide) fX4_closestCouple_19 dX4_closestCouple_38 (gfR_e e_q5) ?_
        refine v_iload_n C 3 dX4_closestCouple_41 rfl rfl ?_
        obtain ⟨x6, e_x6, h⟩ := bnd h
        refine v_iald C dX4_closestCouple_42 e_x6 ?_
        obtain ⟨u7, e_u7, h⟩ := bnd h
        obtain ⟨x8, e_x8, h⟩ := bnd h
        refine v_callVi C (ci := 3) (av := [.int a2, .int x4, .int x6]) (rest := []) rfl gX4_closestCouple_X4_pairOf rfl ⟨rfl, rfl⟩ hV_X4_pairOf ⟨(Nat.le_of_ble_eq_true rfl), (Nat.le_of_ble_eq_true rfl)⟩ e_u7 (r_X4_pairOf (A := A) e_x8) rfl rfl (Nat.le_of_ble_eq_true rfl) dX4_closestCouple_43 ?_
        refine v_bipush C (v := 32) dX4_closestCouple_46 (by decide) ?_
        refine v_imul C dX4_closestCouple_48 ?_
        refine v_iload_n C 3 dX4_closestCouple_49 rfl rfl ?_
        refine v_iadd C dX4_closestCouple_50 ?_
        refine v_at (pc' := 51) rfl ?_
        refine v_istore C (lv' := [(4, .int ((x8 * 32) + a3)), (0, .ref a0), (1, .int a1), (2, .int a2), (3, .int a3)]) dX4_closestCouple_51 (by decide) rfl ?_
        refine v_aload_n C 1 dX4_closestCouple_53 rfl rfl ?_
        obtain ⟨q9, e_q9, h⟩ := bnd h
        refine v_getf C (ci := 3) (k := 0) rfl inX4_closestCouple_X4 (by decide) fX4_closestCouple_9 dX4_closestCouple_54 (gfR_e e_q9) ?_
        refine v_iload_n C 4 dX4_closestCouple_57 rfl rfl ?_
        obtain ⟨x10, e_x10, h⟩ := bnd h
        refine v_zald C dX4_closestCouple_58 e_x10 ?_
        refine v_if_eq C (tgt := 76) dX4_closestCouple_59 (by decide) (fun q => ?_) (fun q => ?_)
        · have h := ite_t q h
          refine v_iinc C (k := 4) (v := (a3 + 1)) (lv' := [(3, .int (a3 + 1)), (4, .int ((x8 * 32) + a3)), (0, .ref a0), (1, .int a1), (2, .int a2)]) dX4_closestCouple_76 rfl rfl (by decide) rfl ?_
          refine v_goto C (tgt := 14) dX4_closestCouple_79 (by decide) ?_
          refine v_sub [2, 3, 4, 0] rfl ?_
          exact ih _ _ _ _ _ h
        · have h := ite_f q h
          refine v_iload_n C 2 dX4_closestCouple_62 rfl rfl ?_
          refine v_iconst C (v := (-1)) dX4_closestCouple_63 (by decide) ?_
          refine v_icmp_eq C (tgt := 73) dX4_closestCouple_64 (by decide) (fun q => ?_) (fun q => ?_)
          · have h := ite_t q h
            refine v_iload C 0 dX4_closestCouple_73 rfl ?_
            refine v_istore_n C (lv' := [(1, .int ((x8 * 32) + a3)), (4, .int ((x8 * 32) + a3)), (0, .ref a0), (2, .int a2), (3, .int a3)]) dX4_closestCouple_75 rfl (by decide) rfl ?_
            refine v_iinc C (k := 4) (v := (a3 + 1)) (lv' := [(3, .int (a3 + 1)), (1, .int ((x8 * 32) + a3)), (4, .int ((x8 * 32) + a3)), (0, .ref a0), (2, .int a2)]) dX4_closestCouple_76 rfl rfl (by decide) rfl ?_
            refine v_goto C (tgt := 14) dX4_closestCouple_79 (by decide) ?_
            refine v_sub [3, 1, 4, 0] rfl ?_
            exact ih _ _ _ _ _ h
          · have h := ite_f q h
            refine v_iload C 0 dX4_closestCouple_67 rfl ?_
            refine v_iload_n C 2 dX4_closestCouple_69 rfl rfl ?_
            refine v_icmp_ge C (tgt := 76) dX4_closestCouple_70 (by decide) (fun q => ?_) (fun q => ?_)
            · have h := ite_t q h
              refine v_iinc C (k := 4) (v := (a3 + 1)) (lv' := [(3, .int (a3 + 1)), (4, .int ((x8 * 32) + a3)), (0, .ref a0), (1, .int a1), (2, .int a2)]) dX4_closestCouple_76 rfl rfl (by decide) rfl ?_
              refine v_goto C (tgt := 14) dX4_closestCouple_79 (by decide) ?_
              refine v_sub [2, 3, 4, 0] rfl ?_
              exact ih _ _ _ _ _ h
            · have h := ite_f q h
              refine v_iload C 0 dX4_closestCouple_73 rfl ?_
              refine v_istore_n C (lv' := [(1, .int ((x8 * 32) + a3)), (4, .int ((x8 * 32) + a3)), (0, .ref a0), (2, .int a2), (3, .int a3)]) dX4_closestCouple_75 rfl (by decide) rfl ?_
              refine v_iinc C (k := 4) (v := (a3 + 1)) (lv' := [(3, .int (a3 + 1)), (1, .int ((x8 * 32) + a3)), (4, .int ((x8 * 32) + a3)), (0, .ref a0), (2, .int a2)]) dX4_closestCouple_76 rfl rfl (by decide) rfl ?_
              refine v_goto C (tgt := 14) dX4_closestCouple_79 (by decide) ?_
              refine v_sub [3, 1, 4, 0] rfl ?_
              exact ih _ _ _ _ _ h
set_option maxRecDepth 100000 in
set_option maxHeartbeats 4000000 in
theorem r_X4_closestCouple_p4 {p : Program} {l : Launch} {e : Env} {s : State} {m : MethodId} {args : Array Value} {below : List Frame} {meth : Method} {c : Code} {G : GG} {A : Nat → Prop} (C : Cx p s m args meth c G A cX4_closestCouple 5 RX4 wsX4_closestCouple (some .int)) (n : Nat) {z : Int32} : ∀ (t : Nat), ∀ (w : Wd) (a0 : Nat) (a1 : Int32) (a2 : Int32), m_X4_closestCouple_p4 n t w a0 a1 a2 = some z → V p l e { frames := 2, cells := 0, slots := 0, locals := 46 } s m args below meth c G A 5 4 [(0, .ref a0), (1, .int a1), (2, .int a2)] [] w (some (.int z)) w := by
  intro t
  induction t with
  | zero =>
    intro w a0 a1 a2 h
    rw [m_X4_closestCouple_p4] at h
    cases h
  | succ t ih =>
    intro w a0 a1 a2 h
    rw [m_X4_closestCouple_p4] at h
    refine v_iload_n C 2 dX4_closestCouple_4 rfl rfl ?_
    refine v_bipush C (v := 24) dX4_closestCouple_5 (by decide) ?_
    refine v_icmp_ge C (tgt := 88) dX4_closestCouple_7 (by decide) (fun q => ?_) (fun q => ?_)
    · have h := ite_t q h
      refine v_iload_n C 1 dX4_closestCouple_88 rfl rfl ?_
      obtain rfl := Option.some.inj h
      exact v_iret C dX4_closestCouple_89
    · have h := ite_f q h
      refine v_iload_n C 2 dX4_closestCouple_10 rfl rfl ?_
      refine v_iconst C (v := 1) dX4_closestCouple_11 (by decide) ?_
      refine v_iadd C dX4_closestCouple_12 ?_
      refine v_istore_n C (lv' := [(3, .int (a2 + 1)), (0, .ref a0), (1, .int a1), (2, .int a2)]) dX4_closestCouple_13 rfl (by decide) rfl ?_
      refine v_sub [1, 2, 3, 0] rfl ?_
      exact r_X4_closestCouple_p14 C n ih n _ _ _ _ _ h
set_option maxRecDepth 100000 in
set_option maxHeartbeats 4000000 in
theorem r_X4_closestCouple {l : Launch} {G : GG} {A : Nat → Prop} {n : Nat} {w : Wd} {this : Nat} {z : Int32} (h : m_X4_closestCouple n w this = some z) : Con l yX4_closestCouple wsX4_closestCouple { frames := 2, cells := 0, slots := 0, locals := 46 } G A [.ref this] w (some (.int z)) w := by
  refine Con.of (own := RX4) (cc := cX4_closestCouple) (maxL := 5) (ret := (some .int)) rfl (by decide) rfl (Nat.le_of_ble_eq_true rfl) ?_
  intro p e s m args below meth c C
  show V p l e { frames := 2, cells := 0, slots := 0, locals := 46 } s m args below meth c G A 5 0 [(0, .ref this)] [] w (some (.int z)) w
  unfold m_X4_closestCouple at h
  refine v_iconst C (v := (-1)) dX4_closestCouple_0 (by decide) ?_
  refine v_istore_n C (lv' := [(1, .int (-1)), (0, .ref this)]) dX4_closestCouple_1 rfl (by decide) rfl ?_
  refine v_iconst C (v := 0) dX4_closestCouple_2 (by decide) ?_
  refine v_istore_n C (lv' := [(2, .int 0), (1, .int (-1)), (0, .ref this)]) dX4_closestCouple_3 rfl (by decide) rfl ?_
  refine v_sub [2, 1, 0] rfl ?_
  exact r_X4_closestCouple_p4 C n n _ _ _ _ h
theorem fX5_push_11 : Cond.fieldLink RX5 11 (TX5 0).1 (TX5 0).2.1 (TX5 0).2.2.1 ∈ wsX5_push := by decide +kernel
theorem inX5_push_X5 : ∀ x ∈ u_ws RX5 TX5 3, x ∈ wsX5_push := by decide +kernel
theorem fX5_push_18 : Cond.fieldLink RX5 18 (TX5 1).1 (TX5 1).2.1 (TX5 1).2.2.1 ∈ wsX5_push := by decide +kernel
theorem hV_X4_copy : yX4_copy.cls = RX4 ∧ yX4_copy.cls ≠ "java/lang/invoke/MethodHandle" ∧ yX4_copy.cls ≠ "java/lang/invoke/VarHandle" ∧ (parseMethodDescriptor yX4_copy.desc).map (fun d => d.parameters.length) = some 1 := by decide +kernel
theorem fX5_push_26 : Cond.fieldLink RX5 26 (TX5 2).1 (TX5 2).2.1 (TX5 2).2.2.1 ∈ wsX5_push := by decide +kernel
theorem mlX5_push_29 : Cond.methodLink RX5 29 Lib.Math.min.name ∈ wsX5_push := by decide +kernel
theorem msX5_push_min : Cond.static Lib.Math.min.name ∈ wsX5_push := by decide +kernel
theorem miX5_push : Cond.initialized "java/lang/Math" ∈ wsX5_push := by decide +kernel
theorem mcX5_push_min : Cond.code Lib.Math.min.name Lib.Math.min.code 2 (some .int) ∈ wsX5_push := by decide +kernel
set_option maxRecDepth 100000 in
set_option maxHeartbeats 4000000 in
theorem r_X5_push {l : Launch} {G : GG} {A : Nat → Prop} {n : Nat} {w : Wd} {this : Nat} {a1 : Nat} {z : Wd} (h : m_X5_push n w this a1 = some z) : Con l yX5_push wsX5_push { frames := 1, cells := 0, slots := 0, locals := 22 } G A [.ref this, .ref a1] w (none) z := by
  refine Con.of (own := RX5) (cc := cX5_push) (maxL := 2) (ret := none) rfl (by decide) rfl (Nat.le_of_ble_eq_true rfl) ?_
  intro p e s m args below meth c C
  show V p l e { frames := 1, cells := 0, slots := 0, locals := 22 } s m args below meth c G A 2 0 [(0, .ref this), (1, .ref a1)] [] w (none) z
  unfold m_X5_push at h
  refine v_aload_n C 0 dX5_push_0 rfl rfl ?_
  obtain ⟨q1, e_q1, h⟩ := bnd h
  refine v_getf C (ci := 4) (k := 0) rfl inX5_push_X5 (by decide) fX5_push_11 dX5_push_1 (gfR_e e_q1) ?_
  refine v_aload_n C 0 dX5_push_4 rfl rfl ?_
  obtain ⟨x2, e_x2, h⟩ := bnd h
  refine v_getf C (ci := 4) (k := 1) rfl inX5_push_X5 (by decide) fX5_push_18 dX5_push_5 (gfI_e e_x2) ?_
  obtain ⟨q3, e_q3, h⟩ := bnd h
  refine v_aald4 C dX5_push_8 e_q3 ?_
  refine v_aload_n C 1 dX5_push_9 rfl rfl ?_
  obtain ⟨u4, e_u4, h⟩ := bnd h
  obtain ⟨z5, e_z5, h⟩ := bnd h
  refine v_callVv C (ci := 3) (av := [.ref a1]) (rest := []) rfl gX5_push_X4_copy rfl ⟨rfl, rfl⟩ hV_X4_copy ⟨(Nat.le_of_ble_eq_true rfl), (Nat.le_of_ble_eq_true rfl)⟩ e_u4 (r_X4_copy (A := A) e_z5) rfl rfl (Nat.le_of_ble_eq_true rfl) dX5_push_10 ?_
  refine v_at (pc' := 13) rfl ?_
  refine v_aload_n C 0 dX5_push_13 rfl rfl ?_
  refine v_aload_n C 0 dX5_push_14 rfl rfl ?_
  obtain ⟨x6, e_x6, h⟩ := bnd h
  refine v_getf C (ci := 4) (k := 1) rfl inX5_push_X5 (by decide) fX5_push_18 dX5_push_15 (gfI_e e_x6) ?_
  refine v_iconst C (v := 1) dX5_push_18 (by decide) ?_
  refine v_iadd C dX5_push_19 ?_
  refine v_iconst C (v := 4) dX5_push_20 (by decide) ?_
  refine v_irem C dX5_push_21 (by decide) ?_
  obtain ⟨w7, e_w7, h⟩ := bnd h
  refine v_putf C (ci := 4) (k := 1) rfl inX5_push_X5 tyX5_ok nmX5 (by decide) fX5_push_18 rfl (tyX5_ok 1 (by decide)) rfl rfl dX5_push_22 e_w7 ?_
  refine v_at (pc' := 25) rfl ?_
  refine v_aload_n C 0 dX5_push_25 rfl rfl ?_
  refine v_aload_n C 0 dX5_push_26 rfl rfl ?_
  obtain ⟨x8, e_x8, h⟩ := bnd h
  refine v_getf C (ci := 4) (k := 2) rfl inX5_push_X5 (by decide) fX5_push_26 dX5_push_27 (gfI_e e_x8) ?_
  refine v_iconst C (v := 1) dX5_push_30 (by decide) ?_
  refine v_iadd C dX5_push_31 ?_
  refine v_iconst C (v := 4) dX5_push_32 (by decide) ?_
  refine v_min C mlX5_push_29 msX5_push_min miX5_push mcX5_push_min (Nat.le_of_ble_eq_true rfl) (Nat.le_of_ble_eq_true rfl) dX5_push_33 ?_
  obtain ⟨w9, e_w9, h⟩ := bnd h
  refine v_putf C (ci := 4) (k := 2) rfl inX5_push_X5 tyX5_ok nmX5 (by decide) fX5_push_26 rfl (tyX5_ok 2 (by decide)) rfl rfl dX5_push_36 e_w9 ?_
  refine v_at (pc' := 39) rfl ?_
  obtain rfl := Option.some.inj h
  exact v_vret C dX5_push_39
theorem fX5_pop_18 : Cond.fieldLink RX5 18 (TX5 1).1 (TX5 1).2.1 (TX5 1).2.2.1 ∈ wsX5_pop := by decide +kernel
theorem inX5_pop_X5 : ∀ x ∈ u_ws RX5 TX5 3, x ∈ wsX5_pop := by decide +kernel
theorem fX5_pop_26 : Cond.fieldLink RX5 26 (TX5 2).1 (TX5 2).2.1 (TX5 2).2.2.1 ∈ wsX5_pop := by decide +kernel
theorem fX5_pop_11 : Cond.fieldLink RX5 11 (TX5 0).1 (TX5 0).2.1 (TX5 0).2.2.1 ∈ wsX5_pop := by decide +kernel
set_option maxRecDepth 100000 in
set_option maxHeartbeats 4000000 in
theorem r_X5_pop {l : Launch} {G : GG} {A : Nat → Prop} {n : Nat} {w : Wd} {this : Nat} {a1 : Nat} {z : Wd} (h : m_X5_pop n w this a1 = some z) : Con l yX5_pop wsX5_pop { frames := 1, cells := 0, slots := 0, locals := 22 } G A [.ref this, .ref a1] w (none) z := by
  refine Con.of (own := RX5) (cc := cX5_pop) (maxL := 2) (ret := none) rfl (by decide) rfl (Nat.le_of_ble_eq_true rfl) ?_
  intro p e s m args below meth c C
  show V p l e { frames := 1, cells := 0, slots := 0, locals := 22 } s m args below meth c G A 2 0 [(0, .ref this), (1, .ref a1)] [] w (none) z
  unfold m_X5_pop at h
  refine v_aload_n C 0 dX5_pop_0 rfl rfl ?_
  refine v_aload_n C 0 dX5_pop_1 rfl rfl ?_
  obtain ⟨x1, e_x1, h⟩ := bnd h
  refine v_getf C (ci := 4) (k := 1) rfl inX5_pop_X5 (by decide) fX5_pop_18 dX5_pop_2 (gfI_e e_x1) ?_
  refine v_iconst C (v := 4) dX5_pop_5 (by decide) ?_
  refine v_iadd C dX5_pop_6 ?_
  refine v_iconst C (v := 1) dX5_pop_7 (by decide) ?_
  refine v_isub C dX5_pop_8 ?_
  refine v_at (pc' := 9) rfl ?_
  refine v_iconst C (v := 4) dX5_pop_9 (by decide) ?_
  refine v_irem C dX5_pop_10 (by decide) ?_
  obtain ⟨w2, e_w2, h⟩ := bnd h
  refine v_putf C (ci := 4) (k := 1) rfl inX5_pop_X5 tyX5_ok nmX5 (by decide) fX5_pop_18 rfl (tyX5_ok 1 (by decide)) rfl rfl dX5_pop_11 e_w2 ?_
  refine v_aload_n C 0 dX5_pop_14 rfl rfl ?_
  refine v_dup C dX5_pop_15 rfl ?_
  obtain ⟨x3, e_x3, h⟩ := bnd h
  refine v_getf C (ci := 4) (k := 2) rfl inX5_pop_X5 (by decide) fX5_pop_26 dX5_pop_16 (gfI_e e_x3) ?_
  refine v_iconst C (v := 1) dX5_pop_19 (by decide) ?_
  refine v_isub C dX5_pop_20 ?_
  refine v_at (pc' := 21) rfl ?_
  obtain ⟨w4, e_w4, h⟩ := bnd h
  refine v_putf C (ci := 4) (k := 2) rfl inX5_pop_X5 tyX5_ok nmX5 (by decide) fX5_pop_26 rfl (tyX5_ok 2 (by decide)) rfl rfl dX5_pop_21 e_w4 ?_
  refine v_aload_n C 1 dX5_pop_24 rfl rfl ?_
  refine v_aload_n C 0 dX5_pop_25 rfl rfl ?_
  obtain ⟨q5, e_q5, h⟩ := bnd h
  refine v_getf C (ci := 4) (k := 0) rfl inX5_pop_X5 (by decide) fX5_pop_11 dX5_pop_26 (gfR_e e_q5) ?_
  refine v_aload_n C 0 dX5_pop_29 rfl rfl ?_
  obtain ⟨x6, e_x6, h⟩ := bnd h
  refine v_getf C (ci := 4) (k := 1) rfl inX5_pop_X5 (by decide) fX5_pop_18 dX5_pop_30 (gfI_e e_x6) ?_
  obtain ⟨q7, e_q7, h⟩ := bnd h
  refine v_aald4 C dX5_pop_33 e_q7 ?_
  obtain ⟨u8, e_u8, h⟩ := bnd h
  obtain ⟨z9, e_z9, h⟩ := bnd h
  refine v_callVv C (ci := 3) (av := [.ref q7]) (rest := []) rfl gX5_pop_X4_copy rfl ⟨rfl, rfl⟩ hV_X4_copy ⟨(Nat.le_of_ble_eq_true rfl), (Nat.le_of_ble_eq_true rfl)⟩ e_u8 (r_X4_copy (A := A) e_z9) rfl rfl (Nat.le_of_ble_eq_true rfl) dX5_pop_34 ?_
  refine v_at (pc' := 37) rfl ?_
  obtain rfl := Option.some.inj h
  exact v_vret C dX5_pop_37
theorem fX6_settle_37 : Cond.fieldLink RX6 37 (TX6 4).1 (TX6 4).2.1 (TX6 4).2.2.1 ∈ wsX6_settle := by decide +kernel
theorem inX6_settle_X6 : ∀ x ∈ u_ws RX6 TX6 5, x ∈ wsX6_settle := by decide +kernel
theorem fX6_settle_10 : Cond.fieldLink RX6 10 (TX6 0).1 (TX6 0).2.1 (TX6 0).2.2.1 ∈ wsX6_settle := by decide +kernel
theorem hV_X0_plant : yX0_plant.cls = RX0 ∧ yX0_plant.cls ≠ "java/lang/invoke/MethodHandle" ∧ yX0_plant.cls ≠ "java/lang/invoke/VarHandle" ∧ (parseMethodDescriptor yX0_plant.desc).map (fun d => d.parameters.length) = some 1 := by decide +kernel
theorem fX6_settle_33 : Cond.fieldLink RX6 33 (TX6 3).1 (TX6 3).2.1 (TX6 3).2.2.1 ∈ wsX6_settle := by decide +kernel
theorem hV_X0_differences : yX0_differences.cls = RX0 ∧ yX0_differences.cls ≠ "java/lang/invoke/MethodHandle" ∧ yX0_differences.cls ≠ "java/lang/invoke/VarHandle" ∧ (parseMethodDescriptor yX0_differences.desc).map (fun d => d.parameters.length) = some 1 := by decide +kernel
set_option maxRecDepth 100000 in
set_option maxHeartbeats 4000000 in
theorem r_X6_settle {l : Launch} {G : GG} {A : Nat → Prop} {n : Nat} {w : Wd} {this : Nat} {z : (Int32 × Wd)} (h : m_X6_settle n w this = some z) : Con l yX6_settle wsX6_settle { frames := 3, cells := 0, slots := 0, locals := 72 } G A [.ref this] w (some (.int z.1)) z.2 := by
  refine Con.of (own := RX6) (cc := cX6_settle) (maxL := 3) (ret := (some .int)) rfl (by decide) rfl (Nat.le_of_ble_eq_true rfl) ?_
  intro p e s m args below meth c C
  show V p l e { frames := 3, cells := 0, slots := 0, locals := 72 } s m args below meth c G A 3 0 [(0, .ref this)] [] w (some (.int z.1)) z.2
  unfold m_X6_settle at h
  refine v_aload_n C 0 dX6_settle_0 rfl rfl ?_
  obtain ⟨q1, e_q1, h⟩ := bnd h
  refine v_getf C (ci := 5) (k := 4) rfl inX6_settle_X6 (by decide) fX6_settle_37 dX6_settle_1 (gfR_e e_q1) ?_
  refine v_aload_n C 0 dX6_settle_4 rfl rfl ?_
  obtain ⟨q2, e_q2, h⟩ := bnd h
  refine v_getf C (ci := 5) (k := 0) rfl inX6_settle_X6 (by decide) fX6_settle_10 dX6_settle_5 (gfR_e e_q2) ?_
  obtain ⟨u3, e_u3, h⟩ := bnd h
  obtain ⟨z4, e_z4, h⟩ := bnd h
  refine v_callVv C (ci := 0) (av := [.ref q2]) (rest := []) rfl gX6_settle_X0_plant rfl ⟨rfl, rfl⟩ hV_X0_plant ⟨(Nat.le_of_ble_eq_true rfl), (Nat.le_of_ble_eq_true rfl)⟩ e_u3 (r_X0_plant (A := A) e_z4) rfl rfl (Nat.le_of_ble_eq_true rfl) dX6_settle_8 ?_
  refine v_aload_n C 0 dX6_settle_11 rfl rfl ?_
  obtain ⟨q5, e_q5, h⟩ := bnd h
  refine v_getf C (ci := 5) (k := 3) rfl inX6_settle_X6 (by decide) fX6_settle_33 dX6_settle_12 (gfR_e e_q5) ?_
  refine v_at (pc' := 15) rfl ?_
  refine v_aload_n C 0 dX6_settle_15 rfl rfl ?_
  obtain ⟨q6, e_q6, h⟩ := bnd h
  refine v_getf C (ci := 5) (k := 4) rfl inX6_settle_X6 (by decide) fX6_settle_37 dX6_settle_16 (gfR_e e_q6) ?_
  obtain ⟨u7, e_u7, h⟩ := bnd h
  obtain ⟨x8, e_x8, h⟩ := bnd h
  refine v_callVi C (ci := 0) (av := [.ref q6]) (rest := []) rfl gX6_settle_X0_differences rfl ⟨rfl, rfl⟩ hV_X0_differences ⟨(Nat.le_of_ble_eq_true rfl), (Nat.le_of_ble_eq_true rfl)⟩ e_u7 (r_X0_differences (A := A) e_x8) rfl rfl (Nat.le_of_ble_eq_true rfl) dX6_settle_19 ?_
  refine v_istore_n C (lv' := [(1, .int x8), (0, .ref this)]) dX6_settle_22 rfl (by decide) rfl ?_
  refine v_aload_n C 1 dX6_settle_23 rfl rfl ?_
  obtain ⟨q9, e_q9, h⟩ := bnd h
  refine v_getf C (ci := 5) (k := 3) rfl inX6_settle_X6 (by decide) fX6_settle_33 dX6_settle_24 (gfR_e e_q9) ?_
  refine v_astore_n C (lv' := [(2, .ref q9), (1, .int x8), (0, .ref this)]) dX6_settle_27 rfl (by decide) rfl ?_
  refine v_aload_n C 2 dX6_settle_28 rfl rfl ?_
  refine v_at (pc' := 29) rfl ?_
  refine v_aload_n C 2 dX6_settle_29 rfl rfl ?_
  obtain ⟨q10, e_q10, h⟩ := bnd h
  refine v_getf C (ci := 5) (k := 4) rfl inX6_settle_X6 (by decide) fX6_settle_37 dX6_settle_30 (gfR_e e_q10) ?_
  obtain ⟨w11, e_w11, h⟩ := bnd h
  refine v_putf C (ci := 5) (k := 3) rfl inX6_settle_X6 tyX6_ok nmX6 (by decide) fX6_settle_33 rfl (tyX6_ok 3 (by decide)) rfl rfl dX6_settle_33 e_w11 ?_
  refine v_aload_n C 2 dX6_settle_36 rfl rfl ?_
  refine v_aload_n C 0 dX6_settle_37 rfl rfl ?_
  obtain ⟨w12, e_w12, h⟩ := bnd h
  refine v_putf C (ci := 5) (k := 4) rfl inX6_settle_X6 tyX6_ok nmX6 (by decide) fX6_settle_37 rfl (tyX6_ok 4 (by decide)) rfl rfl dX6_settle_38 e_w12 ?_
  refine v_iload_n C 1 dX6_settle_41 rfl rfl ?_
  obtain rfl := Option.some.inj h
  exact v_iret C dX6_settle_42
theorem fX6_place_10 : Cond.fieldLink RX6 10 (TX6 0).1 (TX6 0).2.1 (TX6 0).2.2.1 ∈ wsX6_place := by decide +kernel
theorem inX6_place_X6 : ∀ x ∈ u_ws RX6 TX6 5, x ∈ wsX6_place := by decide +kernel
theorem hV_X4_put : yX4_put.cls = RX4 ∧ yX4_put.cls ≠ "java/lang/invoke/MethodHandle" ∧ yX4_put.cls ≠ "java/lang/invoke/VarHandle" ∧ (parseMethodDescriptor yX4_put.desc).map (fun d => d.parameters.length) = some 3 := by decide +kernel
theorem hV_X6_settle : yX6_settle.cls = RX6 ∧ yX6_settle.cls ≠ "java/lang/invoke/MethodHandle" ∧ yX6_settle.cls ≠ "java/lang/invoke/VarHandle" ∧ (parseMethodDescriptor yX6_settle.desc).map (fun d => d.parameters.length) = some 0 := by decide +kernel
set_option maxRecDepth 100000 in
set_option maxHeartbeats 4000000 in
theorem r_X6_place {l : Launch} {G : GG} {A : Nat → Prop} {n : Nat} {w : Wd} {this : Nat} {a1 : Int32} {a2 : Int32} {a3 : Int32} {z : (Int32 × Wd)} (h : m_X6_place n w this a1 a2 a3 = some z) : Con l yX6_place wsX6_place { frames := 4, cells := 0, slots := 0, locals := 94 } G A [.ref this, .int a1, .int a2, .int a3] w (some (.int z.1)) z.2 := by
  refine Con.of (own := RX6) (cc := cX6_place) (maxL := 4) (ret := (some .int)) rfl (by decide) rfl (Nat.le_of_ble_eq_true rfl) ?_
  intro p e s m args below meth c C
  show V p l e { frames := 4, cells := 0, slots := 0, locals := 94 } s m args below meth c G A 4 0 [(0, .ref this), (1, .int a1), (2, .int a2), (3, .int a3)] [] w (some (.int z.1)) z.2
  unfold m_X6_place at h
  refine v_aload_n C 0 dX6_place_0 rfl rfl ?_
  obtain ⟨q1, e_q1, h⟩ := bnd h
  refine v_getf C (ci := 5) (k := 0) rfl inX6_place_X6 (by decide) fX6_place_10 dX6_place_1 (gfR_e e_q1) ?_
  refine v_iload_n C 1 dX6_place_4 rfl rfl ?_
  refine v_iload_n C 2 dX6_place_5 rfl rfl ?_
  refine v_iload_n C 3 dX6_place_6 rfl rfl ?_
  obtain ⟨u2, e_u2, h⟩ := bnd h
  obtain ⟨z3, e_z3, h⟩ := bnd h
  refine v_callVv C (ci := 3) (av := [.int a1, .int a2, .int a3]) (rest := []) rfl gX6_place_X4_put rfl ⟨rfl, rfl⟩ hV_X4_put ⟨(Nat.le_of_ble_eq_true rfl), (Nat.le_of_ble_eq_true rfl)⟩ e_u2 (r_X4_put (A := A) e_z3) rfl rfl (Nat.le_of_ble_eq_true rfl) dX6_place_7 ?_
  refine v_aload_n C 0 dX6_place_10 rfl rfl ?_
  refine v_at (pc' := 11) rfl ?_
  obtain ⟨u4, e_u4, h⟩ := bnd h
  obtain ⟨z5, e_z5, h⟩ := bnd h
  refine v_callVi C (ci := 5) (av := []) (rest := []) rfl gX6_place_X6_settle rfl ⟨rfl, rfl⟩ hV_X6_settle ⟨(Nat.le_of_ble_eq_true rfl), (Nat.le_of_ble_eq_true rfl)⟩ e_u4 (r_X6_settle (A := A) e_z5) rfl rfl (Nat.le_of_ble_eq_true rfl) dX6_place_11 ?_
  obtain rfl := Option.some.inj h
  exact v_iret C dX6_place_14
theorem z_X6_inside (a0 : Int32) (a1 : Int32) (a2 : Int32) : bo (m_X6_inside a0 a1 a2) := by
  unfold m_X6_inside
  repeat' (first | (refine bo_ite ?_ ?_) | exact bo_0 | exact bo_1)
set_option maxRecDepth 100000 in
set_option maxHeartbeats 4000000 in
theorem r_X6_inside {l : Launch} {G : GG} {A : Nat → Prop} {w : Wd} {a0 : Int32} {a1 : Int32} {a2 : Int32} {z : Int32} (h : m_X6_inside a0 a1 a2 = z) : Con l yX6_inside wsX6_inside { frames := 0, cells := 0, slots := 0, locals := 0 } G A [.int a0, .int a1, .int a2] w (some (.int z)) w := by
  refine Con.of (own := RX6) (cc := cX6_inside) (maxL := 3) (ret := (some .boolean)) rfl (by decide) rfl (Nat.le_of_ble_eq_true rfl) ?_
  intro p e s m args below meth c C
  show V p l e { frames := 0, cells := 0, slots := 0, locals := 0 } s m args below meth c G A 3 0 [(0, .int a0), (1, .int a1), (2, .int a2)] [] w (some (.int z)) w
  unfold m_X6_inside at h
  refine v_iload_n C 0 dX6_inside_0 rfl rfl ?_
  refine v_iload_n C 1 dX6_inside_1 rfl rfl ?_
  refine v_icmp_lt C (tgt := 14) dX6_inside_2 (by decide) (fun q => ?_) (fun q => ?_)
  · have h := ite_t q h
    refine v_iconst C (v := 0) dX6_inside_14 (by decide) ?_
    subst h
    exact v_zret C dX6_inside_15 bo_0
  · have h := ite_f q h
    refine v_iload_n C 0 dX6_inside_5 rfl rfl ?_
    refine v_iload_n C 2 dX6_inside_6 rfl rfl ?_
    refine v_icmp_gt C (tgt := 14) dX6_inside_7 (by decide) (fun q => ?_) (fun q => ?_)
    · have h := ite_t q h
      refine v_iconst C (v := 0) dX6_inside_14 (by decide) ?_
      subst h
      exact v_zret C dX6_inside_15 bo_0
    · have h := ite_f q h
      refine v_iconst C (v := 1) dX6_inside_10 (by decide) ?_
      refine v_goto C (tgt := 15) dX6_inside_11 (by decide) ?_
      subst h
      exact v_zret C dX6_inside_15 bo_1
theorem hS_X6_inside : yX6_inside.cls ≠ "java/lang/invoke/MethodHandle" ∧ yX6_inside.cls ≠ "java/lang/invoke/VarHandle" ∧ (parseMethodDescriptor yX6_inside.desc).map (fun d => d.parameters.length) = some 3 := by decide +kernel
theorem z_X6_isId (a0 : Int32) : bo (m_X6_isId a0) := by
  unfold m_X6_isId
  repeat' (first | (refine bo_ite ?_ ?_) | exact bo_0 | exact bo_1 | exact z_X6_inside ..)
set_option maxRecDepth 100000 in
set_option maxHeartbeats 4000000 in
theorem r_X6_isId {l : Launch} {G : GG} {A : Nat → Prop} {w : Wd} {a0 : Int32} {z : Int32} (h : m_X6_isId a0 = z) : Con l yX6_isId wsX6_isId { frames := 1, cells := 0, slots := 0, locals := 22 } G A [.int a0] w (some (.int z)) w := by
  refine Con.of (own := RX6) (cc := cX6_isId) (maxL := 1) (ret := (some .boolean)) rfl (by decide) rfl (Nat.le_of_ble_eq_true rfl) ?_
  intro p e s m args below meth c C
  show V p l e { frames := 1, cells := 0, slots := 0, locals := 22 } s m args below meth c G A 1 0 [(0, .int a0)] [] w (some (.int z)) w
  unfold m_X6_isId at h
  refine v_iload_n C 0 dX6_isId_0 rfl rfl ?_
  refine v_iconst C (v := 0) dX6_isId_1 (by decide) ?_
  refine v_bipush C (v := 23) dX6_isId_2 (by decide) ?_
  refine v_callSi C (av := [.int a0, .int 0, .int 23]) (rest := []) gX6_isId_X6_inside rfl ⟨rfl, rfl⟩ hS_X6_inside ⟨(Nat.le_of_ble_eq_true rfl), (Nat.le_of_ble_eq_true rfl)⟩ (r_X6_inside (A := A) rfl) rfl rfl (Nat.le_of_ble_eq_true rfl) dX6_isId_4 ?_
  subst h
  exact v_zret C dX6_isId_7 (z_X6_inside ..)
theorem z_X6_isPosition (a0 : Int32) (a1 : Int32) : bo (m_X6_isPosition a0 a1) := by
  unfold m_X6_isPosition
  repeat' (first | (refine bo_ite ?_ ?_) | exact bo_0 | exact bo_1 | exact z_X6_inside ..)
set_option maxRecDepth 100000 in
set_option maxHeartbeats 4000000 in
theorem r_X6_isPosition {l : Launch} {G : GG} {A : Nat → Prop} {w : Wd} {a0 : Int32} {a1 : Int32} {z : Int32} (h : m_X6_isPosition a0 a1 = z) : Con l yX6_isPosition wsX6_isPosition { frames := 1, cells := 0, slots := 0, locals := 22 } G A [.int a0, .int a1] w (some (.int z)) w := by
  refine Con.of (own := RX6) (cc := cX6_isPosition) (maxL := 2) (ret := (some .boolean)) rfl (by decide) rfl (Nat.le_of_ble_eq_true rfl) ?_
  intro p e s m args below meth c C
  show V p l e { frames := 1, cells := 0, slots := 0, locals := 22 } s m args below meth c G A 2 0 [(0, .int a0), (1, .int a1)] [] w (some (.int z)) w
  unfold m_X6_isPosition at h
  refine v_iload_n C 0 dX6_isPosition_0 rfl rfl ?_
  refine v_iconst C (v := 0) dX6_isPosition_1 (by decide) ?_
  refine v_bipush C (v := 63) dX6_isPosition_2 (by decide) ?_
  refine v_callSi C (av := [.int a0, .int 0, .int 63]) (rest := []) gX6_isPosition_X6_inside rfl ⟨rfl, rfl⟩ hS_X6_inside ⟨(Nat.le_of_ble_eq_true rfl), (Nat.le_of_ble_eq_true rfl)⟩ (r_X6_inside (A := A) rfl) rfl rfl (Nat.le_of_ble_eq_true rfl) dX6_isPosition_4 ?_
  refine v_if_eq C (tgt := 24) dX6_isPosition_7 (by decide) (fun q => ?_) (fun q => ?_)
  · have h := ite_t q h
    refine v_iconst C (v := 0) dX6_isPosition_24 (by decide) ?_
    subst h
    exact v_zret C dX6_isPosition_25 bo_0
  · have h := ite_f q h
    refine v_iload_n C 1 dX6_isPosition_10 rfl rfl ?_
    refine v_iconst C (v := 0) dX6_isPosition_11 (by decide) ?_
    refine v_bipush C (v := 63) dX6_isPosition_12 (by decide) ?_
    refine v_callSi C (av := [.int a1, .int 0, .int 63]) (rest := []) gX6_isPosition_X6_inside rfl ⟨rfl, rfl⟩ hS_X6_inside ⟨(Nat.le_of_ble_eq_true rfl), (Nat.le_of_ble_eq_true rfl)⟩ (r_X6_inside (A := A) rfl) rfl rfl (Nat.le_of_ble_eq_true rfl) dX6_isPosition_14 ?_
    refine v_if_eq C (tgt := 24) dX6_isPosition_17 (by decide) (fun q => ?_) (fun q => ?_)
    · have h := ite_t q h
      refine v_iconst C (v := 0) dX6_isPosition_24 (by decide) ?_
      subst h
      exact v_zret C dX6_isPosition_25 bo_0
    · have h := ite_f q h
      refine v_iconst C (v := 1) dX6_isPosition_20 (by decide) ?_
      refine v_goto C (tgt := 25) dX6_isPosition_21 (by decide) ?_
      subst h
      exact v_zret C dX6_isPosition_25 bo_1
theorem hS_X6_isId : yX6_isId.cls ≠ "java/lang/invoke/MethodHandle" ∧ yX6_isId.cls ≠ "java/lang/invoke/VarHandle" ∧ (parseMethodDescriptor yX6_isId.desc).map (fun d => d.parameters.length) = some 1 := by decide +kernel
theorem hS_X6_isPosition : yX6_isPosition.cls ≠ "java/lang/invoke/MethodHandle" ∧ yX6_isPosition.cls ≠ "java/lang/invoke/VarHandle" ∧ (parseMethodDescriptor yX6_isPosition.desc).map (fun d => d.parameters.length) = some 2 := by decide +kernel
theorem fX6_refusalOfPlace_10 : Cond.fieldLink RX6 10 (TX6 0).1 (TX6 0).2.1 (TX6 0).2.2.1 ∈ wsX6_refusalOfPlace := by decide +kernel
theorem inX6_refusalOfPlace_X6 : ∀ x ∈ u_ws RX6 TX6 5, x ∈ wsX6_refusalOfPlace := by decide +kernel
theorem fX6_refusalOfPlace_113 : Cond.fieldLink RX6 113 (TX4 0).1 (TX4 0).2.1 (TX4 0).2.2.1 ∈ wsX6_refusalOfPlace := by decide +kernel
theorem inX6_refusalOfPlace_X4 : ∀ x ∈ u_ws RX4 TX4 9, x ∈ wsX6_refusalOfPlace := by decide +kernel
set_option maxRecDepth 100000 in
set_option maxHeartbeats 4000000 in
theorem r_X6_refusalOfPlace {l : Launch} {G : GG} {A : Nat → Prop} {n : Nat} {w : Wd} {this : Nat} {a1 : Int32} {a2 : Int32} {a3 : Int32} {a4 : Int32} {z : Int32} (h : m_X6_refusalOfPlace n w this a1 a2 a3 a4 = some z) : Con l yX6_refusalOfPlace wsX6_refusalOfPlace { frames := 2, cells := 0, slots := 0, locals := 43 } G A [.ref this, .int a1, .int a2, .int a3, .int a4] w (some (.int z)) w := by
  refine Con.of (own := RX6) (cc := cX6_refusalOfPlace) (maxL := 5) (ret := (some .int)) rfl (by decide) rfl (Nat.le_of_ble_eq_true rfl) ?_
  intro p e s m args below meth c C
  show V p l e { frames := 2, cells := 0, slots := 0, locals := 43 } s m args below meth c G A 5 0 [(0, .ref this), (1, .int a1), (2, .int a2), (3, .int a3), (4, .int a4)] [] w (some (.int z)) w
  unfold m_X6_refusalOfPlace at h
  refine v_iload_n C 1 dX6_refusalOfPlace_0 rfl rfl ?_
  refine v_callSi C (av := [.int a1]) (rest := []) gX6_refusalOfPlace_X6_isId rfl ⟨rfl, rfl⟩ hS_X6_isId ⟨(Nat.le_of_ble_eq_true rfl), (Nat.le_of_ble_eq_true rfl)⟩ (r_X6_isId (A := A) rfl) rfl rfl (Nat.le_of_ble_eq_true rfl) dX6_refusalOfPlace_1 ?_
  refine v_if_ne C (tgt := 9) dX6_refusalOfPlace_4 (by decide) (fun q => ?_) (fun q => ?_)
  · have h := ite_f q h
    refine v_iload_n C 2 dX6_refusalOfPlace_9 rfl rfl ?_
    refine v_iload_n C 3 dX6_refusalOfPlace_10 rfl rfl ?_
    refine v_callSi C (av := [.int a2, .int a3]) (rest := []) gX6_refusalOfPlace_X6_isPosition rfl ⟨rfl, rfl⟩ hS_X6_isPosition ⟨(Nat.le_of_ble_eq_true rfl), (Nat.le_of_ble_eq_true rfl)⟩ (r_X6_isPosition (A := A) rfl) rfl rfl (Nat.le_of_ble_eq_true rfl) dX6_refusalOfPlace_11 ?_
    refine v_if_ne C (tgt := 19) dX6_refusalOfPlace_14 (by decide) (fun q => ?_) (fun q => ?_)
    · have h := ite_f q h
      refine v_aload_n C 0 dX6_refusalOfPlace_19 rfl rfl ?_
      obtain ⟨q1, e_q1, h⟩ := bnd h
      refine v_getf C (ci := 5) (k := 0) rfl inX6_refusalOfPlace_X6 (by decide) fX6_refusalOfPlace_10 dX6_refusalOfPlace_20 (gfR_e e_q1) ?_
      obtain ⟨q2, e_q2, h⟩ := bnd h
      refine v_getf C (ci := 3) (k := 0) rfl inX6_refusalOfPlace_X4 (by decide) fX6_refusalOfPlace_113 dX6_refusalOfPlace_23 (gfR_e e_q2) ?_
      refine v_iload_n C 1 dX6_refusalOfPlace_26 rfl rfl ?_
      obtain ⟨x3, e_x3, h⟩ := bnd h
      refine v_zald C dX6_refusalOfPlace_27 e_x3 ?_
      refine v_iload C 4 dX6_refusalOfPlace_28 rfl ?_
      refine v_icmp_ne C (tgt := 37) dX6_refusalOfPlace_30 (by decide) (fun q => ?_) (fun q => ?_)
      · have h := ite_f q h
        refine v_iconst C (v := 3) dX6_refusalOfPlace_37 (by decide) ?_
        obtain rfl := Option.some.inj h
        exact v_iret C dX6_refusalOfPlace_38
      · have h := ite_t q h
        refine v_iconst C (v := 0) dX6_refusalOfPlace_33 (by decide) ?_
        refine v_goto C (tgt := 38) dX6_refusalOfPlace_34 (by decide) ?_
        obtain rfl := Option.some.inj h
        exact v_iret C dX6_refusalOfPlace_38
    · have h := ite_t q h
      refine v_iconst C (v := 2) dX6_refusalOfPlace_17 (by decide) ?_
      obtain rfl := Option.some.inj h
      exact v_iret C dX6_refusalOfPlace_18
  · have h := ite_t q h
    refine v_iconst C (v := 1) dX6_refusalOfPlace_7 (by decide) ?_
    obtain rfl := Option.some.inj h
    exact v_iret C dX6_refusalOfPlace_8
set_option maxRecDepth 100000 in
set_option maxHeartbeats 4000000 in
theorem r_X6_throwIf {l : Launch} {G : GG} {A : Nat → Prop} {n : Nat} {w : Wd} {a0 : Int32} {z : Unit} (h : m_X6_throwIf n w a0 = some z) : Con l yX6_throwIf wsX6_throwIf { frames := 0, cells := 0, slots := 0, locals := 0 } G A [.int a0] w (none) w := by
  refine Con.of (own := RX6) (cc := cX6_throwIf) (maxL := 1) (ret := none) rfl (by decide) rfl (Nat.le_of_ble_eq_true rfl) ?_
  intro p e s m args below meth c C
  show V p l e { frames := 0, cells := 0, slots := 0, locals := 0 } s m args below meth c G A 1 0 [(0, .int a0)] [] w (none) w
  unfold m_X6_throwIf at h
  refine v_iload_n C 0 dX6_throwIf_0 rfl rfl ?_
  refine v_iconst C (v := 1) dX6_throwIf_1 (by decide) ?_
  refine v_icmp_ne C (tgt := 16) dX6_throwIf_2 (by decide) (fun q => ?_) (fun q => ?_)
  · have h := ite_f q h
    refine v_iload_n C 0 dX6_throwIf_16 rfl rfl ?_
    refine v_iconst C (v := 2) dX6_throwIf_17 (by decide) ?_
    refine v_icmp_ne C (tgt := 32) dX6_throwIf_18 (by decide) (fun q => ?_) (fun q => ?_)
    · have h := ite_f q h
      refine v_iload_n C 0 dX6_throwIf_32 rfl rfl ?_
      refine v_iconst C (v := 3) dX6_throwIf_33 (by decide) ?_
      refine v_icmp_ne C (tgt := 48) dX6_throwIf_34 (by decide) (fun q => ?_) (fun q => ?_)
      · have h := ite_f q h
        obtain rfl := Option.some.inj h
        exact v_vret C dX6_throwIf_48
      · have h := ite_t q h
        cases h
    · have h := ite_t q h
      cases h
  · have h := ite_t q h
    cases h
theorem hV_X6_refusalOfPlace : yX6_refusalOfPlace.cls = RX6 ∧ yX6_refusalOfPlace.cls ≠ "java/lang/invoke/MethodHandle" ∧ yX6_refusalOfPlace.cls ≠ "java/lang/invoke/VarHandle" ∧ (parseMethodDescriptor yX6_refusalOfPlace.desc).map (fun d => d.parameters.length) = some 4 := by decide +kernel
theorem hS_X6_throwIf : yX6_throwIf.cls ≠ "java/lang/invoke/MethodHandle" ∧ yX6_throwIf.cls ≠ "java/lang/invoke/VarHandle" ∧ (parseMethodDescriptor yX6_throwIf.desc).map (fun d => d.parameters.length) = some 1 := by decide +kernel
theorem fX6_add_19 : Cond.fieldLink RX6 19 (TX6 1).1 (TX6 1).2.1 (TX6 1).2.2.1 ∈ wsX6_add := by decide +kernel
theorem inX6_add_X6 : ∀ x ∈ u_ws RX6 TX6 5, x ∈ wsX6_add := by decide +kernel
theorem fX6_add_10 : Cond.fieldLink RX6 10 (TX6 0).1 (TX6 0).2.1 (TX6 0).2.2.1 ∈ wsX6_add := by decide +kernel
theorem hV_X5_push : yX5_push.cls = RX5 ∧ yX5_push.cls ≠ "java/lang/invoke/MethodHandle" ∧ yX5_push.cls ≠ "java/lang/invoke/VarHandle" ∧ (parseMethodDescriptor yX5_push.desc).map (fun d => d.parameters.length) = some 1 := by decide +kernel
theorem hV_X6_place : yX6_place.cls = RX6 ∧ yX6_place.cls ≠ "java/lang/invoke/MethodHandle" ∧ yX6_place.cls ≠ "java/lang/invoke/VarHandle" ∧ (parseMethodDescriptor yX6_place.desc).map (fun d => d.parameters.length) = some 3 := by decide +kernel
set_option maxRecDepth 100000 in
set_option maxHeartbeats 4000000 in
theorem r_X6_add {l : Launch} {G : GG} {A : Nat → Prop} {n : Nat} {w : Wd} {this : Nat} {a1 : Int32} {a2 : Int32} {a3 : Int32} {z : (Int32 × Wd)} (h : m_X6_add n w this a1 a2 a3 = some z) : Con l yX6_add wsX6_add { frames := 5, cells := 0, slots := 0, locals := 117 } G A [.ref this, .int a1, .int a2, .int a3] w (some (.int z.1)) z.2 := by
  refine Con.of (own := RX6) (cc := cX6_add) (maxL := 4) (ret := (some .int)) rfl (by decide) rfl (Nat.le_of_ble_eq_true rfl) ?_
  intro p e s m args below meth c C
  show V p l e { frames := 5, cells := 0, slots := 0, locals := 117 } s m args below meth c G A 4 0 [(0, .ref this), (1, .int a1), (2, .int a2), (3, .int a3)] [] w (some (.int z.1)) z.2
  unfold m_X6_add at h
  refine v_aload_n C 0 dX6_add_0 rfl rfl ?_
  refine v_iload_n C 1 dX6_add_1 rfl rfl ?_
  refine v_iload_n C 2 dX6_add_2 rfl rfl ?_
  refine v_iload_n C 3 dX6_add_3 rfl rfl ?_
  refine v_iconst C (v := 0) dX6_add_4 (by decide) ?_
  obtain ⟨u1, e_u1, h⟩ := bnd h
  obtain ⟨x2, e_x2, h⟩ := bnd h
  refine v_callVi C (ci := 5) (av := [.int a1, .int a2, .int a3, .int 0]) (rest := []) rfl gX6_add_X6_refusalOfPlace rfl ⟨rfl, rfl⟩ hV_X6_refusalOfPlace ⟨(Nat.le_of_ble_eq_true rfl), (Nat.le_of_ble_eq_true rfl)⟩ e_u1 (r_X6_refusalOfPlace (A := A) e_x2) rfl rfl (Nat.le_of_ble_eq_true rfl) dX6_add_5 ?_
  obtain ⟨z3, e_z3, h⟩ := bnd h
  refine v_callSv C (av := [.int x2]) (rest := []) gX6_add_X6_throwIf rfl ⟨rfl, rfl⟩ hS_X6_throwIf ⟨(Nat.le_of_ble_eq_true rfl), (Nat.le_of_ble_eq_true rfl)⟩ (r_X6_throwIf (A := A) e_z3) rfl rfl (Nat.le_of_ble_eq_true rfl) dX6_add_8 ?_
  refine v_at (pc' := 11) rfl ?_
  refine v_aload_n C 0 dX6_add_11 rfl rfl ?_
  obtain ⟨q4, e_q4, h⟩ := bnd h
  refine v_getf C (ci := 5) (k := 1) rfl inX6_add_X6 (by decide) fX6_add_19 dX6_add_12 (gfR_e e_q4) ?_
  refine v_aload_n C 0 dX6_add_15 rfl rfl ?_
  obtain ⟨q5, e_q5, h⟩ := bnd h
  refine v_getf C (ci := 5) (k := 0) rfl inX6_add_X6 (by decide) fX6_add_10 dX6_add_16 (gfR_e e_q5) ?_
  obtain ⟨u6, e_u6, h⟩ := bnd h
  obtain ⟨z7, e_z7, h⟩ := bnd h
  refine v_callVv C (ci := 4) (av := [.ref q5]) (rest := []) rfl gX6_add_X5_push rfl ⟨rfl, rfl⟩ hV_X5_push ⟨(Nat.le_of_ble_eq_true rfl), (Nat.le_of_ble_eq_true rfl)⟩ e_u6 (r_X5_push (A := A) e_z7) rfl rfl (Nat.le_of_ble_eq_true rfl) dX6_add_19 ?_
  refine v_aload_n C 0 dX6_add_22 rfl rfl ?_
  refine v_iload_n C 1 dX6_add_23 rfl rfl ?_
  refine v_iload_n C 2 dX6_add_24 rfl rfl ?_
  refine v_at (pc' := 25) rfl ?_
  refine v_iload_n C 3 dX6_add_25 rfl rfl ?_
  obtain ⟨u8, e_u8, h⟩ := bnd h
  obtain ⟨z9, e_z9, h⟩ := bnd h
  refine v_callVi C (ci := 5) (av := [.int a1, .int a2, .int a3]) (rest := []) rfl gX6_add_X6_place rfl ⟨rfl, rfl⟩ hV_X6_place ⟨(Nat.le_of_ble_eq_true rfl), (Nat.le_of_ble_eq_true rfl)⟩ e_u8 (r_X6_place (A := A) e_z9) rfl rfl (Nat.le_of_ble_eq_true rfl) dX6_add_26 ?_
  obtain rfl := Option.some.inj h
  exact v_iret C dX6_add_29
theorem fX6_move_19 : Cond.fieldLink RX6 19 (TX6 1).1 (TX6 1).2.1 (TX6 1).2.2.1 ∈ wsX6_move := by decide +kernel
theorem inX6_move_X6 : ∀ x ∈ u_ws RX6 TX6 5, x ∈ wsX6_move := by decide +kernel
theorem fX6_move_10 : Cond.fieldLink RX6 10 (TX6 0).1 (TX6 0).2.1 (TX6 0).2.2.1 ∈ wsX6_move := by decide +kernel
set_option maxRecDepth 100000 in
set_option maxHeartbeats 4000000 in
theorem r_X6_move {l : Launch} {G : GG} {A : Nat → Prop} {n : Nat} {w : Wd} {this : Nat} {a1 : Int32} {a2 : Int32} {a3 : Int32} {z : (Int32 × Wd)} (h : m_X6_move n w this a1 a2 a3 = some z) : Con l yX6_move wsX6_move { frames := 5, cells := 0, slots := 0, locals := 117 } G A [.ref this, .int a1, .int a2, .int a3] w (some (.int z.1)) z.2 := by
  refine Con.of (own := RX6) (cc := cX6_move) (maxL := 4) (ret := (some .int)) rfl (by decide) rfl (Nat.le_of_ble_eq_true rfl) ?_
  intro p e s m args below meth c C
  show V p l e { frames := 5, cells := 0, slots := 0, locals := 117 } s m args below meth c G A 4 0 [(0, .ref this), (1, .int a1), (2, .int a2), (3, .int a3)] [] w (some (.int z.1)) z.2
  unfold m_X6_move at h
  refine v_aload_n C 0 dX6_move_0 rfl rfl ?_
  refine v_iload_n C 1 dX6_move_1 rfl rfl ?_
  refine v_iload_n C 2 dX6_move_2 rfl rfl ?_
  refine v_iload_n C 3 dX6_move_3 rfl rfl ?_
  refine v_iconst C (v := 1) dX6_move_4 (by decide) ?_
  obtain ⟨u1, e_u1, h⟩ := bnd h
  obtain ⟨x2, e_x2, h⟩ := bnd h
  refine v_callVi C (ci := 5) (av := [.int a1, .int a2, .int a3, .int 1]) (rest := []) rfl gX6_move_X6_refusalOfPlace rfl ⟨rfl, rfl⟩ hV_X6_refusalOfPlace ⟨(Nat.le_of_ble_eq_true rfl), (Nat.le_of_ble_eq_true rfl)⟩ e_u1 (r_X6_refusalOfPlace (A := A) e_x2) rfl rfl (Nat.le_of_ble_eq_true rfl) dX6_move_5 ?_
  obtain ⟨z3, e_z3, h⟩ := bnd h
  refine v_callSv C (av := [.int x2]) (rest := []) gX6_move_X6_throwIf rfl ⟨rfl, rfl⟩ hS_X6_throwIf ⟨(Nat.le_of_ble_eq_true rfl), (Nat.le_of_ble_eq_true rfl)⟩ (r_X6_throwIf (A := A) e_z3) rfl rfl (Nat.le_of_ble_eq_true rfl) dX6_move_8 ?_
  refine v_at (pc' := 11) rfl ?_
  refine v_aload_n C 0 dX6_move_11 rfl rfl ?_
  obtain ⟨q4, e_q4, h⟩ := bnd h
  refine v_getf C (ci := 5) (k := 1) rfl inX6_move_X6 (by decide) fX6_move_19 dX6_move_12 (gfR_e e_q4) ?_
  refine v_aload_n C 0 dX6_move_15 rfl rfl ?_
  obtain ⟨q5, e_q5, h⟩ := bnd h
  refine v_getf C (ci := 5) (k := 0) rfl inX6_move_X6 (by decide) fX6_move_10 dX6_move_16 (gfR_e e_q5) ?_
  obtain ⟨u6, e_u6, h⟩ := bnd h
  obtain ⟨z7, e_z7, h⟩ := bnd h
  refine v_callVv C (ci := 4) (av := [.ref q5]) (rest := []) rfl gX6_move_X5_push rfl ⟨rfl, rfl⟩ hV_X5_push ⟨(Nat.le_of_ble_eq_true rfl), (Nat.le_of_ble_eq_true rfl)⟩ e_u6 (r_X5_push (A := A) e_z7) rfl rfl (Nat.le_of_ble_eq_true rfl) dX6_move_19 ?_
  refine v_aload_n C 0 dX6_move_22 rfl rfl ?_
  refine v_iload_n C 1 dX6_move_23 rfl rfl ?_
  refine v_iload_n C 2 dX6_move_24 rfl rfl ?_
  refine v_at (pc' := 25) rfl ?_
  refine v_iload_n C 3 dX6_move_25 rfl rfl ?_
  obtain ⟨u8, e_u8, h⟩ := bnd h
  obtain ⟨z9, e_z9, h⟩ := bnd h
  refine v_callVi C (ci := 5) (av := [.int a1, .int a2, .int a3]) (rest := []) rfl gX6_move_X6_place rfl ⟨rfl, rfl⟩ hV_X6_place ⟨(Nat.le_of_ble_eq_true rfl), (Nat.le_of_ble_eq_true rfl)⟩ e_u8 (r_X6_place (A := A) e_z9) rfl rfl (Nat.le_of_ble_eq_true rfl) dX6_move_26 ?_
  obtain rfl := Option.some.inj h
  exact v_iret C dX6_move_29
theorem fX6_refusalOfDrop_10 : Cond.fieldLink RX6 10 (TX6 0).1 (TX6 0).2.1 (TX6 0).2.2.1 ∈ wsX6_refusalOfDrop := by decide +kernel
theorem inX6_refusalOfDrop_X6 : ∀ x ∈ u_ws RX6 TX6 5, x ∈ wsX6_refusalOfDrop := by decide +kernel
theorem fX6_refusalOfDrop_113 : Cond.fieldLink RX6 113 (TX4 0).1 (TX4 0).2.1 (TX4 0).2.2.1 ∈ wsX6_refusalOfDrop := by decide +kernel
theorem inX6_refusalOfDrop_X4 : ∀ x ∈ u_ws RX4 TX4 9, x ∈ wsX6_refusalOfDrop := by decide +kernel
set_option maxRecDepth 100000 in
set_option maxHeartbeats 4000000 in
theorem r_X6_refusalOfDrop {l : Launch} {G : GG} {A : Nat → Prop} {n : Nat} {w : Wd} {this : Nat} {a1 : Int32} {z : Int32} (h : m_X6_refusalOfDrop n w this a1 = some z) : Con l yX6_refusalOfDrop wsX6_refusalOfDrop { frames := 2, cells := 0, slots := 0, locals := 42 } G A [.ref this, .int a1] w (some (.int z)) w := by
  refine Con.of (own := RX6) (cc := cX6_refusalOfDrop) (maxL := 2) (ret := (some .int)) rfl (by decide) rfl (Nat.le_of_ble_eq_true rfl) ?_
  intro p e s m args below meth c C
  show V p l e { frames := 2, cells := 0, slots := 0, locals := 42 } s m args below meth c G A 2 0 [(0, .ref this), (1, .int a1)] [] w (some (.int z)) w
  unfold m_X6_refusalOfDrop at h
  refine v_iload_n C 1 dX6_refusalOfDrop_0 rfl rfl ?_
  refine v_callSi C (av := [.int a1]) (rest := []) gX6_refusalOfDrop_X6_isId rfl ⟨rfl, rfl⟩ hS_X6_isId ⟨(Nat.le_of_ble_eq_true rfl), (Nat.le_of_ble_eq_true rfl)⟩ (r_X6_isId (A := A) rfl) rfl rfl (Nat.le_of_ble_eq_true rfl) dX6_refusalOfDrop_1 ?_
  refine v_if_ne C (tgt := 9) dX6_refusalOfDrop_4 (by decide) (fun q => ?_) (fun q => ?_)
  · have h := ite_f q h
    refine v_aload_n C 0 dX6_refusalOfDrop_9 rfl rfl ?_
    obtain ⟨q1, e_q1, h⟩ := bnd h
    refine v_getf C (ci := 5) (k := 0) rfl inX6_refusalOfDrop_X6 (by decide) fX6_refusalOfDrop_10 dX6_refusalOfDrop_10 (gfR_e e_q1) ?_
    obtain ⟨q2, e_q2, h⟩ := bnd h
    refine v_getf C (ci := 3) (k := 0) rfl inX6_refusalOfDrop_X4 (by decide) fX6_refusalOfDrop_113 dX6_refusalOfDrop_13 (gfR_e e_q2) ?_
    refine v_iload_n C 1 dX6_refusalOfDrop_16 rfl rfl ?_
    obtain ⟨x3, e_x3, h⟩ := bnd h
    refine v_zald C dX6_refusalOfDrop_17 e_x3 ?_
    refine v_if_eq C (tgt := 25) dX6_refusalOfDrop_18 (by decide) (fun q => ?_) (fun q => ?_)
    · have h := ite_t q h
      refine v_iconst C (v := 3) dX6_refusalOfDrop_25 (by decide) ?_
      obtain rfl := Option.some.inj h
      exact v_iret C dX6_refusalOfDrop_26
    · have h := ite_f q h
      refine v_iconst C (v := 0) dX6_refusalOfDrop_21 (by decide) ?_
      refine v_goto C (tgt := 26) dX6_refusalOfDrop_22 (by decide) ?_
      obtain rfl := Option.some.inj h
      exact v_iret C dX6_refusalOfDrop_26
  · have h := ite_t q h
    refine v_iconst C (v := 1) dX6_refusalOfDrop_7 (by decide) ?_
    obtain rfl := Option.some.inj h
    exact v_iret C dX6_refusalOfDrop_8
theorem fX6_takeOut_10 : Cond.fieldLink RX6 10 (TX6 0).1 (TX6 0).2.1 (TX6 0).2.2.1 ∈ wsX6_takeOut := by decide +kernel
theorem inX6_takeOut_X6 : ∀ x ∈ u_ws RX6 TX6 5, x ∈ wsX6_takeOut := by decide +kernel
theorem hV_X4_clear : yX4_clear.cls = RX4 ∧ yX4_clear.cls ≠ "java/lang/invoke/MethodHandle" ∧ yX4_clear.cls ≠ "java/lang/invoke/VarHandle" ∧ (parseMethodDescriptor yX4_clear.desc).map (fun d => d.parameters.length) = some 1 := by decide +kernel
set_option maxRecDepth 100000 in
set_option maxHeartbeats 4000000 in
theorem r_X6_takeOut {l : Launch} {G : GG} {A : Nat → Prop} {n : Nat} {w : Wd} {this : Nat} {a1 : Int32} {z : (Int32 × Wd)} (h : m_X6_takeOut n w this a1 = some z) : Con l yX6_takeOut wsX6_takeOut { frames := 4, cells := 0, slots := 0, locals := 94 } G A [.ref this, .int a1] w (some (.int z.1)) z.2 := by
  refine Con.of (own := RX6) (cc := cX6_takeOut) (maxL := 2) (ret := (some .int)) rfl (by decide) rfl (Nat.le_of_ble_eq_true rfl) ?_
  intro p e s m args below meth c C
  show V p l e { frames := 4, cells := 0, slots := 0, locals := 94 } s m args below meth c G A 2 0 [(0, .ref this), (1, .int a1)] [] w (some (.int z.1)) z.2
  unfold m_X6_takeOut at h
  refine v_aload_n C 0 dX6_takeOut_0 rfl rfl ?_
  obtain ⟨q1, e_q1, h⟩ := bnd h
  refine v_getf C (ci := 5) (k := 0) rfl inX6_takeOut_X6 (by decide) fX6_takeOut_10 dX6_takeOut_1 (gfR_e e_q1) ?_
  refine v_iload_n C 1 dX6_takeOut_4 rfl rfl ?_
  obtain ⟨u2, e_u2, h⟩ := bnd h
  obtain ⟨z3, e_z3, h⟩ := bnd h
  refine v_callVv C (ci := 3) (av := [.int a1]) (rest := []) rfl gX6_takeOut_X4_clear rfl ⟨rfl, rfl⟩ hV_X4_clear ⟨(Nat.le_of_ble_eq_true rfl), (Nat.le_of_ble_eq_true rfl)⟩ e_u2 (r_X4_clear (A := A) e_z3) rfl rfl (Nat.le_of_ble_eq_true rfl) dX6_takeOut_5 ?_
  refine v_aload_n C 0 dX6_takeOut_8 rfl rfl ?_
  obtain ⟨u4, e_u4, h⟩ := bnd h
  obtain ⟨z5, e_z5, h⟩ := bnd h
  refine v_callVi C (ci := 5) (av := []) (rest := []) rfl gX6_takeOut_X6_settle rfl ⟨rfl, rfl⟩ hV_X6_settle ⟨(Nat.le_of_ble_eq_true rfl), (Nat.le_of_ble_eq_true rfl)⟩ e_u4 (r_X6_settle (A := A) e_z5) rfl rfl (Nat.le_of_ble_eq_true rfl) dX6_takeOut_9 ?_
  obtain rfl := Option.some.inj h
  exact v_iret C dX6_takeOut_12
theorem hV_X6_refusalOfDrop : yX6_refusalOfDrop.cls = RX6 ∧ yX6_refusalOfDrop.cls ≠ "java/lang/invoke/MethodHandle" ∧ yX6_refusalOfDrop.cls ≠ "java/lang/invoke/VarHandle" ∧ (parseMethodDescriptor yX6_refusalOfDrop.desc).map (fun d => d.parameters.length) = some 1 := by decide +kernel
theorem fX6_remove_19 : Cond.fieldLink RX6 19 (TX6 1).1 (TX6 1).2.1 (TX6 1).2.2.1 ∈ wsX6_remove := by decide +kernel
theorem inX6_remove_X6 : ∀ x ∈ u_ws RX6 TX6 5, x ∈ wsX6_remove := by decide +kernel
theorem fX6_remove_10 : Cond.fieldLink RX6 10 (TX6 0).1 (TX6 0).2.1 (TX6 0).2.2.1 ∈ wsX6_remove := by decide +kernel
theorem hV_X6_takeOut : yX6_takeOut.cls = RX6 ∧ yX6_takeOut.cls ≠ "java/lang/invoke/MethodHandle" ∧ yX6_takeOut.cls ≠ "java/lang/invoke/VarHandle" ∧ (parseMethodDescriptor yX6_takeOut.desc).map (fun d => d.parameters.length) = some 1 := by decide +kernel
set_option maxRecDepth 100000 in
set_option maxHeartbeats 4000000 in
theorem r_X6_remove {l : Launch} {G : GG} {A : Nat → Prop} {n : Nat} {w : Wd} {this : Nat} {a1 : Int32} {z : (Int32 × Wd)} (h : m_X6_remove n w this a1 = some z) : Con l yX6_remove wsX6_remove { frames := 5, cells := 0, slots := 0, locals := 115 } G A [.ref this, .int a1] w (some (.int z.1)) z.2 := by
  refine Con.of (own := RX6) (cc := cX6_remove) (maxL := 2) (ret := (some .int)) rfl (by decide) rfl (Nat.le_of_ble_eq_true rfl) ?_
  intro p e s m args below meth c C
  show V p l e { frames := 5, cells := 0, slots := 0, locals := 115 } s m args below meth c G A 2 0 [(0, .ref this), (1, .int a1)] [] w (some (.int z.1)) z.2
  unfold m_X6_remove at h
  refine v_aload_n C 0 dX6_remove_0 rfl rfl ?_
  refine v_iload_n C 1 dX6_remove_1 rfl rfl ?_
  obtain ⟨u1, e_u1, h⟩ := bnd h
  obtain ⟨x2, e_x2, h⟩ := bnd h
  refine v_callVi C (ci := 5) (av := [.int a1]) (rest := []) rfl gX6_remove_X6_refusalOfDrop rfl ⟨rfl, rfl⟩ hV_X6_refusalOfDrop ⟨(Nat.le_of_ble_eq_true rfl), (Nat.le_of_ble_eq_true rfl)⟩ e_u1 (r_X6_refusalOfDrop (A := A) e_x2) rfl rfl (Nat.le_of_ble_eq_true rfl) dX6_remove_2 ?_
  obtain ⟨z3, e_z3, h⟩ := bnd h
  refine v_callSv C (av := [.int x2]) (rest := []) gX6_remove_X6_throwIf rfl ⟨rfl, rfl⟩ hS_X6_throwIf ⟨(Nat.le_of_ble_eq_true rfl), (Nat.le_of_ble_eq_true rfl)⟩ (r_X6_throwIf (A := A) e_z3) rfl rfl (Nat.le_of_ble_eq_true rfl) dX6_remove_5 ?_
  refine v_aload_n C 0 dX6_remove_8 rfl rfl ?_
  obtain ⟨q4, e_q4, h⟩ := bnd h
  refine v_getf C (ci := 5) (k := 1) rfl inX6_remove_X6 (by decide) fX6_remove_19 dX6_remove_9 (gfR_e e_q4) ?_
  refine v_aload_n C 0 dX6_remove_12 rfl rfl ?_
  refine v_at (pc' := 13) rfl ?_
  obtain ⟨q5, e_q5, h⟩ := bnd h
  refine v_getf C (ci := 5) (k := 0) rfl inX6_remove_X6 (by decide) fX6_remove_10 dX6_remove_13 (gfR_e e_q5) ?_
  obtain ⟨u6, e_u6, h⟩ := bnd h
  obtain ⟨z7, e_z7, h⟩ := bnd h
  refine v_callVv C (ci := 4) (av := [.ref q5]) (rest := []) rfl gX6_remove_X5_push rfl ⟨rfl, rfl⟩ hV_X5_push ⟨(Nat.le_of_ble_eq_true rfl), (Nat.le_of_ble_eq_true rfl)⟩ e_u6 (r_X5_push (A := A) e_z7) rfl rfl (Nat.le_of_ble_eq_true rfl) dX6_remove_16 ?_
  refine v_aload_n C 0 dX6_remove_19 rfl rfl ?_
  refine v_iload_n C 1 dX6_remove_20 rfl rfl ?_
  obtain ⟨u8, e_u8, h⟩ := bnd h
  obtain ⟨z9, e_z9, h⟩ := bnd h
  refine v_callVi C (ci := 5) (av := [.int a1]) (rest := []) rfl gX6_remove_X6_takeOut rfl ⟨rfl, rfl⟩ hV_X6_takeOut ⟨(Nat.le_of_ble_eq_true rfl), (Nat.le_of_ble_eq_true rfl)⟩ e_u8 (r_X6_takeOut (A := A) e_z9) rfl rfl (Nat.le_of_ble_eq_true rfl) dX6_remove_21 ?_
  obtain rfl := Option.some.inj h
  exact v_iret C dX6_remove_24
theorem fX6_refusalOfSpeed_10 : Cond.fieldLink RX6 10 (TX6 0).1 (TX6 0).2.1 (TX6 0).2.2.1 ∈ wsX6_refusalOfSpeed := by decide +kernel
theorem inX6_refusalOfSpeed_X6 : ∀ x ∈ u_ws RX6 TX6 5, x ∈ wsX6_refusalOfSpeed := by decide +kernel
theorem fX6_refusalOfSpeed_113 : Cond.fieldLink RX6 113 (TX4 0).1 (TX4 0).2.1 (TX4 0).2.2.1 ∈ wsX6_refusalOfSpeed := by decide +kernel
theorem inX6_refusalOfSpeed_X4 : ∀ x ∈ u_ws RX4 TX4 9, x ∈ wsX6_refusalOfSpeed := by decide +kernel
set_option maxRecDepth 100000 in
set_option maxHeartbeats 4000000 in
theorem r_X6_refusalOfSpeed {l : Launch} {G : GG} {A : Nat → Prop} {n : Nat} {w : Wd} {this : Nat} {a1 : Int32} {a2 : Int32} {a3 : Int32} {z : Int32} (h : m_X6_refusalOfSpeed n w this a1 a2 a3 = some z) : Con l yX6_refusalOfSpeed wsX6_refusalOfSpeed { frames := 2, cells := 0, slots := 0, locals := 42 } G A [.ref this, .int a1, .int a2, .int a3] w (some (.int z)) w := by
  refine Con.of (own := RX6) (cc := cX6_refusalOfSpeed) (maxL := 4) (ret := (some .int)) rfl (by decide) rfl (Nat.le_of_ble_eq_true rfl) ?_
  intro p e s m args below meth c C
  show V p l e { frames := 2, cells := 0, slots := 0, locals := 42 } s m args below meth c G A 4 0 [(0, .ref this), (1, .int a1), (2, .int a2), (3, .int a3)] [] w (some (.int z)) w
  unfold m_X6_refusalOfSpeed at h
  refine v_iload_n C 1 dX6_refusalOfSpeed_0 rfl rfl ?_
  refine v_callSi C (av := [.int a1]) (rest := []) gX6_refusalOfSpeed_X6_isId rfl ⟨rfl, rfl⟩ hS_X6_isId ⟨(Nat.le_of_ble_eq_true rfl), (Nat.le_of_ble_eq_true rfl)⟩ (r_X6_isId (A := A) rfl) rfl rfl (Nat.le_of_ble_eq_true rfl) dX6_refusalOfSpeed_1 ?_
  refine v_if_ne C (tgt := 9) dX6_refusalOfSpeed_4 (by decide) (fun q => ?_) (fun q => ?_)
  · have h := ite_f q h
    refine v_iload_n C 2 dX6_refusalOfSpeed_9 rfl rfl ?_
    refine v_bipush C (v := (-9)) dX6_refusalOfSpeed_10 (by decide) ?_
    refine v_bipush C (v := 9) dX6_refusalOfSpeed_12 (by decide) ?_
    refine v_callSi C (av := [.int a2, .int (-9), .int 9]) (rest := []) gX6_refusalOfSpeed_X6_inside rfl ⟨rfl, rfl⟩ hS_X6_inside ⟨(Nat.le_of_ble_eq_true rfl), (Nat.le_of_ble_eq_true rfl)⟩ (r_X6_inside (A := A) rfl) rfl rfl (Nat.le_of_ble_eq_true rfl) dX6_refusalOfSpeed_14 ?_
    refine v_if_eq C (tgt := 31) dX6_refusalOfSpeed_17 (by decide) (fun q => ?_) (fun q => ?_)
    · have h := ite_t q h
      refine v_iconst C (v := 2) dX6_refusalOfSpeed_31 (by decide) ?_
      obtain rfl := Option.some.inj h
      exact v_iret C dX6_refusalOfSpeed_32
    · have h := ite_f q h
      refine v_iload_n C 3 dX6_refusalOfSpeed_20 rfl rfl ?_
      refine v_bipush C (v := (-9)) dX6_refusalOfSpeed_21 (by decide) ?_
      refine v_bipush C (v := 9) dX6_refusalOfSpeed_23 (by decide) ?_
      refine v_callSi C (av := [.int a3, .int (-9), .int 9]) (rest := []) gX6_refusalOfSpeed_X6_inside rfl ⟨rfl, rfl⟩ hS_X6_inside ⟨(Nat.le_of_ble_eq_true rfl), (Nat.le_of_ble_eq_true rfl)⟩ (r_X6_inside (A := A) rfl) rfl rfl (Nat.le_of_ble_eq_true rfl) dX6_refusalOfSpeed_25 ?_
      refine v_if_ne C (tgt := 33) dX6_refusalOfSpeed_28 (by decide) (fun q => ?_) (fun q => ?_)
      · have h := ite_f q h
        refine v_aload_n C 0 dX6_refusalOfSpeed_33 rfl rfl ?_
        obtain ⟨q1, e_q1, h⟩ := bnd h
        refine v_getf C (ci := 5) (k := 0) rfl inX6_refusalOfSpeed_X6 (by decide) fX6_refusalOfSpeed_10 dX6_refusalOfSpeed_34 (gfR_e e_q1) ?_
        obtain ⟨q2, e_q2, h⟩ := bnd h
        refine v_getf C (ci := 3) (k := 0) rfl inX6_refusalOfSpeed_X4 (by decide) fX6_refusalOfSpeed_113 dX6_refusalOfSpeed_37 (gfR_e e_q2) ?_
        refine v_iload_n C 1 dX6_refusalOfSpeed_40 rfl rfl ?_
        obtain ⟨x3, e_x3, h⟩ := bnd h
        refine v_zald C dX6_refusalOfSpeed_41 e_x3 ?_
        refine v_if_eq C (tgt := 49) dX6_refusalOfSpeed_42 (by decide) (fun q => ?_) (fun q => ?_)
        · have h := ite_t q h
          refine v_iconst C (v := 3) dX6_refusalOfSpeed_49 (by decide) ?_
          obtain rfl := Option.some.inj h
          exact v_iret C dX6_refusalOfSpeed_50
        · have h := ite_f q h
          refine v_iconst C (v := 0) dX6_refusalOfSpeed_45 (by decide) ?_
          refine v_goto C (tgt := 50) dX6_refusalOfSpeed_46 (by decide) ?_
          obtain rfl := Option.some.inj h
          exact v_iret C dX6_refusalOfSpeed_50
      · have h := ite_t q h
        refine v_iconst C (v := 2) dX6_refusalOfSpeed_31 (by decide) ?_
        obtain rfl := Option.some.inj h
        exact v_iret C dX6_refusalOfSpeed_32
  · have h := ite_t q h
    refine v_iconst C (v := 1) dX6_refusalOfSpeed_7 (by decide) ?_
    obtain rfl := Option.some.inj h
    exact v_iret C dX6_refusalOfSpeed_8
theorem fX6_setSpeed_10 : Cond.fieldLink RX6 10 (TX6 0).1 (TX6 0).2.1 (TX6 0).2.2.1 ∈ wsX6_setSpeed := by decide +kernel
theorem inX6_setSpeed_X6 : ∀ x ∈ u_ws RX6 TX6 5, x ∈ wsX6_setSpeed := by decide +kernel
theorem fX6_setSpeed_66 : Cond.fieldLink RX6 66 (TX4 3).1 (TX4 3).2.1 (TX4 3).2.2.1 ∈ wsX6_setSpeed := by decide +kernel
theorem inX6_setSpeed_X4 : ∀ x ∈ u_ws RX4 TX4 9, x ∈ wsX6_setSpeed := by decide +kernel
theorem fX6_setSpeed_75 : Cond.fieldLink RX6 75 (TX4 4).1 (TX4 4).2.1 (TX4 4).2.2.1 ∈ wsX6_setSpeed := by decide +kernel
set_option maxRecDepth 100000 in
set_option maxHeartbeats 4000000 in
theorem r_X6_setSpeed {l : Launch} {G : GG} {A : Nat → Prop} {n : Nat} {w : Wd} {this : Nat} {a1 : Int32} {a2 : Int32} {a3 : Int32} {z : Wd} (h : m_X6_setSpeed n w this a1 a2 a3 = some z) : Con l yX6_setSpeed wsX6_setSpeed { frames := 0, cells := 0, slots := 0, locals := 0 } G A [.ref this, .int a1, .int a2, .int a3] w (none) z := by
  refine Con.of (own := RX6) (cc := cX6_setSpeed) (maxL := 4) (ret := none) rfl (by decide) rfl (Nat.le_of_ble_eq_true rfl) ?_
  intro p e s m args below meth c C
  show V p l e { frames := 0, cells := 0, slots := 0, locals := 0 } s m args below meth c G A 4 0 [(0, .ref this), (1, .int a1), (2, .int a2), (3, .int a3)] [] w (none) z
  unfold m_X6_setSpeed at h
  refine v_aload_n C 0 dX6_setSpeed_0 rfl rfl ?_
  obtain ⟨q1, e_q1, h⟩ := bnd h
  refine v_getf C (ci := 5) (k := 0) rfl inX6_setSpeed_X6 (by decide) fX6_setSpeed_10 dX6_setSpeed_1 (gfR_e e_q1) ?_
  obtain ⟨q2, e_q2, h⟩ := bnd h
  refine v_getf C (ci := 3) (k := 3) rfl inX6_setSpeed_X4 (by decide) fX6_setSpeed_66 dX6_setSpeed_4 (gfR_e e_q2) ?_
  refine v_iload_n C 1 dX6_setSpeed_7 rfl rfl ?_
  refine v_iload_n C 2 dX6_setSpeed_8 rfl rfl ?_
  obtain ⟨w3, e_w3, h⟩ := bnd h
  refine v_iast C dX6_setSpeed_9 e_w3 ?_
  refine v_aload_n C 0 dX6_setSpeed_10 rfl rfl ?_
  refine v_at (pc' := 11) rfl ?_
  obtain ⟨q4, e_q4, h⟩ := bnd h
  refine v_getf C (ci := 5) (k := 0) rfl inX6_setSpeed_X6 (by decide) fX6_setSpeed_10 dX6_setSpeed_11 (gfR_e e_q4) ?_
  obtain ⟨q5, e_q5, h⟩ := bnd h
  refine v_getf C (ci := 3) (k := 4) rfl inX6_setSpeed_X4 (by decide) fX6_setSpeed_75 dX6_setSpeed_14 (gfR_e e_q5) ?_
  refine v_iload_n C 1 dX6_setSpeed_17 rfl rfl ?_
  refine v_iload_n C 3 dX6_setSpeed_18 rfl rfl ?_
  obtain ⟨w6, e_w6, h⟩ := bnd h
  refine v_iast C dX6_setSpeed_19 e_w6 ?_
  obtain rfl := Option.some.inj h
  exact v_vret C dX6_setSpeed_20
theorem hV_X6_refusalOfSpeed : yX6_refusalOfSpeed.cls = RX6 ∧ yX6_refusalOfSpeed.cls ≠ "java/lang/invoke/MethodHandle" ∧ yX6_refusalOfSpeed.cls ≠ "java/lang/invoke/VarHandle" ∧ (parseMethodDescriptor yX6_refusalOfSpeed.desc).map (fun d => d.parameters.length) = some 3 := by decide +kernel
theorem fX6_setVelocity_19 : Cond.fieldLink RX6 19 (TX6 1).1 (TX6 1).2.1 (TX6 1).2.2.1 ∈ wsX6_setVelocity := by decide +kernel
theorem inX6_setVelocity_X6 : ∀ x ∈ u_ws RX6 TX6 5, x ∈ wsX6_setVelocity := by decide +kernel
theorem fX6_setVelocity_10 : Cond.fieldLink RX6 10 (TX6 0).1 (TX6 0).2.1 (TX6 0).2.2.1 ∈ wsX6_setVelocity := by decide +kernel
theorem fX6_setVelocity_66 : Cond.fieldLink RX6 66 (TX4 3).1 (TX4 3).2.1 (TX4 3).2.2.1 ∈ wsX6_setVelocity := by decide +kernel
theorem inX6_setVelocity_X4 : ∀ x ∈ u_ws RX4 TX4 9, x ∈ wsX6_setVelocity := by decide +kernel
theorem mlX6_setVelocity_70 : Cond.methodLink RX6 70 Lib.Math.abs.name ∈ wsX6_setVelocity := by decide +kernel
theorem msX6_setVelocity_abs : Cond.static Lib.Math.abs.name ∈ wsX6_setVelocity := by decide +kernel
theorem miX6_setVelocity : Cond.initialized "java/lang/Math" ∈ wsX6_setVelocity := by decide +kernel
theorem mcX6_setVelocity_abs : Cond.code Lib.Math.abs.name Lib.Math.abs.code 1 (some .int) ∈ wsX6_setVelocity := by decide +kernel
theorem fX6_setVelocity_75 : Cond.fieldLink RX6 75 (TX4 4).1 (TX4 4).2.1 (TX4 4).2.2.1 ∈ wsX6_setVelocity := by decide +kernel
theorem hV_X6_setSpeed : yX6_setSpeed.cls = RX6 ∧ yX6_setSpeed.cls ≠ "java/lang/invoke/MethodHandle" ∧ yX6_setSpeed.cls ≠ "java/lang/invoke/VarHandle" ∧ (parseMethodDescriptor yX6_setSpeed.desc).map (fun d => d.parameters.length) = some 3 := by decide +kernel
set_option maxRecDepth 100000 in
set_option maxHeartbeats 4000000 in
theorem r_X6_setVelocity {l : Launch} {G : GG} {A : Nat → Prop} {n : Nat} {w : Wd} {this : Nat} {a1 : Int32} {a2 : Int32} {a3 : Int32} {z : (Int32 × Wd)} (h : m_X6_setVelocity n w this a1 a2 a3 = some z) : Con l yX6_setVelocity wsX6_setVelocity { frames := 3, cells := 0, slots := 0, locals := 65 } G A [.ref this, .int a1, .int a2, .int a3] w (some (.int z.1)) z.2 := by
  refine Con.of (own := RX6) (cc := cX6_setVelocity) (maxL := 5) (ret := (some .int)) rfl (by decide) rfl (Nat.le_of_ble_eq_true rfl) ?_
  intro p e s m args below meth c C
  show V p l e { frames := 3, cells := 0, slots := 0, locals := 65 } s m args below meth c G A 5 0 [(0, .ref this), (1, .int a1), (2, .int a2), (3, .int a3)] [] w (some (.int z.1)) z.2
  unfold m_X6_setVelocity at h
  refine v_aload_n C 0 dX6_setVelocity_0 rfl rfl ?_
  refine v_iload_n C 1 dX6_setVelocity_1 rfl rfl ?_
  refine v_iload_n C 2 dX6_setVelocity_2 rfl rfl ?_
  refine v_iload_n C 3 dX6_setVelocity_3 rfl rfl ?_
  obtain ⟨u1, e_u1, h⟩ := bnd h
  obtain ⟨x2, e_x2, h⟩ := bnd h
  refine v_callVi C (ci := 5) (av := [.int a1, .int a2, .int a3]) (rest := []) rfl gX6_setVelocity_X6_refusalOfSpeed rfl ⟨rfl, rfl⟩ hV_X6_refusalOfSpeed ⟨(Nat.le_of_ble_eq_true rfl), (Nat.le_of_ble_eq_true rfl)⟩ e_u1 (r_X6_refusalOfSpeed (A := A) e_x2) rfl rfl (Nat.le_of_ble_eq_true rfl) dX6_setVelocity_4 ?_
  obtain ⟨z3, e_z3, h⟩ := bnd h
  refine v_callSv C (av := [.int x2]) (rest := []) gX6_setVelocity_X6_throwIf rfl ⟨rfl, rfl⟩ hS_X6_throwIf ⟨(Nat.le_of_ble_eq_true rfl), (Nat.le_of_ble_eq_true rfl)⟩ (r_X6_throwIf (A := A) e_z3) rfl rfl (Nat.le_of_ble_eq_true rfl) dX6_setVelocity_7 ?_
  refine v_aload_n C 0 dX6_setVelocity_10 rfl rfl ?_
  refine v_at (pc' := 11) rfl ?_
  obtain ⟨q4, e_q4, h⟩ := bnd h
  refine v_getf C (ci := 5) (k := 1) rfl inX6_setVelocity_X6 (by decide) fX6_setVelocity_19 dX6_setVelocity_11 (gfR_e e_q4) ?_
  refine v_aload_n C 0 dX6_setVelocity_14 rfl rfl ?_
  obtain ⟨q5, e_q5, h⟩ := bnd h
  refine v_getf C (ci := 5) (k := 0) rfl inX6_setVelocity_X6 (by decide) fX6_setVelocity_10 dX6_setVelocity_15 (gfR_e e_q5) ?_
  obtain ⟨u6, e_u6, h⟩ := bnd h
  obtain ⟨z7, e_z7, h⟩ := bnd h
  refine v_callVv C (ci := 4) (av := [.ref q5]) (rest := []) rfl gX6_setVelocity_X5_push rfl ⟨rfl, rfl⟩ hV_X5_push ⟨(Nat.le_of_ble_eq_true rfl), (Nat.le_of_ble_eq_true rfl)⟩ e_u6 (r_X5_push (A := A) e_z7) rfl rfl (Nat.le_of_ble_eq_true rfl) dX6_setVelocity_18 ?_
  refine v_bipush C (v := 10) dX6_setVelocity_21 (by decide) ?_
  refine v_aload_n C 0 dX6_setVelocity_23 rfl rfl ?_
  obtain ⟨q8, e_q8, h⟩ := bnd h
  refine v_getf C (ci := 5) (k := 0) rfl inX6_setVelocity_X6 (by decide) fX6_setVelocity_10 dX6_setVelocity_24 (gfR_e e_q8) ?_
  obtain ⟨q9, e_q9, h⟩ := bnd h
  refine v_getf C (ci := 3) (k := 3) rfl inX6_setVelocity_X4 (by decide) fX6_setVelocity_66 dX6_setVelocity_27 (gfR_e e_q9) ?_
  refine v_at (pc' := 30) rfl ?_
  refine v_iload_n C 1 dX6_setVelocity_30 rfl rfl ?_
  obtain ⟨x10, e_x10, h⟩ := bnd h
  refine v_iald C dX6_setVelocity_31 e_x10 ?_
  refine v_abs C mlX6_setVelocity_70 msX6_setVelocity_abs miX6_setVelocity mcX6_setVelocity_abs (Nat.le_of_ble_eq_true rfl) (Nat.le_of_ble_eq_true rfl) dX6_setVelocity_32 ?_
  refine v_imul C dX6_setVelocity_35 ?_
  refine v_aload_n C 0 dX6_setVelocity_36 rfl rfl ?_
  obtain ⟨q11, e_q11, h⟩ := bnd h
  refine v_getf C (ci := 5) (k := 0) rfl inX6_setVelocity_X6 (by decide) fX6_setVelocity_10 dX6_setVelocity_37 (gfR_e e_q11) ?_
  obtain ⟨q12, e_q12, h⟩ := bnd h
  refine v_getf C (ci := 3) (k := 4) rfl inX6_setVelocity_X4 (by decide) fX6_setVelocity_75 dX6_setVelocity_40 (gfR_e e_q12) ?_
  refine v_iload_n C 1 dX6_setVelocity_43 rfl rfl ?_
  refine v_at (pc' := 44) rfl ?_
  obtain ⟨x13, e_x13, h⟩ := bnd h
  refine v_iald C dX6_setVelocity_44 e_x13 ?_
  refine v_abs C mlX6_setVelocity_70 msX6_setVelocity_abs miX6_setVelocity mcX6_setVelocity_abs (Nat.le_of_ble_eq_true rfl) (Nat.le_of_ble_eq_true rfl) dX6_setVelocity_45 ?_
  refine v_iadd C dX6_setVelocity_48 ?_
  refine v_istore C (lv' := [(4, .int ((10 * (abI x10)) + (abI x13))), (0, .ref this), (1, .int a1), (2, .int a2), (3, .int a3)]) dX6_setVelocity_49 (by decide) rfl ?_
  refine v_aload_n C 1 dX6_setVelocity_51 rfl rfl ?_
  refine v_iload_n C 2 dX6_setVelocity_52 rfl rfl ?_
  refine v_iload_n C 3 dX6_setVelocity_53 rfl rfl ?_
  refine v_iload_n C 4 dX6_setVelocity_54 rfl rfl ?_
  refine v_at (pc' := 55) rfl ?_
  obtain ⟨u14, e_u14, h⟩ := bnd h
  obtain ⟨z15, e_z15, h⟩ := bnd h
  refine v_callVv C (ci := 5) (av := [.int a1, .int a2, .int a3]) (rest := []) rfl gX6_setVelocity_X6_setSpeed rfl ⟨rfl, rfl⟩ hV_X6_setSpeed ⟨(Nat.le_of_ble_eq_true rfl), (Nat.le_of_ble_eq_true rfl)⟩ e_u14 (r_X6_setSpeed (A := A) e_z15) rfl rfl (Nat.le_of_ble_eq_true rfl) dX6_setVelocity_55 ?_
  refine v_iload C 0 dX6_setVelocity_58 rfl ?_
  obtain rfl := Option.some.inj h
  exact v_iret C dX6_setVelocity_60
theorem fX6_letPass_10 : Cond.fieldLink RX6 10 (TX6 0).1 (TX6 0).2.1 (TX6 0).2.2.1 ∈ wsX6_letPass := by decide +kernel
theorem inX6_letPass_X6 : ∀ x ∈ u_ws RX6 TX6 5, x ∈ wsX6_letPass := by decide +kernel
theorem hV_X4_step : yX4_step.cls = RX4 ∧ yX4_step.cls ≠ "java/lang/invoke/MethodHandle" ∧ yX4_step.cls ≠ "java/lang/invoke/VarHandle" ∧ (parseMethodDescriptor yX4_step.desc).map (fun d => d.parameters.length) = some 0 := by decide +kernel
set_option maxRecDepth 100000 in
set_option maxHeartbeats 4000000 in
theorem r_X6_letPass_p4 {p : Program} {l : Launch} {e : Env} {s : State} {m : MethodId} {args : Array Value} {below : List Frame} {meth : Method} {c : Code} {G : GG} {A : Nat → Prop} (C : Cx p s m args meth c G A cX6_letPass 4 RX6 wsX6_letPass (some .int)) (n : Nat) {z : (Int32 × Wd)} : ∀ (t : Nat), ∀ (w : Wd) (a0 : Nat) (a1 : Int32) (a2 : Int32) (a3 : Int32), m_X6_letPass_p4 n t w a0 a1 a2 a3 = some z → V p l e { frames := 4, cells := 0, slots := 0, locals := 94 } s m args below meth c G A 4 4 [(0, .ref a0), (1, .int a1), (2, .int a2), (3, .int a3)] [] w (some (.int z.1)) z.2 := by
  intro t
  induction t with
  | zero =>
    intro w a0 a1 a2 a3 h
    rw [m_X6_letPass_p4] at h
    cases h
  | succ t ih =>
    intro w a0 a1 a2 a3 h
    rw [m_X6_letPass_p4] at h
    refine v_iload_n C 3 dX6_letPass_4 rfl rfl ?_
    refine v_iload_n C 1 dX6_letPass_5 rfl rfl ?_
    refine v_icmp_ge C (tgt := 29) dX6_letPass_6 (by decide) (fun q => ?_) (fun q => ?_)
    · have h := ite_t q h
      refine v_iload_n C 2 dX6_letPass_29 rfl rfl ?_
      obtain rfl := Option.some.inj h
      exact v_iret C dX6_letPass_30
    · have h := ite_f q h
      refine v_aload_n C 0 dX6_letPass_9 rfl rfl ?_
      obtain ⟨q1, e_q1, h⟩ := bnd h
      refine v_getf C (ci := 5) (k := 0) rfl inX6_letPass_X6 (by decide) fX6_letPass_10 dX6_letPass_10 (gfR_e e_q1) ?_
      obtain ⟨u2, e_u2, h⟩ := bnd h
      obtain ⟨z3, e_z3, h⟩ := bnd h
      refine v_callVv C (ci := 3) (av := []) (rest := []) rfl gX6_letPass_X4_step rfl ⟨rfl, rfl⟩ hV_X4_step ⟨(Nat.le_of_ble_eq_true rfl), (Nat.le_of_ble_eq_true rfl)⟩ e_u2 (r_X4_step (A := A) e_z3) rfl rfl (Nat.le_of_ble_eq_true rfl) dX6_letPass_13 ?_
      refine v_iload_n C 2 dX6_letPass_16 rfl rfl ?_
      refine v_aload_n C 0 dX6_letPass_17 rfl rfl ?_
      obtain ⟨u4, e_u4, h⟩ := bnd h
      obtain ⟨z5, e_z5, h⟩ := bnd h
      refine v_callVi C (ci := 5) (av := []) (rest := [.int a2]) rfl gX6_letPass_X6_settle rfl ⟨rfl, rfl⟩ hV_X6_settle ⟨(Nat.le_of_ble_eq_true rfl), (Nat.le_of_ble_eq_true rfl)⟩ e_u4 (r_X6_settle (A := A) e_z5) rfl rfl (Nat.le_of_ble_eq_true rfl) dX6_letPass_18 ?_
      refine v_iadd C dX6_letPass_21 ?_
      refine v_at (pc' := 22) rfl ?_
      refine v_istore_n C (lv' := [(2, .int (a2 + z5.1)), (0, .ref a0), (1, .int a1), (3, .int a3)]) dX6_letPass_22 rfl (by decide) rfl ?_
      refine v_iinc C (k := 3) (v := (a3 + 1)) (lv' := [(3, .int (a3 + 1)), (2, .int (a2 + z5.1)), (0, .ref a0), (1, .int a1)]) dX6_letPass_23 rfl rfl (by decide) rfl ?_
      refine v_goto C (tgt := 4) dX6_letPass_26 (by decide) ?_
      refine v_sub [2, 3, 1, 0] rfl ?_
      exact ih _ _ _ _ _ h
set_option maxRecDepth 100000 in
set_option maxHeartbeats 4000000 in
theorem r_X6_letPass {l : Launch} {G : GG} {A : Nat → Prop} {n : Nat} {w : Wd} {this : Nat} {a1 : Int32} {z : (Int32 × Wd)} (h : m_X6_letPass n w this a1 = some z) : Con l yX6_letPass wsX6_letPass { frames := 4, cells := 0, slots := 0, locals := 94 } G A [.ref this, .int a1] w (some (.int z.1)) z.2 := by
  refine Con.of (own := RX6) (cc := cX6_letPass) (maxL := 4) (ret := (some .int)) rfl (by decide) rfl (Nat.le_of_ble_eq_true rfl) ?_
  intro p e s m args below meth c C
  show V p l e { frames := 4, cells := 0, slots := 0, locals := 94 } s m args below meth c G A 4 0 [(0, .ref this), (1, .int a1)] [] w (some (.int z.1)) z.2
  unfold m_X6_letPass at h
  refine v_iconst C (v := 0) dX6_letPass_0 (by decide) ?_
  refine v_istore_n C (lv' := [(2, .int 0), (0, .ref this), (1, .int a1)]) dX6_letPass_1 rfl (by decide) rfl ?_
  refine v_iconst C (v := 0) dX6_letPass_2 (by decide) ?_
  refine v_istore_n C (lv' := [(3, .int 0), (2, .int 0), (0, .ref this), (1, .int a1)]) dX6_letPass_3 rfl (by decide) rfl ?_
  refine v_sub [2, 3, 1, 0] rfl ?_
  exact r_X6_letPass_p4 C n n _ _ _ _ _ h
set_option maxRecDepth 100000 in
set_option maxHeartbeats 4000000 in
theorem r_X6_refusalOfTicks {l : Launch} {G : GG} {A : Nat → Prop} {w : Wd} {a0 : Int32} {z : Int32} (h : m_X6_refusalOfTicks a0 = z) : Con l yX6_refusalOfTicks wsX6_refusalOfTicks { frames := 1, cells := 0, slots := 0, locals := 22 } G A [.int a0] w (some (.int z)) w := by
  refine Con.of (own := RX6) (cc := cX6_refusalOfTicks) (maxL := 1) (ret := (some .int)) rfl (by decide) rfl (Nat.le_of_ble_eq_true rfl) ?_
  intro p e s m args below meth c C
  show V p l e { frames := 1, cells := 0, slots := 0, locals := 22 } s m args below meth c G A 1 0 [(0, .int a0)] [] w (some (.int z)) w
  unfold m_X6_refusalOfTicks at h
  refine v_iload_n C 0 dX6_refusalOfTicks_0 rfl rfl ?_
  refine v_iconst C (v := 1) dX6_refusalOfTicks_1 (by decide) ?_
  refine v_bipush C (v := 50) dX6_refusalOfTicks_2 (by decide) ?_
  refine v_callSi C (av := [.int a0, .int 1, .int 50]) (rest := []) gX6_refusalOfTicks_X6_inside rfl ⟨rfl, rfl⟩ hS_X6_inside ⟨(Nat.le_of_ble_eq_true rfl), (Nat.le_of_ble_eq_true rfl)⟩ (r_X6_inside (A := A) rfl) rfl rfl (Nat.le_of_ble_eq_true rfl) dX6_refusalOfTicks_4 ?_
  refine v_if_eq C (tgt := 14) dX6_refusalOfTicks_7 (by decide) (fun q => ?_) (fun q => ?_)
  · have h := ite_t q h
    refine v_iconst C (v := 2) dX6_refusalOfTicks_14 (by decide) ?_
    subst h
    exact v_iret C dX6_refusalOfTicks_15
  · have h := ite_f q h
    refine v_iconst C (v := 0) dX6_refusalOfTicks_10 (by decide) ?_
    refine v_goto C (tgt := 15) dX6_refusalOfTicks_11 (by decide) ?_
    subst h
    exact v_iret C dX6_refusalOfTicks_15
theorem hS_X6_refusalOfTicks : yX6_refusalOfTicks.cls ≠ "java/lang/invoke/MethodHandle" ∧ yX6_refusalOfTicks.cls ≠ "java/lang/invoke/VarHandle" ∧ (parseMethodDescriptor yX6_refusalOfTicks.desc).map (fun d => d.parameters.length) = some 1 := by decide +kernel
theorem fX6_tick_19 : Cond.fieldLink RX6 19 (TX6 1).1 (TX6 1).2.1 (TX6 1).2.2.1 ∈ wsX6_tick := by decide +kernel
theorem inX6_tick_X6 : ∀ x ∈ u_ws RX6 TX6 5, x ∈ wsX6_tick := by decide +kernel
theorem fX6_tick_10 : Cond.fieldLink RX6 10 (TX6 0).1 (TX6 0).2.1 (TX6 0).2.2.1 ∈ wsX6_tick := by decide +kernel
theorem hV_X6_letPass : yX6_letPass.cls = RX6 ∧ yX6_letPass.cls ≠ "java/lang/invoke/MethodHandle" ∧ yX6_letPass.cls ≠ "java/lang/invoke/VarHandle" ∧ (parseMethodDescriptor yX6_letPass.desc).map (fun d => d.parameters.length) = some 1 := by decide +kernel
set_option maxRecDepth 100000 in
set_option maxHeartbeats 4000000 in
theorem r_X6_tick {l : Launch} {G : GG} {A : Nat → Prop} {n : Nat} {w : Wd} {this : Nat} {a1 : Int32} {z : (Int32 × Wd)} (h : m_X6_tick n w this a1 = some z) : Con l yX6_tick wsX6_tick { frames := 5, cells := 0, slots := 0, locals := 117 } G A [.ref this, .int a1] w (some (.int z.1)) z.2 := by
  refine Con.of (own := RX6) (cc := cX6_tick) (maxL := 2) (ret := (some .int)) rfl (by decide) rfl (Nat.le_of_ble_eq_true rfl) ?_
  intro p e s m args below meth c C
  show V p l e { frames := 5, cells := 0, slots := 0, locals := 117 } s m args below meth c G A 2 0 [(0, .ref this), (1, .int a1)] [] w (some (.int z.1)) z.2
  unfold m_X6_tick at h
  refine v_iload_n C 1 dX6_tick_0 rfl rfl ?_
  refine v_callSi C (av := [.int a1]) (rest := []) gX6_tick_X6_refusalOfTicks rfl ⟨rfl, rfl⟩ hS_X6_refusalOfTicks ⟨(Nat.le_of_ble_eq_true rfl), (Nat.le_of_ble_eq_true rfl)⟩ (r_X6_refusalOfTicks (A := A) rfl) rfl rfl (Nat.le_of_ble_eq_true rfl) dX6_tick_1 ?_
  obtain ⟨z1, e_z1, h⟩ := bnd h
  refine v_callSv C (av := [.int (m_X6_refusalOfTicks a1)]) (rest := []) gX6_tick_X6_throwIf rfl ⟨rfl, rfl⟩ hS_X6_throwIf ⟨(Nat.le_of_ble_eq_true rfl), (Nat.le_of_ble_eq_true rfl)⟩ (r_X6_throwIf (A := A) e_z1) rfl rfl (Nat.le_of_ble_eq_true rfl) dX6_tick_4 ?_
  refine v_aload_n C 0 dX6_tick_7 rfl rfl ?_
  obtain ⟨q2, e_q2, h⟩ := bnd h
  refine v_getf C (ci := 5) (k := 1) rfl inX6_tick_X6 (by decide) fX6_tick_19 dX6_tick_8 (gfR_e e_q2) ?_
  refine v_aload_n C 0 dX6_tick_11 rfl rfl ?_
  obtain ⟨q3, e_q3, h⟩ := bnd h
  refine v_getf C (ci := 5) (k := 0) rfl inX6_tick_X6 (by decide) fX6_tick_10 dX6_tick_12 (gfR_e e_q3) ?_
  refine v_at (pc' := 15) rfl ?_
  obtain ⟨u4, e_u4, h⟩ := bnd h
  obtain ⟨z5, e_z5, h⟩ := bnd h
  refine v_callVv C (ci := 4) (av := [.ref q3]) (rest := []) rfl gX6_tick_X5_push rfl ⟨rfl, rfl⟩ hV_X5_push ⟨(Nat.le_of_ble_eq_true rfl), (Nat.le_of_ble_eq_true rfl)⟩ e_u4 (r_X5_push (A := A) e_z5) rfl rfl (Nat.le_of_ble_eq_true rfl) dX6_tick_15 ?_
  refine v_aload_n C 0 dX6_tick_18 rfl rfl ?_
  refine v_iload_n C 1 dX6_tick_19 rfl rfl ?_
  obtain ⟨u6, e_u6, h⟩ := bnd h
  obtain ⟨z7, e_z7, h⟩ := bnd h
  refine v_callVi C (ci := 5) (av := [.int a1]) (rest := []) rfl gX6_tick_X6_letPass rfl ⟨rfl, rfl⟩ hV_X6_letPass ⟨(Nat.le_of_ble_eq_true rfl), (Nat.le_of_ble_eq_true rfl)⟩ e_u6 (r_X6_letPass (A := A) e_z7) rfl rfl (Nat.le_of_ble_eq_true rfl) dX6_tick_20 ?_
  obtain rfl := Option.some.inj h
  exact v_iret C dX6_tick_23
theorem cX6_nextRandom_334 : Cond.constantLong RX6 334 (1103515245) ∈ wsX6_nextRandom := by decide +kernel
theorem cX6_nextRandom_336 : Cond.constantLong RX6 336 (12345) ∈ wsX6_nextRandom := by decide +kernel
theorem cX6_nextRandom_338 : Cond.constantLong RX6 338 (2147483648) ∈ wsX6_nextRandom := by decide +kernel
set_option maxRecDepth 100000 in
set_option maxHeartbeats 4000000 in
theorem r_X6_nextRandom {l : Launch} {G : GG} {A : Nat → Prop} {w : Wd} {a0 : Int64} {z : Int64} (h : m_X6_nextRandom a0 = z) : Con l yX6_nextRandom wsX6_nextRandom { frames := 0, cells := 0, slots := 0, locals := 0 } G A [.long a0] w (some (.long z)) w := by
  refine Con.of (own := RX6) (cc := cX6_nextRandom) (maxL := 2) (ret := (some .long)) rfl (by decide) rfl (Nat.le_of_ble_eq_true rfl) ?_
  intro p e s m args below meth c C
  show V p l e { frames := 0, cells := 0, slots := 0, locals := 0 } s m args below meth c G A 2 0 [(0, .long a0)] [] w (some (.long z)) w
  unfold m_X6_nextRandom at h
  refine v_ldc2 C dX6_nextRandom_0 cX6_nextRandom_334 ?_
  refine v_lload_n C 0 dX6_nextRandom_3 rfl rfl ?_
  refine v_lmul C dX6_nextRandom_4 ?_
  refine v_ldc2 C dX6_nextRandom_5 cX6_nextRandom_336 ?_
  refine v_ladd C dX6_nextRandom_8 ?_
  refine v_ldc2 C dX6_nextRandom_9 cX6_nextRandom_338 ?_
  refine v_lrem C dX6_nextRandom_12 (by decide) ?_
  refine v_at (pc' := 13) rfl ?_
  subst h
  exact v_lret C dX6_nextRandom_13
theorem cX6_placeIn_340 : Cond.constantLong RX6 340 (65536) ∈ wsX6_placeIn := by decide +kernel
set_option maxRecDepth 100000 in
set_option maxHeartbeats 4000000 in
theorem r_X6_placeIn {l : Launch} {G : GG} {A : Nat → Prop} {n : Nat} {w : Wd} {a0 : Int64} {a2 : Int32} {z : Int32} (h : m_X6_placeIn n w a0 a2 = some z) : Con l yX6_placeIn wsX6_placeIn { frames := 0, cells := 0, slots := 0, locals := 0 } G A [.long a0, .int a2] w (some (.int z)) w := by
  refine Con.of (own := RX6) (cc := cX6_placeIn) (maxL := 3) (ret := (some .int)) rfl (by decide) rfl (Nat.le_of_ble_eq_true rfl) ?_
  intro p e s m args below meth c C
  show V p l e { frames := 0, cells := 0, slots := 0, locals := 0 } s m args below meth c G A 3 0 [(0, .long a0), (2, .int a2)] [] w (some (.int z)) w
  unfold m_X6_placeIn at h
  refine v_iload_n C 1 dX6_placeIn_0 rfl rfl ?_
  refine v_if_le C (tgt := 16) dX6_placeIn_1 (by decide) (fun q => ?_) (fun q => ?_)
  · have h := ite_t q h
    refine v_iconst C (v := 0) dX6_placeIn_16 (by decide) ?_
    obtain rfl := Option.some.inj h
    exact v_iret C dX6_placeIn_17
  · have h := ite_f q h
    refine v_lload_n C 0 dX6_placeIn_4 rfl rfl ?_
    refine v_ldc2 C dX6_placeIn_5 cX6_placeIn_340 ?_
    refine v_ldiv C dX6_placeIn_8 (by decide) ?_
    refine v_iload_n C 1 dX6_placeIn_9 rfl rfl ?_
    refine v_i2l C dX6_placeIn_10 ?_
    obtain ⟨x1, e_x1, h⟩ := bnd h
    refine v_lremR C dX6_placeIn_11 e_x1 ?_
    refine v_l2i C dX6_placeIn_12 ?_
    refine v_at (pc' := 13) rfl ?_
    refine v_goto C (tgt := 17) dX6_placeIn_13 (by decide) ?_
    obtain rfl := Option.some.inj h
    exact v_iret C dX6_placeIn_17
theorem cX6_refusalOfScatter_310 : Cond.constant RX6 310 (999999) ∈ wsX6_refusalOfScatter := by decide +kernel
set_option maxRecDepth 100000 in
set_option maxHeartbeats 4000000 in
theorem r_X6_refusalOfScatter {l : Launch} {G : GG} {A : Nat → Prop} {w : Wd} {a0 : Int32} {a1 : Int32} {a2 : Int32} {a3 : Int32} {z : Int32} (h : m_X6_refusalOfScatter a0 a1 a2 a3 = z) : Con l yX6_refusalOfScatter wsX6_refusalOfScatter { frames := 2, cells := 0, slots := 0, locals := 42 } G A [.int a0, .int a1, .int a2, .int a3] w (some (.int z)) w := by
  refine Con.of (own := RX6) (cc := cX6_refusalOfScatter) (maxL := 5) (ret := (some .int)) rfl (by decide) rfl (Nat.le_of_ble_eq_true rfl) ?_
  intro p e s m args below meth c C
  show V p l e { frames := 2, cells := 0, slots := 0, locals := 42 } s m args below meth c G A 5 0 [(0, .int a0), (1, .int a1), (2, .int a2), (3, .int a3)] [] w (some (.int z)) w
  unfold m_X6_refusalOfScatter at h
  refine v_iload_n C 0 dX6_refusalOfScatter_0 rfl rfl ?_
  refine v_callSi C (av := [.int a0]) (rest := []) gX6_refusalOfScatter_X6_isId rfl ⟨rfl, rfl⟩ hS_X6_isId ⟨(Nat.le_of_ble_eq_true rfl), (Nat.le_of_ble_eq_true rfl)⟩ (r_X6_isId (A := A) rfl) rfl rfl (Nat.le_of_ble_eq_true rfl) dX6_refusalOfScatter_1 ?_
  refine v_if_ne C (tgt := 9) dX6_refusalOfScatter_4 (by decide) (fun q => ?_) (fun q => ?_)
  · have h := ite_f q h
    refine v_iload_n C 1 dX6_refusalOfScatter_9 rfl rfl ?_
    refine v_iconst C (v := 1) dX6_refusalOfScatter_10 (by decide) ?_
    refine v_bipush C (v := 24) dX6_refusalOfScatter_11 (by decide) ?_
    refine v_iload_n C 0 dX6_refusalOfScatter_13 rfl rfl ?_
    refine v_isub C dX6_refusalOfScatter_14 ?_
    refine v_callSi C (av := [.int a1, .int 1, .int (24 - a0)]) (rest := []) gX6_refusalOfScatter_X6_inside rfl ⟨rfl, rfl⟩ hS_X6_inside ⟨(Nat.le_of_ble_eq_true rfl), (Nat.le_of_ble_eq_true rfl)⟩ (r_X6_inside (A := A) rfl) rfl rfl (Nat.le_of_ble_eq_true rfl) dX6_refusalOfScatter_15 ?_
    refine v_if_eq C (tgt := 46) dX6_refusalOfScatter_18 (by decide) (fun q => ?_) (fun q => ?_)
    · have h := ite_t q h
      refine v_iconst C (v := 0) dX6_refusalOfScatter_46 (by decide) ?_
      refine v_istore C (lv' := [(4, .int 0), (0, .int a0), (1, .int a1), (2, .int a2), (3, .int a3)]) dX6_refusalOfScatter_47 (by decide) rfl ?_
      refine v_iload C 0 dX6_refusalOfScatter_49 rfl ?_
      refine v_if_eq C (tgt := 58) dX6_refusalOfScatter_51 (by decide) (fun _ => ?_) (fun q => absurd (by decide) q)
      refine v_iconst C (v := 2) dX6_refusalOfScatter_58 (by decide) ?_
      subst h
      exact v_iret C dX6_refusalOfScatter_59
    · have h := ite_f q h
      refine v_iload_n C 2 dX6_refusalOfScatter_21 rfl rfl ?_
      refine v_iconst C (v := 1) dX6_refusalOfScatter_22 (by decide) ?_
      refine v_bipush C (v := 64) dX6_refusalOfScatter_23 (by decide) ?_
      refine v_callSi C (av := [.int a2, .int 1, .int 64]) (rest := []) gX6_refusalOfScatter_X6_inside rfl ⟨rfl, rfl⟩ hS_X6_inside ⟨(Nat.le_of_ble_eq_true rfl), (Nat.le_of_ble_eq_true rfl)⟩ (r_X6_inside (A := A) rfl) rfl rfl (Nat.le_of_ble_eq_true rfl) dX6_refusalOfScatter_25 ?_
      refine v_if_eq C (tgt := 46) dX6_refusalOfScatter_28 (by decide) (fun q => ?_) (fun q => ?_)
      · have h := ite_t q h
        refine v_iconst C (v := 0) dX6_refusalOfScatter_46 (by decide) ?_
        refine v_istore C (lv' := [(4, .int 0), (0, .int a0), (1, .int a1), (2, .int a2), (3, .int a3)]) dX6_refusalOfScatter_47 (by decide) rfl ?_
        refine v_iload C 0 dX6_refusalOfScatter_49 rfl ?_
        refine v_if_eq C (tgt := 58) dX6_refusalOfScatter_51 (by decide) (fun _ => ?_) (fun q => absurd (by decide) q)
        refine v_iconst C (v := 2) dX6_refusalOfScatter_58 (by decide) ?_
        subst h
        exact v_iret C dX6_refusalOfScatter_59
      · have h := ite_f q h
        refine v_iload_n C 3 dX6_refusalOfScatter_31 rfl rfl ?_
        refine v_iconst C (v := 0) dX6_refusalOfScatter_32 (by decide) ?_
        refine v_ldcw C dX6_refusalOfScatter_33 cX6_refusalOfScatter_310 ?_
        refine v_callSi C (av := [.int a3, .int 0, .int 999999]) (rest := []) gX6_refusalOfScatter_X6_inside rfl ⟨rfl, rfl⟩ hS_X6_inside ⟨(Nat.le_of_ble_eq_true rfl), (Nat.le_of_ble_eq_true rfl)⟩ (r_X6_inside (A := A) rfl) rfl rfl (Nat.le_of_ble_eq_true rfl) dX6_refusalOfScatter_36 ?_
        refine v_if_eq C (tgt := 46) dX6_refusalOfScatter_39 (by decide) (fun q => ?_) (fun q => ?_)
        · have h := ite_t q h
          refine v_iconst C (v := 0) dX6_refusalOfScatter_46 (by decide) ?_
          refine v_istore C (lv' := [(4, .int 0), (0, .int a0), (1, .int a1), (2, .int a2), (3, .int a3)]) dX6_refusalOfScatter_47 (by decide) rfl ?_
          refine v_iload C 0 dX6_refusalOfScatter_49 rfl ?_
          refine v_if_eq C (tgt := 58) dX6_refusalOfScatter_51 (by decide) (fun _ => ?_) (fun q => absurd (by decide) q)
          refine v_iconst C (v := 2) dX6_refusalOfScatter_58 (by decide) ?_
          subst h
          exact v_iret C dX6_refusalOfScatter_59
        · have h := ite_f q h
          refine v_iconst C (v := 1) dX6_refusalOfScatter_42 (by decide) ?_
          refine v_goto C (tgt := 47) dX6_refusalOfScatter_43 (by decide) ?_
          refine v_istore C (lv' := [(4, .int 1), (0, .int a0), (1, .int a1), (2, .int a2), (3, .int a3)]) dX6_refusalOfScatter_47 (by decide) rfl ?_
          refine v_iload C 0 dX6_refusalOfScatter_49 rfl ?_
          refine v_if_eq C (tgt := 58) dX6_refusalOfScatter_51 (by decide) (fun q => absurd q (by decide)) (fun _ => ?_)
          refine v_iconst C (v := 0) dX6_refusalOfScatter_54 (by decide) ?_
          refine v_goto C (tgt := 59) dX6_refusalOfScatter_55 (by decide) ?_
          refine v_at (pc' := 59) rfl ?_
          subst h
          exact v_iret C dX6_refusalOfScatter_59
  · have h := ite_t q h
    refine v_iconst C (v := 1) dX6_refusalOfScatter_7 (by decide) ?_
    subst h
    exact v_iret C dX6_refusalOfScatter_8
theorem fX6_scatter_10 : Cond.fieldLink RX6 10 (TX6 0).1 (TX6 0).2.1 (TX6 0).2.2.1 ∈ wsX6_scatter := by decide +kernel
theorem inX6_scatter_X6 : ∀ x ∈ u_ws RX6 TX6 5, x ∈ wsX6_scatter := by decide +kernel
theorem hV_X4_count : yX4_count.cls = RX4 ∧ yX4_count.cls ≠ "java/lang/invoke/MethodHandle" ∧ yX4_count.cls ≠ "java/lang/invoke/VarHandle" ∧ (parseMethodDescriptor yX4_count.desc).map (fun d => d.parameters.length) = some 0 := by decide +kernel
theorem hS_X6_nextRandom : yX6_nextRandom.cls ≠ "java/lang/invoke/MethodHandle" ∧ yX6_nextRandom.cls ≠ "java/lang/invoke/VarHandle" ∧ (parseMethodDescriptor yX6_nextRandom.desc).map (fun d => d.parameters.length) = some 1 := by decide +kernel
theorem hS_X6_placeIn : yX6_placeIn.cls ≠ "java/lang/invoke/MethodHandle" ∧ yX6_placeIn.cls ≠ "java/lang/invoke/VarHandle" ∧ (parseMethodDescriptor yX6_placeIn.desc).map (fun d => d.parameters.length) = some 2 := by decide +kernel
theorem hS_X6_refusalOfScatter : yX6_refusalOfScatter.cls ≠ "java/lang/invoke/MethodHandle" ∧ yX6_refusalOfScatter.cls ≠ "java/lang/invoke/VarHandle" ∧ (parseMethodDescriptor yX6_refusalOfScatter.desc).map (fun d => d.parameters.length) = some 4 := by decide +kernel
theorem fX6_scatter_19 : Cond.fieldLink RX6 19 (TX6 1).1 (TX6 1).2.1 (TX6 1).2.2.1 ∈ wsX6_scatter := by decide +kernel
set_option maxRecDepth 100000 in
set_option maxHeartbeats 4000000 in
theorem r_X6_scatter_p83 {p : Program} {l : Launch} {e : Env} {s : State} {m : MethodId} {args : Array Value} {below : List Frame} {meth : Method} {c : Code} {G : GG} {A : Nat → Prop} (C : Cx p s m args meth c G A cX6_scatter 9 RX6 wsX6_scatter (some .int)) (n : Nat) {z : (Int32 × Wd)} : ∀ (w : Wd) (a0 : Nat), m_X6_scatter_p83 n w a0 = some z → V p l e { frames := 4, cells := 0, slots := 0, locals := 94 } s m args below meth c G A 9 83 [(0, .ref a0)] [] w (some (.int z.1)) z.2 := by
  intro w a0 h
  unfold m_X6_scatter_p83 at h
  refine v_aload_n C 0 dX6_scatter_83 rfl rfl ?_
  obtain ⟨u1, e_u1, h⟩ := bnd h
  obtain ⟨z2, e_z2, h⟩ := bnd h
  refine v_callVi C (ci := 5) (av := []) (rest := []) rfl gX6_scatter_X6_settle rfl ⟨rfl, rfl⟩ hV_X6_settle ⟨(Nat.le_of_ble_eq_true rfl), (Nat.le_of_ble_eq_true rfl)⟩ e_u1 (r_X6_settle (A := A) e_z2) rfl rfl (Nat.le_of_ble_eq_true rfl) dX6_scatter_84 ?_
  refine v_pop C dX6_scatter_87 rfl ?_
  refine v_aload_n C 0 dX6_scatter_88 rfl rfl ?_
  obtain ⟨q3, e_q3, h⟩ := bnd h
  refine v_getf C (ci := 5) (k := 0) rfl inX6_scatter_X6 (by decide) fX6_scatter_10 dX6_scatter_89 (gfR_e e_q3) ?_
  obtain ⟨u4, e_u4, h⟩ := bnd h
  obtain ⟨x5, e_x5, h⟩ := bnd h
  refine v_callVi C (ci := 3) (av := []) (rest := []) rfl gX6_scatter_X4_count rfl ⟨rfl, rfl⟩ hV_X4_count ⟨(Nat.le_of_ble_eq_true rfl), (Nat.le_of_ble_eq_true rfl)⟩ e_u4 (r_X4_count (A := A) e_x5) rfl rfl (Nat.le_of_ble_eq_true rfl) dX6_scatter_92 ?_
  obtain rfl := Option.some.inj h
  exact v_iret C dX6_scatter_95
set_option maxRecDepth 100000 in
set_option maxHeartbeats 4000000 in
theorem r_X6_scatter_p30 {p : Program} {l : Launch} {e : Env} {s : State} {m : MethodId} {args : Array Value} {below : List Frame} {meth : Method} {c : Code} {G : GG} {A : Nat → Prop} (C : Cx p s m args meth c G A cX6_scatter 9 RX6 wsX6_scatter (some .int)) (n : Nat) {z : (Int32 × Wd)} : ∀ (t : Nat), ∀ (w : Wd) (a0 : Nat) (a1 : Int32) (a2 : Int32) (a3 : Int32) (a5 : Int64) (a7 : Int32), m_X6_scatter_p30 n t w a0 a1 a2 a3 a5 a7 = some z → V p l e { frames := 4, cells := 0, slots := 0, locals := 94 } s m args below meth c G A 9 30 [(0, .ref a0), (1, .int a1), (2, .int a2), (3, .int a3), (5, .long a5), (7, .int a7)] [] w (some (.int z.1)) z.2 := by
  intro t
  induction t with
  | zero =>
    intro w a0 a1 a2 a3 a5 a7 h
    rw [m_X6_scatter_p30] at h
    cases h
  | succ t ih =>
    intro w a0 a1 a2 a3 a5 a7 h
    rw [m_X6_scatter_p30] at h
    refine v_iload C 5 dX6_scatter_30 rfl ?_
    refine v_iload_n C 1 dX6_scatter_32 rfl rfl ?_
    refine v_iload_n C 2 dX6_scatter_33 rfl rfl ?_
    refine v_iadd C dX6_scatter_34 ?_
    refine v_icmp_ge C (tgt := 83) dX6_scatter_35 (by decide) (fun q => ?_) (fun q => ?_)
    · have h := ite_t q h
      refine v_sub [0] rfl ?_
      exact r_X6_scatter_p83 C n _ _ h
    · have h := ite_f q h
      refine v_lload C 4 dX6_scatter_38 rfl ?_
      refine v_callSJ C (av := [.long a5]) (rest := []) gX6_scatter_X6_nextRandom rfl ⟨rfl, rfl⟩ hS_X6_nextRandom ⟨(Nat.le_of_ble_eq_true rfl), (Nat.le_of_ble_eq_true rfl)⟩ (r_X6_nextRandom (A := A) rfl) rfl rfl (Nat.le_of_ble_eq_true rfl) dX6_scatter_40 ?_
      refine v_lstore C (lv' := [(5, .long (m_X6_nextRandom a5)), (0, .ref a0), (1, .int a1), (2, .int a2), (3, .int a3), (7, .int a7)]) dX6_scatter_43 (by decide) rfl ?_
      refine v_lload C 0 dX6_scatter_45 rfl ?_
      refine v_iload_n C 4 dX6_scatter_47 rfl rfl ?_
      obtain ⟨x1, e_x1, h⟩ := bnd h
      refine v_callSi C (av := [.long (m_X6_nextRandom a5), .int a3]) (rest := []) gX6_scatter_X6_placeIn rfl ⟨rfl, rfl⟩ hS_X6_placeIn ⟨(Nat.le_of_ble_eq_true rfl), (Nat.le_of_ble_eq_true rfl)⟩ (r_X6_placeIn (A := A) e_x1) rfl rfl (Nat.le_of_ble_eq_true rfl) dX6_scatter_48 ?_
      refine v_istore C (lv' := [(8, .int x1), (5, .long (m_X6_nextRandom a5)), (0, .ref a0), (1, .int a1), (2, .int a2), (3, .int a3), (7, .int a7)]) dX6_scatter_51 (by decide) rfl ?_
      refine v_at (pc' := 53) rfl ?_
      refine v_lload C 1 dX6_scatter_53 rfl ?_
      refine v_callSJ C (av := [.long (m_X6_nextRandom a5)]) (rest := []) gX6_scatter_X6_nextRandom rfl ⟨rfl, rfl⟩ hS_X6_nextRandom ⟨(Nat.le_of_ble_eq_true rfl), (Nat.le_of_ble_eq_true rfl)⟩ (r_X6_nextRandom (A := A) rfl) rfl rfl (Nat.le_of_ble_eq_true rfl) dX6_scatter_55 ?_
      refine v_lstore C (lv' := [(5, .long (m_X6_nextRandom (m_X6_nextRandom a5))), (8, .int x1), (0, .ref a0), (1, .int a1), (2, .int a2), (3, .int a3), (7, .int a7)]) dX6_scatter_58 (by decide) rfl ?_
      refine v_aload_n C 2 dX6_scatter_60 rfl rfl ?_
      obtain ⟨q2, e_q2, h⟩ := bnd h
      refine v_getf C (ci := 5) (k := 0) rfl inX6_scatter_X6 (by decide) fX6_scatter_10 dX6_scatter_61 (gfR_e e_q2) ?_
      refine v_iload C 6 dX6_scatter_64 rfl ?_
      refine v_iload C 1 dX6_scatter_66 rfl ?_
      refine v_lload C 0 dX6_scatter_68 rfl ?_
      refine v_at (pc' := 70) rfl ?_
      refine v_iload_n C 5 dX6_scatter_70 rfl rfl ?_
      obtain ⟨x3, e_x3, h⟩ := bnd h
      refine v_callSi C (av := [.long (m_X6_nextRandom (m_X6_nextRandom a5)), .int a3]) (rest := [.int x1, .int a7, .ref q2]) gX6_scatter_X6_placeIn rfl ⟨rfl, rfl⟩ hS_X6_placeIn ⟨(Nat.le_of_ble_eq_true rfl), (Nat.le_of_ble_eq_true rfl)⟩ (r_X6_placeIn (A := A) e_x3) rfl rfl (Nat.le_of_ble_eq_true rfl) dX6_scatter_71 ?_
      obtain ⟨u4, e_u4, h⟩ := bnd h
      obtain ⟨z5, e_z5, h⟩ := bnd h
      refine v_callVv C (ci := 3) (av := [.int a7, .int x1, .int x3]) (rest := []) rfl gX6_scatter_X4_put rfl ⟨rfl, rfl⟩ hV_X4_put ⟨(Nat.le_of_ble_eq_true rfl), (Nat.le_of_ble_eq_true rfl)⟩ e_u4 (r_X4_put (A := A) e_z5) rfl rfl (Nat.le_of_ble_eq_true rfl) dX6_scatter_74 ?_
      refine v_iinc C (k := 6) (v := (a7 + 1)) (lv' := [(7, .int (a7 + 1)), (5, .long (m_X6_nextRandom (m_X6_nextRandom a5))), (8, .int x1), (0, .ref a0), (1, .int a1), (2, .int a2), (3, .int a3)]) dX6_scatter_77 rfl rfl (by decide) rfl ?_
      refine v_goto C (tgt := 30) dX6_scatter_80 (by decide) ?_
      refine v_sub [3, 4, 5, 6, 1, 0] rfl ?_
      exact ih _ _ _ _ _ _ _ h
set_option maxRecDepth 100000 in
set_option maxHeartbeats 4000000 in
theorem r_X6_scatter {l : Launch} {G : GG} {A : Nat → Prop} {n : Nat} {w : Wd} {this : Nat} {a1 : Int32} {a2 : Int32} {a3 : Int32} {a4 : Int32} {z : (Int32 × Wd)} (h : m_X6_scatter n w this a1 a2 a3 a4 = some z) : Con l yX6_scatter wsX6_scatter { frames := 4, cells := 0, slots := 0, locals := 94 } G A [.ref this, .int a1, .int a2, .int a3, .int a4] w (some (.int z.1)) z.2 := by
  refine Con.of (own := RX6) (cc := cX6_scatter) (maxL := 9) (ret := (some .int)) rfl (by decide) rfl (Nat.le_of_ble_eq_true rfl) ?_
  intro p e s m args below meth c C
  show V p l e { frames := 4, cells := 0, slots := 0, locals := 94 } s m args below meth c G A 9 0 [(0, .ref this), (1, .int a1), (2, .int a2), (3, .int a3), (4, .int a4)] [] w (some (.int z.1)) z.2
  unfold m_X6_scatter at h
  refine v_iload_n C 1 dX6_scatter_0 rfl rfl ?_
  refine v_iload_n C 2 dX6_scatter_1 rfl rfl ?_
  refine v_iload_n C 3 dX6_scatter_2 rfl rfl ?_
  refine v_iload C 4 dX6_scatter_3 rfl ?_
  refine v_callSi C (av := [.int a1, .int a2, .int a3, .int a4]) (rest := []) gX6_scatter_X6_refusalOfScatter rfl ⟨rfl, rfl⟩ hS_X6_refusalOfScatter ⟨(Nat.le_of_ble_eq_true rfl), (Nat.le_of_ble_eq_true rfl)⟩ (r_X6_refusalOfScatter (A := A) rfl) rfl rfl (Nat.le_of_ble_eq_true rfl) dX6_scatter_5 ?_
  obtain ⟨z1, e_z1, h⟩ := bnd h
  refine v_callSv C (av := [.int (m_X6_refusalOfScatter a1 a2 a3 a4)]) (rest := []) gX6_scatter_X6_throwIf rfl ⟨rfl, rfl⟩ hS_X6_throwIf ⟨(Nat.le_of_ble_eq_true rfl), (Nat.le_of_ble_eq_true rfl)⟩ (r_X6_throwIf (A := A) e_z1) rfl rfl (Nat.le_of_ble_eq_true rfl) dX6_scatter_8 ?_
  refine v_aload_n C 0 dX6_scatter_11 rfl rfl ?_
  refine v_at (pc' := 12) rfl ?_
  obtain ⟨q2, e_q2, h⟩ := bnd h
  refine v_getf C (ci := 5) (k := 1) rfl inX6_scatter_X6 (by decide) fX6_scatter_19 dX6_scatter_12 (gfR_e e_q2) ?_
  refine v_aload_n C 0 dX6_scatter_15 rfl rfl ?_
  obtain ⟨q3, e_q3, h⟩ := bnd h
  refine v_getf C (ci := 5) (k := 0) rfl inX6_scatter_X6 (by decide) fX6_scatter_10 dX6_scatter_16 (gfR_e e_q3) ?_
  obtain ⟨u4, e_u4, h⟩ := bnd h
  obtain ⟨z5, e_z5, h⟩ := bnd h
  refine v_callVv C (ci := 4) (av := [.ref q3]) (rest := []) rfl gX6_scatter_X5_push rfl ⟨rfl, rfl⟩ hV_X5_push ⟨(Nat.le_of_ble_eq_true rfl), (Nat.le_of_ble_eq_true rfl)⟩ e_u4 (r_X5_push (A := A) e_z5) rfl rfl (Nat.le_of_ble_eq_true rfl) dX6_scatter_19 ?_
  refine v_iload C 4 dX6_scatter_22 rfl ?_
  refine v_i2l C dX6_scatter_24 ?_
  refine v_lstore C (lv' := [(5, .long (Int32.toInt64 a4)), (0, .ref this), (1, .int a1), (2, .int a2), (3, .int a3), (4, .int a4)]) dX6_scatter_25 (by decide) rfl ?_
  refine v_iload_n C 2 dX6_scatter_27 rfl rfl ?_
  refine v_at (pc' := 28) rfl ?_
  refine v_istore C (lv' := [(7, .int a1), (5, .long (Int32.toInt64 a4)), (0, .ref this), (1, .int a1), (2, .int a2), (3, .int a3), (4, .int a4)]) dX6_scatter_28 (by decide) rfl ?_
  refine v_sub [2, 3, 4, 5, 1, 0] rfl ?_
  exact r_X6_scatter_p30 C n n _ _ _ _ _ _ _ h
set_option maxRecDepth 100000 in
set_option maxHeartbeats 4000000 in
theorem r_X6_refusalOfValue {l : Launch} {G : GG} {A : Nat → Prop} {w : Wd} {a0 : Int32} {a1 : Int32} {a2 : Int32} {a3 : Int32} {z : Int32} (h : m_X6_refusalOfValue a0 a1 a2 a3 = z) : Con l yX6_refusalOfValue wsX6_refusalOfValue { frames := 1, cells := 0, slots := 0, locals := 22 } G A [.int a0, .int a1, .int a2, .int a3] w (some (.int z)) w := by
  refine Con.of (own := RX6) (cc := cX6_refusalOfValue) (maxL := 4) (ret := (some .int)) rfl (by decide) rfl (Nat.le_of_ble_eq_true rfl) ?_
  intro p e s m args below meth c C
  show V p l e { frames := 1, cells := 0, slots := 0, locals := 22 } s m args below meth c G A 4 0 [(0, .int a0), (1, .int a1), (2, .int a2), (3, .int a3)] [] w (some (.int z)) w
  unfold m_X6_refusalOfValue at h
  refine v_iload_n C 0 dX6_refusalOfValue_0 rfl rfl ?_
  refine v_iconst C (v := 0) dX6_refusalOfValue_1 (by decide) ?_
  refine v_iload_n C 1 dX6_refusalOfValue_2 rfl rfl ?_
  refine v_iconst C (v := 1) dX6_refusalOfValue_3 (by decide) ?_
  refine v_isub C dX6_refusalOfValue_4 ?_
  refine v_callSi C (av := [.int a0, .int 0, .int (a1 - 1)]) (rest := []) gX6_refusalOfValue_X6_inside rfl ⟨rfl, rfl⟩ hS_X6_inside ⟨(Nat.le_of_ble_eq_true rfl), (Nat.le_of_ble_eq_true rfl)⟩ (r_X6_inside (A := A) rfl) rfl rfl (Nat.le_of_ble_eq_true rfl) dX6_refusalOfValue_5 ?_
  refine v_if_ne C (tgt := 13) dX6_refusalOfValue_8 (by decide) (fun q => ?_) (fun q => ?_)
  · have h := ite_f q h
    refine v_iload_n C 2 dX6_refusalOfValue_13 rfl rfl ?_
    refine v_iconst C (v := 0) dX6_refusalOfValue_14 (by decide) ?_
    refine v_iload_n C 3 dX6_refusalOfValue_15 rfl rfl ?_
    refine v_callSi C (av := [.int a2, .int 0, .int a3]) (rest := []) gX6_refusalOfValue_X6_inside rfl ⟨rfl, rfl⟩ hS_X6_inside ⟨(Nat.le_of_ble_eq_true rfl), (Nat.le_of_ble_eq_true rfl)⟩ (r_X6_inside (A := A) rfl) rfl rfl (Nat.le_of_ble_eq_true rfl) dX6_refusalOfValue_16 ?_
    refine v_if_eq C (tgt := 26) dX6_refusalOfValue_19 (by decide) (fun q => ?_) (fun q => ?_)
    · have h := ite_t q h
      refine v_iconst C (v := 2) dX6_refusalOfValue_26 (by decide) ?_
      subst h
      exact v_iret C dX6_refusalOfValue_27
    · have h := ite_f q h
      refine v_iconst C (v := 0) dX6_refusalOfValue_22 (by decide) ?_
      refine v_goto C (tgt := 27) dX6_refusalOfValue_23 (by decide) ?_
      subst h
      exact v_iret C dX6_refusalOfValue_27
  · have h := ite_t q h
    refine v_iconst C (v := 1) dX6_refusalOfValue_11 (by decide) ?_
    subst h
    exact v_iret C dX6_refusalOfValue_12
theorem hS_X6_refusalOfValue : yX6_refusalOfValue.cls ≠ "java/lang/invoke/MethodHandle" ∧ yX6_refusalOfValue.cls ≠ "java/lang/invoke/VarHandle" ∧ (parseMethodDescriptor yX6_refusalOfValue.desc).map (fun d => d.parameters.length) = some 4 := by decide +kernel
theorem fX6_point_10 : Cond.fieldLink RX6 10 (TX6 0).1 (TX6 0).2.1 (TX6 0).2.2.1 ∈ wsX6_point := by decide +kernel
theorem inX6_point_X6 : ∀ x ∈ u_ws RX6 TX6 5, x ∈ wsX6_point := by decide +kernel
theorem fX6_point_113 : Cond.fieldLink RX6 113 (TX4 0).1 (TX4 0).2.1 (TX4 0).2.2.1 ∈ wsX6_point := by decide +kernel
theorem inX6_point_X4 : ∀ x ∈ u_ws RX4 TX4 9, x ∈ wsX6_point := by decide +kernel
theorem fX6_point_117 : Cond.fieldLink RX6 117 (TX4 1).1 (TX4 1).2.1 (TX4 1).2.2.1 ∈ wsX6_point := by decide +kernel
theorem fX6_point_120 : Cond.fieldLink RX6 120 (TX4 2).1 (TX4 2).2.1 (TX4 2).2.2.1 ∈ wsX6_point := by decide +kernel
theorem fX6_point_66 : Cond.fieldLink RX6 66 (TX4 3).1 (TX4 3).2.1 (TX4 3).2.2.1 ∈ wsX6_point := by decide +kernel
theorem fX6_point_75 : Cond.fieldLink RX6 75 (TX4 4).1 (TX4 4).2.1 (TX4 4).2.2.1 ∈ wsX6_point := by decide +kernel
set_option maxRecDepth 100000 in
set_option maxHeartbeats 4000000 in
theorem r_X6_point {l : Launch} {G : GG} {A : Nat → Prop} {n : Nat} {w : Wd} {this : Nat} {a1 : Int32} {a2 : Int32} {z : Int32} (h : m_X6_point n w this a1 a2 = some z) : Con l yX6_point wsX6_point { frames := 2, cells := 0, slots := 0, locals := 45 } G A [.ref this, .int a1, .int a2] w (some (.int z)) w := by
  refine Con.of (own := RX6) (cc := cX6_point) (maxL := 3) (ret := (some .int)) rfl (by decide) rfl (Nat.le_of_ble_eq_true rfl) ?_
  intro p e s m args below meth c C
  show V p l e { frames := 2, cells := 0, slots := 0, locals := 45 } s m args below meth c G A 3 0 [(0, .ref this), (1, .int a1), (2, .int a2)] [] w (some (.int z)) w
  unfold m_X6_point at h
  refine v_iload_n C 1 dX6_point_0 rfl rfl ?_
  refine v_bipush C (v := 24) dX6_point_1 (by decide) ?_
  refine v_iload_n C 2 dX6_point_3 rfl rfl ?_
  refine v_iconst C (v := 5) dX6_point_4 (by decide) ?_
  refine v_callSi C (av := [.int a1, .int 24, .int a2, .int 5]) (rest := []) gX6_point_X6_refusalOfValue rfl ⟨rfl, rfl⟩ hS_X6_refusalOfValue ⟨(Nat.le_of_ble_eq_true rfl), (Nat.le_of_ble_eq_true rfl)⟩ (r_X6_refusalOfValue (A := A) rfl) rfl rfl (Nat.le_of_ble_eq_true rfl) dX6_point_5 ?_
  obtain ⟨z1, e_z1, h⟩ := bnd h
  refine v_callSv C (av := [.int (m_X6_refusalOfValue a1 24 a2 5)]) (rest := []) gX6_point_X6_throwIf rfl ⟨rfl, rfl⟩ hS_X6_throwIf ⟨(Nat.le_of_ble_eq_true rfl), (Nat.le_of_ble_eq_true rfl)⟩ (r_X6_throwIf (A := A) e_z1) rfl rfl (Nat.le_of_ble_eq_true rfl) dX6_point_8 ?_
  refine v_iload_n C 2 dX6_point_11 rfl rfl ?_
  refine v_at (pc' := 12) rfl ?_
  by_cases q2 : a2 = 0
  · have h := ite_t q2 h
    refine v_tabIn C 0 36 48 dX6_point_12 q2 (by decide) (by decide) rfl (by decide) ?_
    refine v_aload_n C 0 dX6_point_48 rfl rfl ?_
    obtain ⟨q3, e_q3, h⟩ := bnd h
    refine v_getf C (ci := 5) (k := 0) rfl inX6_point_X6 (by decide) fX6_point_10 dX6_point_49 (gfR_e e_q3) ?_
    obtain ⟨q4, e_q4, h⟩ := bnd h
    refine v_getf C (ci := 3) (k := 0) rfl inX6_point_X4 (by decide) fX6_point_113 dX6_point_52 (gfR_e e_q4) ?_
    refine v_iload_n C 1 dX6_point_55 rfl rfl ?_
    obtain ⟨x5, e_x5, h⟩ := bnd h
    refine v_zald C dX6_point_56 e_x5 ?_
    refine v_if_eq C (tgt := 64) dX6_point_57 (by decide) (fun q => ?_) (fun q => ?_)
    · have h := ite_t q h
      refine v_iconst C (v := 0) dX6_point_64 (by decide) ?_
      obtain rfl := Option.some.inj h
      exact v_iret C dX6_point_65
    · have h := ite_f q h
      refine v_iconst C (v := 1) dX6_point_60 (by decide) ?_
      refine v_goto C (tgt := 65) dX6_point_61 (by decide) ?_
      obtain rfl := Option.some.inj h
      exact v_iret C dX6_point_65
  have h := ite_f q2 h
  by_cases q6 : a2 = 1
  · have h := ite_t q6 h
    refine v_tabIn C 1 54 66 dX6_point_12 q6 (by decide) (by decide) rfl (by decide) ?_
    refine v_aload_n C 0 dX6_point_66 rfl rfl ?_
    obtain ⟨q7, e_q7, h⟩ := bnd h
    refine v_getf C (ci := 5) (k := 0) rfl inX6_point_X6 (by decide) fX6_point_10 dX6_point_67 (gfR_e e_q7) ?_
    obtain ⟨q8, e_q8, h⟩ := bnd h
    refine v_getf C (ci := 3) (k := 1) rfl inX6_point_X4 (by decide) fX6_point_117 dX6_point_70 (gfR_e e_q8) ?_
    refine v_iload_n C 1 dX6_point_73 rfl rfl ?_
    obtain ⟨x9, e_x9, h⟩ := bnd h
    refine v_iald C dX6_point_74 e_x9 ?_
    obtain rfl := Option.some.inj h
    exact v_iret C dX6_point_75
  have h := ite_f q6 h
  by_cases q10 : a2 = 2
  · have h := ite_t q10 h
    refine v_tabIn C 2 64 76 dX6_point_12 q10 (by decide) (by decide) rfl (by decide) ?_
    refine v_aload_n C 0 dX6_point_76 rfl rfl ?_
    obtain ⟨q11, e_q11, h⟩ := bnd h
    refine v_getf C (ci := 5) (k := 0) rfl inX6_point_X6 (by decide) fX6_point_10 dX6_point_77 (gfR_e e_q11) ?_
    obtain ⟨q12, e_q12, h⟩ := bnd h
    refine v_getf C (ci := 3) (k := 2) rfl inX6_point_X4 (by decide) fX6_point_120 dX6_point_80 (gfR_e e_q12) ?_
    refine v_iload_n C 1 dX6_point_83 rfl rfl ?_
    obtain ⟨x13, e_x13, h⟩ := bnd h
    refine v_iald C dX6_point_84 e_x13 ?_
    obtain rfl := Option.some.inj h
    exact v_iret C dX6_point_85
  have h := ite_f q10 h
  by_cases q14 : a2 = 3
  · have h := ite_t q14 h
    refine v_tabIn C 3 74 86 dX6_point_12 q14 (by decide) (by decide) rfl (by decide) ?_
    refine v_aload_n C 0 dX6_point_86 rfl rfl ?_
    obtain ⟨q15, e_q15, h⟩ := bnd h
    refine v_getf C (ci := 5) (k := 0) rfl inX6_point_X6 (by decide) fX6_point_10 dX6_point_87 (gfR_e e_q15) ?_
    obtain ⟨q16, e_q16, h⟩ := bnd h
    refine v_getf C (ci := 3) (k := 3) rfl inX6_point_X4 (by decide) fX6_point_66 dX6_point_90 (gfR_e e_q16) ?_
    refine v_iload_n C 1 dX6_point_93 rfl rfl ?_
    obtain ⟨x17, e_x17, h⟩ := bnd h
    refine v_iald C dX6_point_94 e_x17 ?_
    obtain rfl := Option.some.inj h
    exact v_iret C dX6_point_95
  have h := ite_f q14 h
  by_cases q18 : a2 = 4
  · have h := ite_t q18 h
    refine v_tabIn C 4 84 96 dX6_point_12 q18 (by decide) (by decide) rfl (by decide) ?_
    refine v_aload_n C 0 dX6_point_96 rfl rfl ?_
    obtain ⟨q19, e_q19, h⟩ := bnd h
    refine v_getf C (ci := 5) (k := 0) rfl inX6_point_X6 (by decide) fX6_point_10 dX6_point_97 (gfR_e e_q19) ?_
    obtain ⟨q20, e_q20, h⟩ := bnd h
    refine v_getf C (ci := 3) (k := 4) rfl inX6_point_X4 (by decide) fX6_point_75 dX6_point_100 (gfR_e e_q20) ?_
    refine v_iload_n C 1 dX6_point_103 rfl rfl ?_
    obtain ⟨x21, e_x21, h⟩ := bnd h
    refine v_iald C dX6_point_104 e_x21 ?_
    obtain rfl := Option.some.inj h
    exact v_iret C dX6_point_105
  have h := ite_f q18 h
  have g_q2 := lv_neT q2 (a := 0) rfl
  have g_q6 := lv_neT q6 (a := 1) rfl
  have g_q10 := lv_neT q10 (a := 2) rfl
  have g_q14 := lv_neT q14 (a := 3) rfl
  have g_q18 := lv_neT q18 (a := 4) rfl
  refine v_tabOut C 106 dX6_point_12 (by omega) (by decide) ?_
  refine v_iload_n C 1 dX6_point_106 rfl rfl ?_
  obtain ⟨x22, e_x22, h⟩ := bnd h
  refine v_callSi C (av := [.int a1]) (rest := []) gX6_point_X6_heightOf rfl ⟨rfl, rfl⟩ hS_X6_heightOf ⟨(Nat.le_of_ble_eq_true rfl), (Nat.le_of_ble_eq_true rfl)⟩ (r_X6_heightOf (A := A) e_x22) rfl rfl (Nat.le_of_ble_eq_true rfl) dX6_point_107 ?_
  obtain rfl := Option.some.inj h
  exact v_iret C dX6_point_110
theorem fX6_level_33 : Cond.fieldLink RX6 33 (TX6 3).1 (TX6 3).2.1 (TX6 3).2.2.1 ∈ wsX6_level := by decide +kernel
theorem inX6_level_X6 : ∀ x ∈ u_ws RX6 TX6 5, x ∈ wsX6_level := by decide +kernel
theorem fX6_level_126 : Cond.fieldLink RX6 126 (TX0 0).1 (TX0 0).2.1 (TX0 0).2.2.1 ∈ wsX6_level := by decide +kernel
theorem inX6_level_X0 : ∀ x ∈ u_ws RX0 TX0 2, x ∈ wsX6_level := by decide +kernel
theorem fX6_level_130 : Cond.fieldLink RX6 130 (TX1 1).1 (TX1 1).2.1 (TX1 1).2.2.1 ∈ wsX6_level := by decide +kernel
theorem inX6_level_X1 : ∀ x ∈ u_ws RX1 TX1 4, x ∈ wsX6_level := by decide +kernel
theorem fX6_level_136 : Cond.fieldLink RX6 136 (TX1 3).1 (TX1 3).2.1 (TX1 3).2.2.1 ∈ wsX6_level := by decide +kernel
theorem hV_X1_greatestDepth : yX1_greatestDepth.cls = RX1 ∧ yX1_greatestDepth.cls ≠ "java/lang/invoke/MethodHandle" ∧ yX1_greatestDepth.cls ≠ "java/lang/invoke/VarHandle" ∧ (parseMethodDescriptor yX1_greatestDepth.desc).map (fun d => d.parameters.length) = some 0 := by decide +kernel
theorem hV_X1_positionChildren : yX1_positionChildren.cls = RX1 ∧ yX1_positionChildren.cls ≠ "java/lang/invoke/MethodHandle" ∧ yX1_positionChildren.cls ≠ "java/lang/invoke/VarHandle" ∧ (parseMethodDescriptor yX1_positionChildren.desc).map (fun d => d.parameters.length) = some 0 := by decide +kernel
theorem hV_X1_differentPositions : yX1_differentPositions.cls = RX1 ∧ yX1_differentPositions.cls ≠ "java/lang/invoke/MethodHandle" ∧ yX1_differentPositions.cls ≠ "java/lang/invoke/VarHandle" ∧ (parseMethodDescriptor yX1_differentPositions.desc).map (fun d => d.parameters.length) = some 0 := by decide +kernel
set_option maxRecDepth 100000 in
set_option maxHeartbeats 4000000 in
theorem r_X6_level {l : Launch} {G : GG} {A : Nat → Prop} {n : Nat} {w : Wd} {this : Nat} {a1 : Int32} {a2 : Int32} {z : Int32} (h : m_X6_level n w this a1 a2 = some z) : Con l yX6_level wsX6_level { frames := 5, cells := 0, slots := 0, locals := 113 } G A [.ref this, .int a1, .int a2] w (some (.int z)) w := by
  refine Con.of (own := RX6) (cc := cX6_level) (maxL := 4) (ret := (some .int)) rfl (by decide) rfl (Nat.le_of_ble_eq_true rfl) ?_
  intro p e s m args below meth c C
  show V p l e { frames := 5, cells := 0, slots := 0, locals := 113 } s m args below meth c G A 4 0 [(0, .ref this), (1, .int a1), (2, .int a2)] [] w (some (.int z)) w
  unfold m_X6_level at h
  refine v_iload_n C 1 dX6_level_0 rfl rfl ?_
  refine v_iconst C (v := 5) dX6_level_1 (by decide) ?_
  refine v_iload_n C 2 dX6_level_2 rfl rfl ?_
  refine v_iconst C (v := 4) dX6_level_3 (by decide) ?_
  refine v_callSi C (av := [.int a1, .int 5, .int a2, .int 4]) (rest := []) gX6_level_X6_refusalOfValue rfl ⟨rfl, rfl⟩ hS_X6_refusalOfValue ⟨(Nat.le_of_ble_eq_true rfl), (Nat.le_of_ble_eq_true rfl)⟩ (r_X6_refusalOfValue (A := A) rfl) rfl rfl (Nat.le_of_ble_eq_true rfl) dX6_level_4 ?_
  obtain ⟨z1, e_z1, h⟩ := bnd h
  refine v_callSv C (av := [.int (m_X6_refusalOfValue a1 5 a2 4)]) (rest := []) gX6_level_X6_throwIf rfl ⟨rfl, rfl⟩ hS_X6_throwIf ⟨(Nat.le_of_ble_eq_true rfl), (Nat.le_of_ble_eq_true rfl)⟩ (r_X6_throwIf (A := A) e_z1) rfl rfl (Nat.le_of_ble_eq_true rfl) dX6_level_7 ?_
  refine v_aload_n C 0 dX6_level_10 rfl rfl ?_
  refine v_at (pc' := 11) rfl ?_
  obtain ⟨q2, e_q2, h⟩ := bnd h
  refine v_getf C (ci := 5) (k := 3) rfl inX6_level_X6 (by decide) fX6_level_33 dX6_level_11 (gfR_e e_q2) ?_
  obtain ⟨q3, e_q3, h⟩ := bnd h
  refine v_getf C (ci := 0) (k := 0) rfl inX6_level_X0 (by decide) fX6_level_126 dX6_level_14 (gfR_e e_q3) ?_
  refine v_iload_n C 1 dX6_level_17 rfl rfl ?_
  obtain ⟨q4, e_q4, h⟩ := bnd h
  refine v_aald3 C dX6_level_18 e_q4 ?_
  refine v_astore_n C (lv' := [(3, .ref q4), (0, .ref this), (1, .int a1), (2, .int a2)]) dX6_level_19 rfl (by decide) rfl ?_
  refine v_iload_n C 3 dX6_level_20 rfl rfl ?_
  by_cases q5 : a2 = 0
  · have h := ite_t q5 h
    refine v_tabIn C 0 31 52 dX6_level_21 q5 (by decide) (by decide) rfl (by decide) ?_
    refine v_aload_n C 0 dX6_level_52 rfl rfl ?_
    obtain ⟨x6, e_x6, h⟩ := bnd h
    refine v_getf C (ci := 1) (k := 1) rfl inX6_level_X1 (by decide) fX6_level_130 dX6_level_53 (gfI_e e_x6) ?_
    obtain rfl := Option.some.inj h
    exact v_iret C dX6_level_56
  have h := ite_f q5 h
  by_cases q7 : a2 = 1
  · have h := ite_t q7 h
    refine v_tabIn C 1 36 57 dX6_level_21 q7 (by decide) (by decide) rfl (by decide) ?_
    refine v_aload_n C 0 dX6_level_57 rfl rfl ?_
    obtain ⟨x8, e_x8, h⟩ := bnd h
    refine v_getf C (ci := 1) (k := 3) rfl inX6_level_X1 (by decide) fX6_level_136 dX6_level_58 (gfI_e e_x8) ?_
    obtain rfl := Option.some.inj h
    exact v_iret C dX6_level_61
  have h := ite_f q7 h
  by_cases q9 : a2 = 2
  · have h := ite_t q9 h
    refine v_tabIn C 2 41 62 dX6_level_21 q9 (by decide) (by decide) rfl (by decide) ?_
    refine v_aload_n C 0 dX6_level_62 rfl rfl ?_
    obtain ⟨u10, e_u10, h⟩ := bnd h
    obtain ⟨x11, e_x11, h⟩ := bnd h
    refine v_callVi C (ci := 1) (av := []) (rest := []) rfl gX6_level_X1_greatestDepth rfl ⟨rfl, rfl⟩ hV_X1_greatestDepth ⟨(Nat.le_of_ble_eq_true rfl), (Nat.le_of_ble_eq_true rfl)⟩ e_u10 (r_X1_greatestDepth (A := A) e_x11) rfl rfl (Nat.le_of_ble_eq_true rfl) dX6_level_63 ?_
    obtain rfl := Option.some.inj h
    exact v_iret C dX6_level_66
  have h := ite_f q9 h
  by_cases q12 : a2 = 3
  · have h := ite_t q12 h
    refine v_tabIn C 3 46 67 dX6_level_21 q12 (by decide) (by decide) rfl (by decide) ?_
    refine v_aload_n C 0 dX6_level_67 rfl rfl ?_
    obtain ⟨u13, e_u13, h⟩ := bnd h
    obtain ⟨x14, e_x14, h⟩ := bnd h
    refine v_callVi C (ci := 1) (av := []) (rest := []) rfl gX6_level_X1_positionChildren rfl ⟨rfl, rfl⟩ hV_X1_positionChildren ⟨(Nat.le_of_ble_eq_true rfl), (Nat.le_of_ble_eq_true rfl)⟩ e_u13 (r_X1_positionChildren (A := A) e_x14) rfl rfl (Nat.le_of_ble_eq_true rfl) dX6_level_68 ?_
    obtain rfl := Option.some.inj h
    exact v_iret C dX6_level_71
  have h := ite_f q12 h
  have g_q5 := lv_neT q5 (a := 0) rfl
  have g_q7 := lv_neT q7 (a := 1) rfl
  have g_q9 := lv_neT q9 (a := 2) rfl
  have g_q12 := lv_neT q12 (a := 3) rfl
  refine v_tabOut C 72 dX6_level_21 (by omega) (by decide) ?_
  refine v_aload_n C 0 dX6_level_72 rfl rfl ?_
  obtain ⟨u15, e_u15, h⟩ := bnd h
  obtain ⟨x16, e_x16, h⟩ := bnd h
  refine v_callVi C (ci := 1) (av := []) (rest := []) rfl gX6_level_X1_differentPositions rfl ⟨rfl, rfl⟩ hV_X1_differentPositions ⟨(Nat.le_of_ble_eq_true rfl), (Nat.le_of_ble_eq_true rfl)⟩ e_u15 (r_X1_differentPositions (A := A) e_x16) rfl rfl (Nat.le_of_ble_eq_true rfl) dX6_level_73 ?_
  obtain rfl := Option.some.inj h
  exact v_iret C dX6_level_76
theorem fX6_refusalOfNode_33 : Cond.fieldLink RX6 33 (TX6 3).1 (TX6 3).2.1 (TX6 3).2.2.1 ∈ wsX6_refusalOfNode := by decide +kernel
theorem inX6_refusalOfNode_X6 : ∀ x ∈ u_ws RX6 TX6 5, x ∈ wsX6_refusalOfNode := by decide +kernel
theorem fX6_refusalOfNode_126 : Cond.fieldLink RX6 126 (TX0 0).1 (TX0 0).2.1 (TX0 0).2.2.1 ∈ wsX6_refusalOfNode := by decide +kernel
theorem inX6_refusalOfNode_X0 : ∀ x ∈ u_ws RX0 TX0 2, x ∈ wsX6_refusalOfNode := by decide +kernel
theorem fX6_refusalOfNode_136 : Cond.fieldLink RX6 136 (TX1 3).1 (TX1 3).2.1 (TX1 3).2.2.1 ∈ wsX6_refusalOfNode := by decide +kernel
theorem inX6_refusalOfNode_X1 : ∀ x ∈ u_ws RX1 TX1 4, x ∈ wsX6_refusalOfNode := by decide +kernel
set_option maxRecDepth 100000 in
set_option maxHeartbeats 4000000 in
theorem r_X6_refusalOfNode {l : Launch} {G : GG} {A : Nat → Prop} {n : Nat} {w : Wd} {this : Nat} {a1 : Int32} {a2 : Int32} {a3 : Int32} {a4 : Int32} {z : Int32} (h : m_X6_refusalOfNode n w this a1 a2 a3 a4 = some z) : Con l yX6_refusalOfNode wsX6_refusalOfNode { frames := 2, cells := 0, slots := 0, locals := 45 } G A [.ref this, .int a1, .int a2, .int a3, .int a4] w (some (.int z)) w := by
  refine Con.of (own := RX6) (cc := cX6_refusalOfNode) (maxL := 5) (ret := (some .int)) rfl (by decide) rfl (Nat.le_of_ble_eq_true rfl) ?_
  intro p e s m args below meth c C
  show V p l e { frames := 2, cells := 0, slots := 0, locals := 45 } s m args below meth c G A 5 0 [(0, .ref this), (1, .int a1), (2, .int a2), (3, .int a3), (4, .int a4)] [] w (some (.int z)) w
  unfold m_X6_refusalOfNode at h
  refine v_iload_n C 1 dX6_refusalOfNode_0 rfl rfl ?_
  refine v_iconst C (v := 0) dX6_refusalOfNode_1 (by decide) ?_
  refine v_iconst C (v := 4) dX6_refusalOfNode_2 (by decide) ?_
  refine v_callSi C (av := [.int a1, .int 0, .int 4]) (rest := []) gX6_refusalOfNode_X6_inside rfl ⟨rfl, rfl⟩ hS_X6_inside ⟨(Nat.le_of_ble_eq_true rfl), (Nat.le_of_ble_eq_true rfl)⟩ (r_X6_inside (A := A) rfl) rfl rfl (Nat.le_of_ble_eq_true rfl) dX6_refusalOfNode_3 ?_
  refine v_if_ne C (tgt := 11) dX6_refusalOfNode_6 (by decide) (fun q => ?_) (fun q => ?_)
  · have h := ite_f q h
    refine v_iload_n C 2 dX6_refusalOfNode_11 rfl rfl ?_
    refine v_aload_n C 0 dX6_refusalOfNode_12 rfl rfl ?_
    obtain ⟨q1, e_q1, h⟩ := bnd h
    refine v_getf C (ci := 5) (k := 3) rfl inX6_refusalOfNode_X6 (by decide) fX6_refusalOfNode_33 dX6_refusalOfNode_13 (gfR_e e_q1) ?_
    obtain ⟨q2, e_q2, h⟩ := bnd h
    refine v_getf C (ci := 0) (k := 0) rfl inX6_refusalOfNode_X0 (by decide) fX6_refusalOfNode_126 dX6_refusalOfNode_16 (gfR_e e_q2) ?_
    refine v_iload_n C 1 dX6_refusalOfNode_19 rfl rfl ?_
    obtain ⟨q3, e_q3, h⟩ := bnd h
    refine v_aald3 C dX6_refusalOfNode_20 e_q3 ?_
    obtain ⟨x4, e_x4, h⟩ := bnd h
    refine v_getf C (ci := 1) (k := 3) rfl inX6_refusalOfNode_X1 (by decide) fX6_refusalOfNode_136 dX6_refusalOfNode_21 (gfI_e e_x4) ?_
    refine v_at (pc' := 24) rfl ?_
    refine v_iload_n C 3 dX6_refusalOfNode_24 rfl rfl ?_
    refine v_iload C 4 dX6_refusalOfNode_25 rfl ?_
    refine v_callSi C (av := [.int a2, .int x4, .int a3, .int a4]) (rest := []) gX6_refusalOfNode_X6_refusalOfValue rfl ⟨rfl, rfl⟩ hS_X6_refusalOfValue ⟨(Nat.le_of_ble_eq_true rfl), (Nat.le_of_ble_eq_true rfl)⟩ (r_X6_refusalOfValue (A := A) rfl) rfl rfl (Nat.le_of_ble_eq_true rfl) dX6_refusalOfNode_27 ?_
    obtain rfl := Option.some.inj h
    exact v_iret C dX6_refusalOfNode_30
  · have h := ite_t q h
    refine v_iconst C (v := 1) dX6_refusalOfNode_9 (by decide) ?_
    obtain rfl := Option.some.inj h
    exact v_iret C dX6_refusalOfNode_10
theorem hV_X6_refusalOfNode : yX6_refusalOfNode.cls = RX6 ∧ yX6_refusalOfNode.cls ≠ "java/lang/invoke/MethodHandle" ∧ yX6_refusalOfNode.cls ≠ "java/lang/invoke/VarHandle" ∧ (parseMethodDescriptor yX6_refusalOfNode.desc).map (fun d => d.parameters.length) = some 4 := by decide +kernel
theorem fX6_node_33 : Cond.fieldLink RX6 33 (TX6 3).1 (TX6 3).2.1 (TX6 3).2.2.1 ∈ wsX6_node := by decide +kernel
theorem inX6_node_X6 : ∀ x ∈ u_ws RX6 TX6 5, x ∈ wsX6_node := by decide +kernel
theorem fX6_node_126 : Cond.fieldLink RX6 126 (TX0 0).1 (TX0 0).2.1 (TX0 0).2.2.1 ∈ wsX6_node := by decide +kernel
theorem inX6_node_X0 : ∀ x ∈ u_ws RX0 TX0 2, x ∈ wsX6_node := by decide +kernel
theorem fX6_node_151 : Cond.fieldLink RX6 151 (TX1 2).1 (TX1 2).2.1 (TX1 2).2.2.1 ∈ wsX6_node := by decide +kernel
theorem inX6_node_X1 : ∀ x ∈ u_ws RX1 TX1 4, x ∈ wsX6_node := by decide +kernel
theorem hV_X1_pointsIn : yX1_pointsIn.cls = RX1 ∧ yX1_pointsIn.cls ≠ "java/lang/invoke/MethodHandle" ∧ yX1_pointsIn.cls ≠ "java/lang/invoke/VarHandle" ∧ (parseMethodDescriptor yX1_pointsIn.desc).map (fun d => d.parameters.length) = some 1 := by decide +kernel
theorem hV_X1_quadrantsIn : yX1_quadrantsIn.cls = RX1 ∧ yX1_quadrantsIn.cls ≠ "java/lang/invoke/MethodHandle" ∧ yX1_quadrantsIn.cls ≠ "java/lang/invoke/VarHandle" ∧ (parseMethodDescriptor yX1_quadrantsIn.desc).map (fun d => d.parameters.length) = some 1 := by decide +kernel
set_option maxRecDepth 100000 in
set_option maxHeartbeats 4000000 in
theorem r_X6_node {l : Launch} {G : GG} {A : Nat → Prop} {n : Nat} {w : Wd} {this : Nat} {a1 : Int32} {a2 : Int32} {a3 : Int32} {z : Int32} (h : m_X6_node n w this a1 a2 a3 = some z) : Con l yX6_node wsX6_node { frames := 3, cells := 0, slots := 0, locals := 69 } G A [.ref this, .int a1, .int a2, .int a3] w (some (.int z)) w := by
  refine Con.of (own := RX6) (cc := cX6_node) (maxL := 6) (ret := (some .int)) rfl (by decide) rfl (Nat.le_of_ble_eq_true rfl) ?_
  intro p e s m args below meth c C
  show V p l e { frames := 3, cells := 0, slots := 0, locals := 69 } s m args below meth c G A 6 0 [(0, .ref this), (1, .int a1), (2, .int a2), (3, .int a3)] [] w (some (.int z)) w
  unfold m_X6_node at h
  refine v_aload_n C 0 dX6_node_0 rfl rfl ?_
  refine v_iload_n C 1 dX6_node_1 rfl rfl ?_
  refine v_iload_n C 2 dX6_node_2 rfl rfl ?_
  refine v_iload_n C 3 dX6_node_3 rfl rfl ?_
  refine v_iconst C (v := 5) dX6_node_4 (by decide) ?_
  obtain ⟨u1, e_u1, h⟩ := bnd h
  obtain ⟨x2, e_x2, h⟩ := bnd h
  refine v_callVi C (ci := 5) (av := [.int a1, .int a2, .int a3, .int 5]) (rest := []) rfl gX6_node_X6_refusalOfNode rfl ⟨rfl, rfl⟩ hV_X6_refusalOfNode ⟨(Nat.le_of_ble_eq_true rfl), (Nat.le_of_ble_eq_true rfl)⟩ e_u1 (r_X6_refusalOfNode (A := A) e_x2) rfl rfl (Nat.le_of_ble_eq_true rfl) dX6_node_5 ?_
  obtain ⟨z3, e_z3, h⟩ := bnd h
  refine v_callSv C (av := [.int x2]) (rest := []) gX6_node_X6_throwIf rfl ⟨rfl, rfl⟩ hS_X6_throwIf ⟨(Nat.le_of_ble_eq_true rfl), (Nat.le_of_ble_eq_true rfl)⟩ (r_X6_throwIf (A := A) e_z3) rfl rfl (Nat.le_of_ble_eq_true rfl) dX6_node_8 ?_
  refine v_at (pc' := 11) rfl ?_
  refine v_aload_n C 0 dX6_node_11 rfl rfl ?_
  obtain ⟨q4, e_q4, h⟩ := bnd h
  refine v_getf C (ci := 5) (k := 3) rfl inX6_node_X6 (by decide) fX6_node_33 dX6_node_12 (gfR_e e_q4) ?_
  obtain ⟨q5, e_q5, h⟩ := bnd h
  refine v_getf C (ci := 0) (k := 0) rfl inX6_node_X0 (by decide) fX6_node_126 dX6_node_15 (gfR_e e_q5) ?_
  refine v_iload_n C 1 dX6_node_18 rfl rfl ?_
  obtain ⟨q6, e_q6, h⟩ := bnd h
  refine v_aald3 C dX6_node_19 e_q6 ?_
  refine v_astore C (lv' := [(4, .ref q6), (0, .ref this), (1, .int a1), (2, .int a2), (3, .int a3)]) dX6_node_20 (by decide) rfl ?_
  refine v_aload C 0 dX6_node_22 rfl ?_
  obtain ⟨q7, e_q7, h⟩ := bnd h
  refine v_getf C (ci := 1) (k := 2) rfl inX6_node_X1 (by decide) fX6_node_151 dX6_node_24 (gfR_e e_q7) ?_
  refine v_at (pc' := 27) rfl ?_
  refine v_iload_n C 3 dX6_node_27 rfl rfl ?_
  obtain ⟨x8, e_x8, h⟩ := bnd h
  refine v_iald C dX6_node_28 e_x8 ?_
  refine v_istore C (lv' := [(5, .int x8), (4, .ref q6), (0, .ref this), (1, .int a1), (2, .int a2), (3, .int a3)]) dX6_node_29 (by decide) rfl ?_
  refine v_iload_n C 5 dX6_node_31 rfl rfl ?_
  by_cases q9 : a3 = 0
  · have h := ite_t q9 h
    refine v_tabIn C 0 36 68 dX6_node_32 q9 (by decide) (by decide) rfl (by decide) ?_
    refine v_iload C 0 dX6_node_68 rfl ?_
    refine v_callSi C (av := [.int x8]) (rest := []) gX6_node_X3_corner rfl ⟨rfl, rfl⟩ hS_X3_corner ⟨(Nat.le_of_ble_eq_true rfl), (Nat.le_of_ble_eq_true rfl)⟩ (r_X3_corner (A := A) rfl) rfl rfl (Nat.le_of_ble_eq_true rfl) dX6_node_70 ?_
    refine v_callSi C (av := [.int (m_X3_corner x8)]) (rest := []) gX6_node_X3_xOf rfl ⟨rfl, rfl⟩ hS_X3_xOf ⟨(Nat.le_of_ble_eq_true rfl), (Nat.le_of_ble_eq_true rfl)⟩ (r_X3_xOf (A := A) rfl) rfl rfl (Nat.le_of_ble_eq_true rfl) dX6_node_73 ?_
    obtain rfl := Option.some.inj h
    exact v_iret C dX6_node_76
  have h := ite_f q9 h
  by_cases q10 : a3 = 1
  · have h := ite_t q10 h
    refine v_tabIn C 1 45 77 dX6_node_32 q10 (by decide) (by decide) rfl (by decide) ?_
    refine v_iload C 0 dX6_node_77 rfl ?_
    refine v_callSi C (av := [.int x8]) (rest := []) gX6_node_X3_corner rfl ⟨rfl, rfl⟩ hS_X3_corner ⟨(Nat.le_of_ble_eq_true rfl), (Nat.le_of_ble_eq_true rfl)⟩ (r_X3_corner (A := A) rfl) rfl rfl (Nat.le_of_ble_eq_true rfl) dX6_node_79 ?_
    refine v_callSi C (av := [.int (m_X3_corner x8)]) (rest := []) gX6_node_X3_yOf rfl ⟨rfl, rfl⟩ hS_X3_yOf ⟨(Nat.le_of_ble_eq_true rfl), (Nat.le_of_ble_eq_true rfl)⟩ (r_X3_yOf (A := A) rfl) rfl rfl (Nat.le_of_ble_eq_true rfl) dX6_node_82 ?_
    obtain rfl := Option.some.inj h
    exact v_iret C dX6_node_85
  have h := ite_f q10 h
  by_cases q11 : a3 = 2
  · have h := ite_t q11 h
    refine v_tabIn C 2 54 86 dX6_node_32 q11 (by decide) (by decide) rfl (by decide) ?_
    refine v_iload C 0 dX6_node_86 rfl ?_
    refine v_callSi C (av := [.int x8]) (rest := []) gX6_node_X3_size rfl ⟨rfl, rfl⟩ hS_X3_size ⟨(Nat.le_of_ble_eq_true rfl), (Nat.le_of_ble_eq_true rfl)⟩ (r_X3_size (A := A) rfl) rfl rfl (Nat.le_of_ble_eq_true rfl) dX6_node_88 ?_
    obtain rfl := Option.some.inj h
    exact v_iret C dX6_node_91
  have h := ite_f q11 h
  by_cases q12 : a3 = 3
  · have h := ite_t q12 h
    refine v_tabIn C 3 60 92 dX6_node_32 q12 (by decide) (by decide) rfl (by decide) ?_
    refine v_aload C 1 dX6_node_92 rfl ?_
    refine v_iload_n C 4 dX6_node_94 rfl rfl ?_
    obtain ⟨u13, e_u13, h⟩ := bnd h
    obtain ⟨x14, e_x14, h⟩ := bnd h
    refine v_callVi C (ci := 1) (av := [.int a2]) (rest := []) rfl gX6_node_X1_depthOf rfl ⟨rfl, rfl⟩ hV_X1_depthOf ⟨(Nat.le_of_ble_eq_true rfl), (Nat.le_of_ble_eq_true rfl)⟩ e_u13 (r_X1_depthOf (A := A) e_x14) rfl rfl (Nat.le_of_ble_eq_true rfl) dX6_node_95 ?_
    obtain rfl := Option.some.inj h
    exact v_iret C dX6_node_98
  have h := ite_f q12 h
  by_cases q15 : a3 = 4
  · have h := ite_t q15 h
    refine v_tabIn C 4 67 99 dX6_node_32 q15 (by decide) (by decide) rfl (by decide) ?_
    refine v_aload C 1 dX6_node_99 rfl ?_
    refine v_iload C 0 dX6_node_101 rfl ?_
    obtain ⟨u16, e_u16, h⟩ := bnd h
    obtain ⟨x17, e_x17, h⟩ := bnd h
    refine v_callVi C (ci := 1) (av := [.int x8]) (rest := []) rfl gX6_node_X1_pointsIn rfl ⟨rfl, rfl⟩ hV_X1_pointsIn ⟨(Nat.le_of_ble_eq_true rfl), (Nat.le_of_ble_eq_true rfl)⟩ e_u16 (r_X1_pointsIn (A := A) e_x17) rfl rfl (Nat.le_of_ble_eq_true rfl) dX6_node_103 ?_
    obtain rfl := Option.some.inj h
    exact v_iret C dX6_node_106
  have h := ite_f q15 h
  have g_q9 := lv_neT q9 (a := 0) rfl
  have g_q10 := lv_neT q10 (a := 1) rfl
  have g_q11 := lv_neT q11 (a := 2) rfl
  have g_q12 := lv_neT q12 (a := 3) rfl
  have g_q15 := lv_neT q15 (a := 4) rfl
  refine v_tabOut C 107 dX6_node_32 (by omega) (by decide) ?_
  refine v_aload C 1 dX6_node_107 rfl ?_
  refine v_iload C 0 dX6_node_109 rfl ?_
  obtain ⟨u18, e_u18, h⟩ := bnd h
  obtain ⟨x19, e_x19, h⟩ := bnd h
  refine v_callVi C (ci := 1) (av := [.int x8]) (rest := []) rfl gX6_node_X1_quadrantsIn rfl ⟨rfl, rfl⟩ hV_X1_quadrantsIn ⟨(Nat.le_of_ble_eq_true rfl), (Nat.le_of_ble_eq_true rfl)⟩ e_u18 (r_X1_quadrantsIn (A := A) e_x19) rfl rfl (Nat.le_of_ble_eq_true rfl) dX6_node_111 ?_
  obtain rfl := Option.some.inj h
  exact v_iret C dX6_node_114
theorem fX6_child_33 : Cond.fieldLink RX6 33 (TX6 3).1 (TX6 3).2.1 (TX6 3).2.2.1 ∈ wsX6_child := by decide +kernel
theorem inX6_child_X6 : ∀ x ∈ u_ws RX6 TX6 5, x ∈ wsX6_child := by decide +kernel
theorem fX6_child_126 : Cond.fieldLink RX6 126 (TX0 0).1 (TX0 0).2.1 (TX0 0).2.2.1 ∈ wsX6_child := by decide +kernel
theorem inX6_child_X0 : ∀ x ∈ u_ws RX0 TX0 2, x ∈ wsX6_child := by decide +kernel
set_option maxRecDepth 100000 in
set_option maxHeartbeats 4000000 in
theorem r_X6_child {l : Launch} {G : GG} {A : Nat → Prop} {n : Nat} {w : Wd} {this : Nat} {a1 : Int32} {a2 : Int32} {a3 : Int32} {z : Int32} (h : m_X6_child n w this a1 a2 a3 = some z) : Con l yX6_child wsX6_child { frames := 4, cells := 0, slots := 0, locals := 90 } G A [.ref this, .int a1, .int a2, .int a3] w (some (.int z)) w := by
  refine Con.of (own := RX6) (cc := cX6_child) (maxL := 4) (ret := (some .int)) rfl (by decide) rfl (Nat.le_of_ble_eq_true rfl) ?_
  intro p e s m args below meth c C
  show V p l e { frames := 4, cells := 0, slots := 0, locals := 90 } s m args below meth c G A 4 0 [(0, .ref this), (1, .int a1), (2, .int a2), (3, .int a3)] [] w (some (.int z)) w
  unfold m_X6_child at h
  refine v_aload_n C 0 dX6_child_0 rfl rfl ?_
  refine v_iload_n C 1 dX6_child_1 rfl rfl ?_
  refine v_iload_n C 2 dX6_child_2 rfl rfl ?_
  refine v_iload_n C 3 dX6_child_3 rfl rfl ?_
  refine v_iconst C (v := 3) dX6_child_4 (by decide) ?_
  obtain ⟨u1, e_u1, h⟩ := bnd h
  obtain ⟨x2, e_x2, h⟩ := bnd h
  refine v_callVi C (ci := 5) (av := [.int a1, .int a2, .int a3, .int 3]) (rest := []) rfl gX6_child_X6_refusalOfNode rfl ⟨rfl, rfl⟩ hV_X6_refusalOfNode ⟨(Nat.le_of_ble_eq_true rfl), (Nat.le_of_ble_eq_true rfl)⟩ e_u1 (r_X6_refusalOfNode (A := A) e_x2) rfl rfl (Nat.le_of_ble_eq_true rfl) dX6_child_5 ?_
  obtain ⟨z3, e_z3, h⟩ := bnd h
  refine v_callSv C (av := [.int x2]) (rest := []) gX6_child_X6_throwIf rfl ⟨rfl, rfl⟩ hS_X6_throwIf ⟨(Nat.le_of_ble_eq_true rfl), (Nat.le_of_ble_eq_true rfl)⟩ (r_X6_throwIf (A := A) e_z3) rfl rfl (Nat.le_of_ble_eq_true rfl) dX6_child_8 ?_
  refine v_at (pc' := 11) rfl ?_
  refine v_aload_n C 0 dX6_child_11 rfl rfl ?_
  obtain ⟨q4, e_q4, h⟩ := bnd h
  refine v_getf C (ci := 5) (k := 3) rfl inX6_child_X6 (by decide) fX6_child_33 dX6_child_12 (gfR_e e_q4) ?_
  obtain ⟨q5, e_q5, h⟩ := bnd h
  refine v_getf C (ci := 0) (k := 0) rfl inX6_child_X0 (by decide) fX6_child_126 dX6_child_15 (gfR_e e_q5) ?_
  refine v_iload_n C 1 dX6_child_18 rfl rfl ?_
  obtain ⟨q6, e_q6, h⟩ := bnd h
  refine v_aald3 C dX6_child_19 e_q6 ?_
  refine v_iload_n C 2 dX6_child_20 rfl rfl ?_
  refine v_iload_n C 3 dX6_child_21 rfl rfl ?_
  obtain ⟨u7, e_u7, h⟩ := bnd h
  obtain ⟨x8, e_x8, h⟩ := bnd h
  refine v_callVi C (ci := 1) (av := [.int a2, .int a3]) (rest := []) rfl gX6_child_X1_childOf rfl ⟨rfl, rfl⟩ hV_X1_childOf ⟨(Nat.le_of_ble_eq_true rfl), (Nat.le_of_ble_eq_true rfl)⟩ e_u7 (r_X1_childOf (A := A) e_x8) rfl rfl (Nat.le_of_ble_eq_true rfl) dX6_child_22 ?_
  refine v_at (pc' := 25) rfl ?_
  obtain rfl := Option.some.inj h
  exact v_iret C dX6_child_25
theorem fX6_search_33 : Cond.fieldLink RX6 33 (TX6 3).1 (TX6 3).2.1 (TX6 3).2.2.1 ∈ wsX6_search := by decide +kernel
theorem inX6_search_X6 : ∀ x ∈ u_ws RX6 TX6 5, x ∈ wsX6_search := by decide +kernel
theorem hV_X0_find : yX0_find.cls = RX0 ∧ yX0_find.cls ≠ "java/lang/invoke/MethodHandle" ∧ yX0_find.cls ≠ "java/lang/invoke/VarHandle" ∧ (parseMethodDescriptor yX0_find.desc).map (fun d => d.parameters.length) = some 3 := by decide +kernel
theorem fX6_search_126 : Cond.fieldLink RX6 126 (TX0 0).1 (TX0 0).2.1 (TX0 0).2.2.1 ∈ wsX6_search := by decide +kernel
theorem inX6_search_X0 : ∀ x ∈ u_ws RX0 TX0 2, x ∈ wsX6_search := by decide +kernel
theorem fX6_search_151 : Cond.fieldLink RX6 151 (TX1 2).1 (TX1 2).2.1 (TX1 2).2.2.1 ∈ wsX6_search := by decide +kernel
theorem inX6_search_X1 : ∀ x ∈ u_ws RX1 TX1 4, x ∈ wsX6_search := by decide +kernel
set_option maxRecDepth 100000 in
set_option maxHeartbeats 4000000 in
theorem r_X6_search {l : Launch} {G : GG} {A : Nat → Prop} {n : Nat} {w : Wd} {this : Nat} {a1 : Int32} {a2 : Int32} {a3 : Int32} {a4 : Int32} {z : Int32} (h : m_X6_search n w this a1 a2 a3 a4 = some z) : Con l yX6_search wsX6_search { frames := 6, cells := 0, slots := 0, locals := 143 } G A [.ref this, .int a1, .int a2, .int a3, .int a4] w (some (.int z)) w := by
  refine Con.of (own := RX6) (cc := cX6_search) (maxL := 6) (ret := (some .int)) rfl (by decide) rfl (Nat.le_of_ble_eq_true rfl) ?_
  intro p e s m args below meth c C
  show V p l e { frames := 6, cells := 0, slots := 0, locals := 143 } s m args below meth c G A 6 0 [(0, .ref this), (1, .int a1), (2, .int a2), (3, .int a3), (4, .int a4)] [] w (some (.int z)) w
  unfold m_X6_search at h
  refine v_iload_n C 1 dX6_search_0 rfl rfl ?_
  refine v_iload_n C 2 dX6_search_1 rfl rfl ?_
  refine v_callSi C (av := [.int a1, .int a2]) (rest := []) gX6_search_X6_isPosition rfl ⟨rfl, rfl⟩ hS_X6_isPosition ⟨(Nat.le_of_ble_eq_true rfl), (Nat.le_of_ble_eq_true rfl)⟩ (r_X6_isPosition (A := A) rfl) rfl rfl (Nat.le_of_ble_eq_true rfl) dX6_search_2 ?_
  refine v_if_eq C (tgt := 22) dX6_search_5 (by decide) (fun q => ?_) (fun q => ?_)
  · have h := ite_t q h
    refine v_iconst C (v := 2) dX6_search_22 (by decide) ?_
    obtain ⟨z1, e_z1, h⟩ := bnd h
    refine v_callSv C (av := [.int 2]) (rest := []) gX6_search_X6_throwIf rfl ⟨rfl, rfl⟩ hS_X6_throwIf ⟨(Nat.le_of_ble_eq_true rfl), (Nat.le_of_ble_eq_true rfl)⟩ (r_X6_throwIf (A := A) e_z1) rfl rfl (Nat.le_of_ble_eq_true rfl) dX6_search_23 ?_
    refine v_aload_n C 0 dX6_search_26 rfl rfl ?_
    obtain ⟨q2, e_q2, h⟩ := bnd h
    refine v_getf C (ci := 5) (k := 3) rfl inX6_search_X6 (by decide) fX6_search_33 dX6_search_27 (gfR_e e_q2) ?_
    refine v_iload_n C 1 dX6_search_30 rfl rfl ?_
    refine v_iload_n C 2 dX6_search_31 rfl rfl ?_
    refine v_iload_n C 3 dX6_search_32 rfl rfl ?_
    refine v_at (pc' := 33) rfl ?_
    obtain ⟨u3, e_u3, h⟩ := bnd h
    obtain ⟨x4, e_x4, h⟩ := bnd h
    refine v_callVi C (ci := 0) (av := [.int a1, .int a2, .int a3]) (rest := []) rfl gX6_search_X0_find rfl ⟨rfl, rfl⟩ hV_X0_find ⟨(Nat.le_of_ble_eq_true rfl), (Nat.le_of_ble_eq_true rfl)⟩ e_u3 (r_X0_find (A := A) e_x4) rfl rfl (Nat.le_of_ble_eq_true rfl) dX6_search_33 ?_
    refine v_istore C (lv' := [(5, .int x4), (0, .ref this), (1, .int a1), (2, .int a2), (3, .int a3), (4, .int a4)]) dX6_search_36 (by decide) rfl ?_
    refine v_iload C 5 dX6_search_38 rfl ?_
    by_cases q5 : a4 = 0
    · have h := ite_t q5 h
      refine v_lookup C 28 68 dX6_search_40 (by decide) (by rw [q5]; decide) (by decide) ?_
      refine v_iload C 0 dX6_search_68 rfl ?_
      refine v_bipush C (v := 32) dX6_search_70 (by decide) ?_
      refine v_idiv C dX6_search_72 (by decide) ?_
      obtain rfl := Option.some.inj h
      exact v_iret C dX6_search_73
    have h := ite_f q5 h
    by_cases q6 : a4 = 1
    · have h := ite_t q6 h
      refine v_lookup C 34 74 dX6_search_40 (by decide) (by rw [q6]; decide) (by decide) ?_
      refine v_iload C 0 dX6_search_74 rfl ?_
      refine v_bipush C (v := 32) dX6_search_76 (by decide) ?_
      refine v_irem C dX6_search_78 (by decide) ?_
      obtain rfl := Option.some.inj h
      exact v_iret C dX6_search_79
    have h := ite_f q6 h
    refine v_lookup C 40 80 dX6_search_40 (by decide) ((lv_osw q5 rfl).trans <| (lv_osw q6 rfl).trans <| rfl) (by decide) ?_
    refine v_aload_n C 1 dX6_search_80 rfl rfl ?_
    obtain ⟨q7, e_q7, h⟩ := bnd h
    refine v_getf C (ci := 5) (k := 3) rfl inX6_search_X6 (by decide) fX6_search_33 dX6_search_81 (gfR_e e_q7) ?_
    obtain ⟨q8, e_q8, h⟩ := bnd h
    refine v_getf C (ci := 0) (k := 0) rfl inX6_search_X0 (by decide) fX6_search_126 dX6_search_84 (gfR_e e_q8) ?_
    refine v_iconst C (v := 0) dX6_search_87 (by decide) ?_
    obtain ⟨q9, e_q9, h⟩ := bnd h
    refine v_aald3 C dX6_search_88 e_q9 ?_
    obtain ⟨q10, e_q10, h⟩ := bnd h
    refine v_getf C (ci := 1) (k := 2) rfl inX6_search_X1 (by decide) fX6_search_151 dX6_search_89 (gfR_e e_q10) ?_
    refine v_iload C 0 dX6_search_92 rfl ?_
    refine v_at (pc' := 94) rfl ?_
    refine v_bipush C (v := 32) dX6_search_94 (by decide) ?_
    refine v_irem C dX6_search_96 (by decide) ?_
    obtain ⟨x11, e_x11, h⟩ := bnd h
    refine v_iald C dX6_search_97 e_x11 ?_
    refine v_callSi C (av := [.int x11]) (rest := []) gX6_search_X3_size rfl ⟨rfl, rfl⟩ hS_X3_size ⟨(Nat.le_of_ble_eq_true rfl), (Nat.le_of_ble_eq_true rfl)⟩ (r_X3_size (A := A) rfl) rfl rfl (Nat.le_of_ble_eq_true rfl) dX6_search_98 ?_
    obtain rfl := Option.some.inj h
    exact v_iret C dX6_search_101
  · have h := ite_f q h
    refine v_iload C 4 dX6_search_8 rfl ?_
    refine v_iconst C (v := 0) dX6_search_10 (by decide) ?_
    refine v_iconst C (v := 2) dX6_search_11 (by decide) ?_
    refine v_callSi C (av := [.int a4, .int 0, .int 2]) (rest := []) gX6_search_X6_inside rfl ⟨rfl, rfl⟩ hS_X6_inside ⟨(Nat.le_of_ble_eq_true rfl), (Nat.le_of_ble_eq_true rfl)⟩ (r_X6_inside (A := A) rfl) rfl rfl (Nat.le_of_ble_eq_true rfl) dX6_search_12 ?_
    refine v_if_eq C (tgt := 22) dX6_search_15 (by decide) (fun q => ?_) (fun q => ?_)
    · have h := ite_t q h
      refine v_iconst C (v := 2) dX6_search_22 (by decide) ?_
      obtain ⟨z12, e_z12, h⟩ := bnd h
      refine v_callSv C (av := [.int 2]) (rest := []) gX6_search_X6_throwIf rfl ⟨rfl, rfl⟩ hS_X6_throwIf ⟨(Nat.le_of_ble_eq_true rfl), (Nat.le_of_ble_eq_true rfl)⟩ (r_X6_throwIf (A := A) e_z12) rfl rfl (Nat.le_of_ble_eq_true rfl) dX6_search_23 ?_
      refine v_aload_n C 0 dX6_search_26 rfl rfl ?_
      obtain ⟨q13, e_q13, h⟩ := bnd h
      refine v_getf C (ci := 5) (k := 3) rfl inX6_search_X6 (by decide) fX6_search_33 dX6_search_27 (gfR_e e_q13) ?_
      refine v_iload_n C 1 dX6_search_30 rfl rfl ?_
      refine v_iload_n C 2 dX6_search_31 rfl rfl ?_
      refine v_iload_n C 3 dX6_search_32 rfl rfl ?_
      refine v_at (pc' := 33) rfl ?_
      obtain ⟨u14, e_u14, h⟩ := bnd h
      obtain ⟨x15, e_x15, h⟩ := bnd h
      refine v_callVi C (ci := 0) (av := [.int a1, .int a2, .int a3]) (rest := []) rfl gX6_search_X0_find rfl ⟨rfl, rfl⟩ hV_X0_find ⟨(Nat.le_of_ble_eq_true rfl), (Nat.le_of_ble_eq_true rfl)⟩ e_u14 (r_X0_find (A := A) e_x15) rfl rfl (Nat.le_of_ble_eq_true rfl) dX6_search_33 ?_
      refine v_istore C (lv' := [(5, .int x15), (0, .ref this), (1, .int a1), (2, .int a2), (3, .int a3), (4, .int a4)]) dX6_search_36 (by decide) rfl ?_
      refine v_iload C 5 dX6_search_38 rfl ?_
      by_cases q16 : a4 = 0
      · have h := ite_t q16 h
        refine v_lookup C 28 68 dX6_search_40 (by decide) (by rw [q16]; decide) (by decide) ?_
        refine v_iload C 0 dX6_search_68 rfl ?_
        refine v_bipush C (v := 32) dX6_search_70 (by decide) ?_
        refine v_idiv C dX6_search_72 (by decide) ?_
        obtain rfl := Option.some.inj h
        exact v_iret C dX6_search_73
      have h := ite_f q16 h
      by_cases q17 : a4 = 1
      · have h := ite_t q17 h
        refine v_lookup C 34 74 dX6_search_40 (by decide) (by rw [q17]; decide) (by decide) ?_
        refine v_iload C 0 dX6_search_74 rfl ?_
        refine v_bipush C (v := 32) dX6_search_76 (by decide) ?_
        refine v_irem C dX6_search_78 (by decide) ?_
        obtain rfl := Option.some.inj h
        exact v_iret C dX6_search_79
      have h := ite_f q17 h
      refine v_lookup C 40 80 dX6_search_40 (by decide) ((lv_osw q16 rfl).trans <| (lv_osw q17 rfl).trans <| rfl) (by decide) ?_
      refine v_aload_n C 1 dX6_search_80 rfl rfl ?_
      obtain ⟨q18, e_q18, h⟩ := bnd h
      refine v_getf C (ci := 5) (k := 3) rfl inX6_search_X6 (by decide) fX6_search_33 dX6_search_81 (gfR_e e_q18) ?_
      obtain ⟨q19, e_q19, h⟩ := bnd h
      refine v_getf C (ci := 0) (k := 0) rfl inX6_search_X0 (by decide) fX6_search_126 dX6_search_84 (gfR_e e_q19) ?_
      refine v_iconst C (v := 0) dX6_search_87 (by decide) ?_
      obtain ⟨q20, e_q20, h⟩ := bnd h
      refine v_aald3 C dX6_search_88 e_q20 ?_
      obtain ⟨q21, e_q21, h⟩ := bnd h
      refine v_getf C (ci := 1) (k := 2) rfl inX6_search_X1 (by decide) fX6_search_151 dX6_search_89 (gfR_e e_q21) ?_
      refine v_iload C 0 dX6_search_92 rfl ?_
      refine v_at (pc' := 94) rfl ?_
      refine v_bipush C (v := 32) dX6_search_94 (by decide) ?_
      refine v_irem C dX6_search_96 (by decide) ?_
      obtain ⟨x22, e_x22, h⟩ := bnd h
      refine v_iald C dX6_search_97 e_x22 ?_
      refine v_callSi C (av := [.int x22]) (rest := []) gX6_search_X3_size rfl ⟨rfl, rfl⟩ hS_X3_size ⟨(Nat.le_of_ble_eq_true rfl), (Nat.le_of_ble_eq_true rfl)⟩ (r_X3_size (A := A) rfl) rfl rfl (Nat.le_of_ble_eq_true rfl) dX6_search_98 ?_
      obtain rfl := Option.some.inj h
      exact v_iret C dX6_search_101
    · have h := ite_f q h
      refine v_iconst C (v := 0) dX6_search_18 (by decide) ?_
      refine v_goto C (tgt := 23) dX6_search_19 (by decide) ?_
      obtain ⟨z23, e_z23, h⟩ := bnd h
      refine v_callSv C (av := [.int 0]) (rest := []) gX6_search_X6_throwIf rfl ⟨rfl, rfl⟩ hS_X6_throwIf ⟨(Nat.le_of_ble_eq_true rfl), (Nat.le_of_ble_eq_true rfl)⟩ (r_X6_throwIf (A := A) e_z23) rfl rfl (Nat.le_of_ble_eq_true rfl) dX6_search_23 ?_
      refine v_aload_n C 0 dX6_search_26 rfl rfl ?_
      obtain ⟨q24, e_q24, h⟩ := bnd h
      refine v_getf C (ci := 5) (k := 3) rfl inX6_search_X6 (by decide) fX6_search_33 dX6_search_27 (gfR_e e_q24) ?_
      refine v_iload_n C 1 dX6_search_30 rfl rfl ?_
      refine v_iload_n C 2 dX6_search_31 rfl rfl ?_
      refine v_at (pc' := 32) rfl ?_
      refine v_iload_n C 3 dX6_search_32 rfl rfl ?_
      obtain ⟨u25, e_u25, h⟩ := bnd h
      obtain ⟨x26, e_x26, h⟩ := bnd h
      refine v_callVi C (ci := 0) (av := [.int a1, .int a2, .int a3]) (rest := []) rfl gX6_search_X0_find rfl ⟨rfl, rfl⟩ hV_X0_find ⟨(Nat.le_of_ble_eq_true rfl), (Nat.le_of_ble_eq_true rfl)⟩ e_u25 (r_X0_find (A := A) e_x26) rfl rfl (Nat.le_of_ble_eq_true rfl) dX6_search_33 ?_
      refine v_istore C (lv' := [(5, .int x26), (0, .ref this), (1, .int a1), (2, .int a2), (3, .int a3), (4, .int a4)]) dX6_search_36 (by decide) rfl ?_
      refine v_iload C 5 dX6_search_38 rfl ?_
      by_cases q27 : a4 = 0
      · have h := ite_t q27 h
        refine v_lookup C 28 68 dX6_search_40 (by decide) (by rw [q27]; decide) (by decide) ?_
        refine v_iload C 0 dX6_search_68 rfl ?_
        refine v_bipush C (v := 32) dX6_search_70 (by decide) ?_
        refine v_idiv C dX6_search_72 (by decide) ?_
        obtain rfl := Option.some.inj h
        exact v_iret C dX6_search_73
      have h := ite_f q27 h
      by_cases q28 : a4 = 1
      · have h := ite_t q28 h
        refine v_lookup C 34 74 dX6_search_40 (by decide) (by rw [q28]; decide) (by decide) ?_
        refine v_iload C 0 dX6_search_74 rfl ?_
        refine v_bipush C (v := 32) dX6_search_76 (by decide) ?_
        refine v_irem C dX6_search_78 (by decide) ?_
        obtain rfl := Option.some.inj h
        exact v_iret C dX6_search_79
      have h := ite_f q28 h
      refine v_lookup C 40 80 dX6_search_40 (by decide) ((lv_osw q27 rfl).trans <| (lv_osw q28 rfl).trans <| rfl) (by decide) ?_
      refine v_aload_n C 1 dX6_search_80 rfl rfl ?_
      obtain ⟨q29, e_q29, h⟩ := bnd h
      refine v_getf C (ci := 5) (k := 3) rfl inX6_search_X6 (by decide) fX6_search_33 dX6_search_81 (gfR_e e_q29) ?_
      obtain ⟨q30, e_q30, h⟩ := bnd h
      refine v_getf C (ci := 0) (k := 0) rfl inX6_search_X0 (by decide) fX6_search_126 dX6_search_84 (gfR_e e_q30) ?_
      refine v_iconst C (v := 0) dX6_search_87 (by decide) ?_
      obtain ⟨q31, e_q31, h⟩ := bnd h
      refine v_aald3 C dX6_search_88 e_q31 ?_
      obtain ⟨q32, e_q32, h⟩ := bnd h
      refine v_getf C (ci := 1) (k := 2) rfl inX6_search_X1 (by decide) fX6_search_151 dX6_search_89 (gfR_e e_q32) ?_
      refine v_iload C 0 dX6_search_92 rfl ?_
      refine v_at (pc' := 94) rfl ?_
      refine v_bipush C (v := 32) dX6_search_94 (by decide) ?_
      refine v_irem C dX6_search_96 (by decide) ?_
      obtain ⟨x33, e_x33, h⟩ := bnd h
      refine v_iald C dX6_search_97 e_x33 ?_
      refine v_callSi C (av := [.int x33]) (rest := []) gX6_search_X3_size rfl ⟨rfl, rfl⟩ hS_X3_size ⟨(Nat.le_of_ble_eq_true rfl), (Nat.le_of_ble_eq_true rfl)⟩ (r_X3_size (A := A) rfl) rfl rfl (Nat.le_of_ble_eq_true rfl) dX6_search_98 ?_
      obtain rfl := Option.some.inj h
      exact v_iret C dX6_search_101
theorem fX6_worst_10 : Cond.fieldLink RX6 10 (TX6 0).1 (TX6 0).2.1 (TX6 0).2.2.1 ∈ wsX6_worst := by decide +kernel
theorem inX6_worst_X6 : ∀ x ∈ u_ws RX6 TX6 5, x ∈ wsX6_worst := by decide +kernel
theorem fX6_worst_113 : Cond.fieldLink RX6 113 (TX4 0).1 (TX4 0).2.1 (TX4 0).2.2.1 ∈ wsX6_worst := by decide +kernel
theorem inX6_worst_X4 : ∀ x ∈ u_ws RX4 TX4 9, x ∈ wsX6_worst := by decide +kernel
theorem fX6_worst_33 : Cond.fieldLink RX6 33 (TX6 3).1 (TX6 3).2.1 (TX6 3).2.2.1 ∈ wsX6_worst := by decide +kernel
theorem fX6_worst_117 : Cond.fieldLink RX6 117 (TX4 1).1 (TX4 1).2.1 (TX4 1).2.2.1 ∈ wsX6_worst := by decide +kernel
theorem fX6_worst_120 : Cond.fieldLink RX6 120 (TX4 2).1 (TX4 2).2.1 (TX4 2).2.2.1 ∈ wsX6_worst := by decide +kernel
theorem mlX6_worst_193 : Cond.methodLink RX6 193 Lib.Math.max.name ∈ wsX6_worst := by decide +kernel
theorem msX6_worst_max : Cond.static Lib.Math.max.name ∈ wsX6_worst := by decide +kernel
theorem miX6_worst : Cond.initialized "java/lang/Math" ∈ wsX6_worst := by decide +kernel
theorem mcX6_worst_max : Cond.code Lib.Math.max.name Lib.Math.max.code 2 (some .int) ∈ wsX6_worst := by decide +kernel
set_option maxRecDepth 100000 in
set_option maxHeartbeats 4000000 in
theorem r_X6_worst_p4 {p : Program} {l : Launch} {e : Env} {s : State} {m : MethodId} {args : Array Value} {below : List Frame} {meth : Method} {c : Code} {G : GG} {A : Nat → Prop} (C : Cx p s m args meth c G A cX6_worst 4 RX6 wsX6_worst (some .int)) (n : Nat) {z : Int32} : ∀ (t : Nat), ∀ (w : Wd) (a0 : Nat) (a1 : Int32) (a2 : Int32) (a3 : Int32), m_X6_worst_p4 n t w a0 a1 a2 a3 = some z → V p l e { frames := 6, cells := 0, slots := 0, locals := 143 } s m args below meth c G A 4 4 [(0, .ref a0), (1, .int a1), (2, .int a2), (3, .int a3)] [] w (some (.int z)) w := by
  intro t
  induction t with
  | zero =>
    intro w a0 a1 a2 a3 h
    rw [m_X6_worst_p4] at h
    cases h
  | succ t ih =>
    intro w a0 a1 a2 a3 h
    rw [m_X6_worst_p4] at h
    refine v_iload_n C 3 dX6_worst_4 rfl rfl ?_
    refine v_bipush C (v := 24) dX6_worst_5 (by decide) ?_
    refine v_icmp_ge C (tgt := 62) dX6_worst_7 (by decide) (fun q => ?_) (fun q => ?_)
    · have h := ite_t q h
      refine v_iload_n C 2 dX6_worst_62 rfl rfl ?_
      obtain rfl := Option.some.inj h
      exact v_iret C dX6_worst_63
    · have h := ite_f q h
      refine v_aload_n C 0 dX6_worst_10 rfl rfl ?_
      obtain ⟨q1, e_q1, h⟩ := bnd h
      refine v_getf C (ci := 5) (k := 0) rfl inX6_worst_X6 (by decide) fX6_worst_10 dX6_worst_11 (gfR_e e_q1) ?_
      obtain ⟨q2, e_q2, h⟩ := bnd h
      refine v_getf C (ci := 3) (k := 0) rfl inX6_worst_X4 (by decide) fX6_worst_113 dX6_worst_14 (gfR_e e_q2) ?_
      refine v_iload_n C 3 dX6_worst_17 rfl rfl ?_
      obtain ⟨x3, e_x3, h⟩ := bnd h
      refine v_zald C dX6_worst_18 e_x3 ?_
      refine v_if_eq C (tgt := 56) dX6_worst_19 (by decide) (fun q => ?_) (fun q => ?_)
      · have h := ite_t q h
        refine v_iinc C (k := 3) (v := (a3 + 1)) (lv' := [(3, .int (a3 + 1)), (0, .ref a0), (1, .int a1), (2, .int a2)]) dX6_worst_56 rfl rfl (by decide) rfl ?_
        refine v_goto C (tgt := 4) dX6_worst_59 (by decide) ?_
        refine v_sub [1, 2, 3, 0] rfl ?_
        exact ih _ _ _ _ _ h
      · have h := ite_f q h
        refine v_iload_n C 2 dX6_worst_22 rfl rfl ?_
        refine v_aload_n C 0 dX6_worst_23 rfl rfl ?_
        obtain ⟨q4, e_q4, h⟩ := bnd h
        refine v_getf C (ci := 5) (k := 3) rfl inX6_worst_X6 (by decide) fX6_worst_33 dX6_worst_24 (gfR_e e_q4) ?_
        refine v_aload_n C 0 dX6_worst_27 rfl rfl ?_
        obtain ⟨q5, e_q5, h⟩ := bnd h
        refine v_getf C (ci := 5) (k := 0) rfl inX6_worst_X6 (by decide) fX6_worst_10 dX6_worst_28 (gfR_e e_q5) ?_
        obtain ⟨q6, e_q6, h⟩ := bnd h
        refine v_getf C (ci := 3) (k := 1) rfl inX6_worst_X4 (by decide) fX6_worst_117 dX6_worst_31 (gfR_e e_q6) ?_
        refine v_iload_n C 3 dX6_worst_34 rfl rfl ?_
        refine v_at (pc' := 35) rfl ?_
        obtain ⟨x7, e_x7, h⟩ := bnd h
        refine v_iald C dX6_worst_35 e_x7 ?_
        refine v_aload_n C 0 dX6_worst_36 rfl rfl ?_
        obtain ⟨q8, e_q8, h⟩ := bnd h
        refine v_getf C (ci := 5) (k := 0) rfl inX6_worst_X6 (by decide) fX6_worst_10 dX6_worst_37 (gfR_e e_q8) ?_
        obtain ⟨q9, e_q9, h⟩ := bnd h
        refine v_getf C (ci := 3) (k := 2) rfl inX6_worst_X4 (by decide) fX6_worst_120 dX6_worst_40 (gfR_e e_q9) ?_
        refine v_iload_n C 3 dX6_worst_43 rfl rfl ?_
        obtain ⟨x10, e_x10, h⟩ := bnd h
        refine v_iald C dX6_worst_44 e_x10 ?_
        refine v_iload_n C 1 dX6_worst_45 rfl rfl ?_
        obtain ⟨u11, e_u11, h⟩ := bnd h
        obtain ⟨x12, e_x12, h⟩ := bnd h
        refine v_callVi C (ci := 0) (av := [.int x7, .int x10, .int a1]) (rest := [.int a2]) rfl gX6_worst_X0_find rfl ⟨rfl, rfl⟩ hV_X0_find ⟨(Nat.le_of_ble_eq_true rfl), (Nat.le_of_ble_eq_true rfl)⟩ e_u11 (r_X0_find (A := A) e_x12) rfl rfl (Nat.le_of_ble_eq_true rfl) dX6_worst_46 ?_
        refine v_at (pc' := 49) rfl ?_
        refine v_bipush C (v := 32) dX6_worst_49 (by decide) ?_
        refine v_idiv C dX6_worst_51 (by decide) ?_
        refine v_max C mlX6_worst_193 msX6_worst_max miX6_worst mcX6_worst_max (Nat.le_of_ble_eq_true rfl) (Nat.le_of_ble_eq_true rfl) dX6_worst_52 ?_
        refine v_istore_n C (lv' := [(2, .int (mxI a2 (x12 / 32))), (0, .ref a0), (1, .int a1), (3, .int a3)]) dX6_worst_55 rfl (by decide) rfl ?_
        refine v_iinc C (k := 3) (v := (a3 + 1)) (lv' := [(3, .int (a3 + 1)), (2, .int (mxI a2 (x12 / 32))), (0, .ref a0), (1, .int a1)]) dX6_worst_56 rfl rfl (by decide) rfl ?_
        refine v_goto C (tgt := 4) dX6_worst_59 (by decide) ?_
        refine v_sub [2, 3, 1, 0] rfl ?_
        exact ih _ _ _ _ _ h
set_option maxRecDepth 100000 in
set_option maxHeartbeats 4000000 in
theorem r_X6_worst {l : Launch} {G : GG} {A : Nat → Prop} {n : Nat} {w : Wd} {this : Nat} {a1 : Int32} {z : Int32} (h : m_X6_worst n w this a1 = some z) : Con l yX6_worst wsX6_worst { frames := 6, cells := 0, slots := 0, locals := 143 } G A [.ref this, .int a1] w (some (.int z)) w := by
  refine Con.of (own := RX6) (cc := cX6_worst) (maxL := 4) (ret := (some .int)) rfl (by decide) rfl (Nat.le_of_ble_eq_true rfl) ?_
  intro p e s m args below meth c C
  show V p l e { frames := 6, cells := 0, slots := 0, locals := 143 } s m args below meth c G A 4 0 [(0, .ref this), (1, .int a1)] [] w (some (.int z)) w
  unfold m_X6_worst at h
  refine v_iconst C (v := 0) dX6_worst_0 (by decide) ?_
  refine v_istore_n C (lv' := [(2, .int 0), (0, .ref this), (1, .int a1)]) dX6_worst_1 rfl (by decide) rfl ?_
  refine v_iconst C (v := 0) dX6_worst_2 (by decide) ?_
  refine v_istore_n C (lv' := [(3, .int 0), (2, .int 0), (0, .ref this), (1, .int a1)]) dX6_worst_3 rfl (by decide) rfl ?_
  refine v_sub [2, 3, 1, 0] rfl ?_
  exact r_X6_worst_p4 C n n _ _ _ _ _ h
theorem fX6_wouldTouch_10 : Cond.fieldLink RX6 10 (TX6 0).1 (TX6 0).2.1 (TX6 0).2.2.1 ∈ wsX6_wouldTouch := by decide +kernel
theorem inX6_wouldTouch_X6 : ∀ x ∈ u_ws RX6 TX6 5, x ∈ wsX6_wouldTouch := by decide +kernel
theorem fX6_wouldTouch_117 : Cond.fieldLink RX6 117 (TX4 1).1 (TX4 1).2.1 (TX4 1).2.2.1 ∈ wsX6_wouldTouch := by decide +kernel
theorem inX6_wouldTouch_X4 : ∀ x ∈ u_ws RX4 TX4 9, x ∈ wsX6_wouldTouch := by decide +kernel
theorem fX6_wouldTouch_120 : Cond.fieldLink RX6 120 (TX4 2).1 (TX4 2).2.1 (TX4 2).2.2.1 ∈ wsX6_wouldTouch := by decide +kernel
theorem fX6_wouldTouch_37 : Cond.fieldLink RX6 37 (TX6 4).1 (TX6 4).2.1 (TX6 4).2.2.1 ∈ wsX6_wouldTouch := by decide +kernel
theorem fX6_wouldTouch_33 : Cond.fieldLink RX6 33 (TX6 3).1 (TX6 3).2.1 (TX6 3).2.2.1 ∈ wsX6_wouldTouch := by decide +kernel
set_option maxRecDepth 100000 in
set_option maxHeartbeats 4000000 in
theorem r_X6_wouldTouch {l : Launch} {G : GG} {A : Nat → Prop} {n : Nat} {w : Wd} {this : Nat} {a1 : Int32} {a2 : Int32} {a3 : Int32} {z : (Int32 × Wd)} (h : m_X6_wouldTouch n w this a1 a2 a3 = some z) : Con l yX6_wouldTouch wsX6_wouldTouch { frames := 3, cells := 0, slots := 0, locals := 72 } G A [.ref this, .int a1, .int a2, .int a3] w (some (.int z.1)) z.2 := by
  refine Con.of (own := RX6) (cc := cX6_wouldTouch) (maxL := 6) (ret := (some .int)) rfl (by decide) rfl (Nat.le_of_ble_eq_true rfl) ?_
  intro p e s m args below meth c C
  show V p l e { frames := 3, cells := 0, slots := 0, locals := 72 } s m args below meth c G A 6 0 [(0, .ref this), (1, .int a1), (2, .int a2), (3, .int a3)] [] w (some (.int z.1)) z.2
  unfold m_X6_wouldTouch at h
  refine v_aload_n C 0 dX6_wouldTouch_0 rfl rfl ?_
  refine v_iload_n C 1 dX6_wouldTouch_1 rfl rfl ?_
  refine v_iload_n C 2 dX6_wouldTouch_2 rfl rfl ?_
  refine v_iload_n C 3 dX6_wouldTouch_3 rfl rfl ?_
  refine v_iconst C (v := 1) dX6_wouldTouch_4 (by decide) ?_
  obtain ⟨u1, e_u1, h⟩ := bnd h
  obtain ⟨x2, e_x2, h⟩ := bnd h
  refine v_callVi C (ci := 5) (av := [.int a1, .int a2, .int a3, .int 1]) (rest := []) rfl gX6_wouldTouch_X6_refusalOfPlace rfl ⟨rfl, rfl⟩ hV_X6_refusalOfPlace ⟨(Nat.le_of_ble_eq_true rfl), (Nat.le_of_ble_eq_true rfl)⟩ e_u1 (r_X6_refusalOfPlace (A := A) e_x2) rfl rfl (Nat.le_of_ble_eq_true rfl) dX6_wouldTouch_5 ?_
  obtain ⟨z3, e_z3, h⟩ := bnd h
  refine v_callSv C (av := [.int x2]) (rest := []) gX6_wouldTouch_X6_throwIf rfl ⟨rfl, rfl⟩ hS_X6_throwIf ⟨(Nat.le_of_ble_eq_true rfl), (Nat.le_of_ble_eq_true rfl)⟩ (r_X6_throwIf (A := A) e_z3) rfl rfl (Nat.le_of_ble_eq_true rfl) dX6_wouldTouch_8 ?_
  refine v_at (pc' := 11) rfl ?_
  refine v_aload_n C 0 dX6_wouldTouch_11 rfl rfl ?_
  obtain ⟨q4, e_q4, h⟩ := bnd h
  refine v_getf C (ci := 5) (k := 0) rfl inX6_wouldTouch_X6 (by decide) fX6_wouldTouch_10 dX6_wouldTouch_12 (gfR_e e_q4) ?_
  obtain ⟨q5, e_q5, h⟩ := bnd h
  refine v_getf C (ci := 3) (k := 1) rfl inX6_wouldTouch_X4 (by decide) fX6_wouldTouch_117 dX6_wouldTouch_15 (gfR_e e_q5) ?_
  refine v_iload_n C 1 dX6_wouldTouch_18 rfl rfl ?_
  obtain ⟨x6, e_x6, h⟩ := bnd h
  refine v_iald C dX6_wouldTouch_19 e_x6 ?_
  refine v_istore C (lv' := [(4, .int x6), (0, .ref this), (1, .int a1), (2, .int a2), (3, .int a3)]) dX6_wouldTouch_20 (by decide) rfl ?_
  refine v_aload_n C 1 dX6_wouldTouch_22 rfl rfl ?_
  obtain ⟨q7, e_q7, h⟩ := bnd h
  refine v_getf C (ci := 5) (k := 0) rfl inX6_wouldTouch_X6 (by decide) fX6_wouldTouch_10 dX6_wouldTouch_23 (gfR_e e_q7) ?_
  refine v_at (pc' := 26) rfl ?_
  obtain ⟨q8, e_q8, h⟩ := bnd h
  refine v_getf C (ci := 3) (k := 2) rfl inX6_wouldTouch_X4 (by decide) fX6_wouldTouch_120 dX6_wouldTouch_26 (gfR_e e_q8) ?_
  refine v_iload_n C 2 dX6_wouldTouch_29 rfl rfl ?_
  obtain ⟨x9, e_x9, h⟩ := bnd h
  refine v_iald C dX6_wouldTouch_30 e_x9 ?_
  refine v_istore C (lv' := [(5, .int x9), (4, .int x6), (0, .ref this), (1, .int a1), (2, .int a2), (3, .int a3)]) dX6_wouldTouch_31 (by decide) rfl ?_
  refine v_aload_n C 2 dX6_wouldTouch_33 rfl rfl ?_
  obtain ⟨q10, e_q10, h⟩ := bnd h
  refine v_getf C (ci := 5) (k := 0) rfl inX6_wouldTouch_X6 (by decide) fX6_wouldTouch_10 dX6_wouldTouch_34 (gfR_e e_q10) ?_
  refine v_iload_n C 3 dX6_wouldTouch_37 rfl rfl ?_
  refine v_iload_n C 4 dX6_wouldTouch_38 rfl rfl ?_
  refine v_at (pc' := 39) rfl ?_
  refine v_iload_n C 5 dX6_wouldTouch_39 rfl rfl ?_
  obtain ⟨u11, e_u11, h⟩ := bnd h
  obtain ⟨z12, e_z12, h⟩ := bnd h
  refine v_callVv C (ci := 3) (av := [.int a1, .int a2, .int a3]) (rest := []) rfl gX6_wouldTouch_X4_put rfl ⟨rfl, rfl⟩ hV_X4_put ⟨(Nat.le_of_ble_eq_true rfl), (Nat.le_of_ble_eq_true rfl)⟩ e_u11 (r_X4_put (A := A) e_z12) rfl rfl (Nat.le_of_ble_eq_true rfl) dX6_wouldTouch_40 ?_
  refine v_aload_n C 2 dX6_wouldTouch_43 rfl rfl ?_
  obtain ⟨q13, e_q13, h⟩ := bnd h
  refine v_getf C (ci := 5) (k := 4) rfl inX6_wouldTouch_X6 (by decide) fX6_wouldTouch_37 dX6_wouldTouch_44 (gfR_e e_q13) ?_
  refine v_aload_n C 2 dX6_wouldTouch_47 rfl rfl ?_
  obtain ⟨q14, e_q14, h⟩ := bnd h
  refine v_getf C (ci := 5) (k := 0) rfl inX6_wouldTouch_X6 (by decide) fX6_wouldTouch_10 dX6_wouldTouch_48 (gfR_e e_q14) ?_
  obtain ⟨u15, e_u15, h⟩ := bnd h
  obtain ⟨z16, e_z16, h⟩ := bnd h
  refine v_callVv C (ci := 0) (av := [.ref q14]) (rest := []) rfl gX6_wouldTouch_X0_plant rfl ⟨rfl, rfl⟩ hV_X0_plant ⟨(Nat.le_of_ble_eq_true rfl), (Nat.le_of_ble_eq_true rfl)⟩ e_u15 (r_X0_plant (A := A) e_z16) rfl rfl (Nat.le_of_ble_eq_true rfl) dX6_wouldTouch_51 ?_
  refine v_aload_n C 2 dX6_wouldTouch_54 rfl rfl ?_
  refine v_at (pc' := 55) rfl ?_
  obtain ⟨q17, e_q17, h⟩ := bnd h
  refine v_getf C (ci := 5) (k := 0) rfl inX6_wouldTouch_X6 (by decide) fX6_wouldTouch_10 dX6_wouldTouch_55 (gfR_e e_q17) ?_
  refine v_iload_n C 3 dX6_wouldTouch_58 rfl rfl ?_
  refine v_iload C 1 dX6_wouldTouch_59 rfl ?_
  refine v_iload C 0 dX6_wouldTouch_61 rfl ?_
  obtain ⟨u18, e_u18, h⟩ := bnd h
  obtain ⟨z19, e_z19, h⟩ := bnd h
  refine v_callVv C (ci := 3) (av := [.int a1, .int x6, .int x9]) (rest := []) rfl gX6_wouldTouch_X4_put rfl ⟨rfl, rfl⟩ hV_X4_put ⟨(Nat.le_of_ble_eq_true rfl), (Nat.le_of_ble_eq_true rfl)⟩ e_u18 (r_X4_put (A := A) e_z19) rfl rfl (Nat.le_of_ble_eq_true rfl) dX6_wouldTouch_63 ?_
  refine v_aload_n C 2 dX6_wouldTouch_66 rfl rfl ?_
  obtain ⟨q20, e_q20, h⟩ := bnd h
  refine v_getf C (ci := 5) (k := 3) rfl inX6_wouldTouch_X6 (by decide) fX6_wouldTouch_33 dX6_wouldTouch_67 (gfR_e e_q20) ?_
  refine v_aload_n C 2 dX6_wouldTouch_70 rfl rfl ?_
  refine v_at (pc' := 71) rfl ?_
  obtain ⟨q21, e_q21, h⟩ := bnd h
  refine v_getf C (ci := 5) (k := 4) rfl inX6_wouldTouch_X6 (by decide) fX6_wouldTouch_37 dX6_wouldTouch_71 (gfR_e e_q21) ?_
  obtain ⟨u22, e_u22, h⟩ := bnd h
  obtain ⟨x23, e_x23, h⟩ := bnd h
  refine v_callVi C (ci := 0) (av := [.ref q21]) (rest := []) rfl gX6_wouldTouch_X0_differences rfl ⟨rfl, rfl⟩ hV_X0_differences ⟨(Nat.le_of_ble_eq_true rfl), (Nat.le_of_ble_eq_true rfl)⟩ e_u22 (r_X0_differences (A := A) e_x23) rfl rfl (Nat.le_of_ble_eq_true rfl) dX6_wouldTouch_74 ?_
  obtain rfl := Option.some.inj h
  exact v_iret C dX6_wouldTouch_77
set_option maxRecDepth 100000 in
set_option maxHeartbeats 4000000 in
theorem r_X6_refusalOfOpen {l : Launch} {G : GG} {A : Nat → Prop} {w : Wd} {a0 : Int32} {a1 : Int32} {a2 : Int32} {z : Int32} (h : m_X6_refusalOfOpen a0 a1 a2 = z) : Con l yX6_refusalOfOpen wsX6_refusalOfOpen { frames := 2, cells := 0, slots := 0, locals := 43 } G A [.int a0, .int a1, .int a2] w (some (.int z)) w := by
  refine Con.of (own := RX6) (cc := cX6_refusalOfOpen) (maxL := 3) (ret := (some .int)) rfl (by decide) rfl (Nat.le_of_ble_eq_true rfl) ?_
  intro p e s m args below meth c C
  show V p l e { frames := 2, cells := 0, slots := 0, locals := 43 } s m args below meth c G A 3 0 [(0, .int a0), (1, .int a1), (2, .int a2)] [] w (some (.int z)) w
  unfold m_X6_refusalOfOpen at h
  refine v_iload_n C 0 dX6_refusalOfOpen_0 rfl rfl ?_
  refine v_iconst C (v := 0) dX6_refusalOfOpen_1 (by decide) ?_
  refine v_iconst C (v := 3) dX6_refusalOfOpen_2 (by decide) ?_
  refine v_callSi C (av := [.int a0, .int 0, .int 3]) (rest := []) gX6_refusalOfOpen_X6_inside rfl ⟨rfl, rfl⟩ hS_X6_inside ⟨(Nat.le_of_ble_eq_true rfl), (Nat.le_of_ble_eq_true rfl)⟩ (r_X6_inside (A := A) rfl) rfl rfl (Nat.le_of_ble_eq_true rfl) dX6_refusalOfOpen_3 ?_
  refine v_if_ne C (tgt := 11) dX6_refusalOfOpen_6 (by decide) (fun q => ?_) (fun q => ?_)
  · have h := ite_f q h
    refine v_iload_n C 1 dX6_refusalOfOpen_11 rfl rfl ?_
    refine v_iload_n C 2 dX6_refusalOfOpen_12 rfl rfl ?_
    refine v_callSi C (av := [.int a1, .int a2]) (rest := []) gX6_refusalOfOpen_X6_isPosition rfl ⟨rfl, rfl⟩ hS_X6_isPosition ⟨(Nat.le_of_ble_eq_true rfl), (Nat.le_of_ble_eq_true rfl)⟩ (r_X6_isPosition (A := A) rfl) rfl rfl (Nat.le_of_ble_eq_true rfl) dX6_refusalOfOpen_13 ?_
    refine v_if_eq C (tgt := 23) dX6_refusalOfOpen_16 (by decide) (fun q => ?_) (fun q => ?_)
    · have h := ite_t q h
      refine v_iconst C (v := 2) dX6_refusalOfOpen_23 (by decide) ?_
      subst h
      exact v_iret C dX6_refusalOfOpen_24
    · have h := ite_f q h
      refine v_iconst C (v := 0) dX6_refusalOfOpen_19 (by decide) ?_
      refine v_goto C (tgt := 24) dX6_refusalOfOpen_20 (by decide) ?_
      subst h
      exact v_iret C dX6_refusalOfOpen_24
  · have h := ite_t q h
    refine v_iconst C (v := 1) dX6_refusalOfOpen_9 (by decide) ?_
    subst h
    exact v_iret C dX6_refusalOfOpen_10
theorem hS_X6_refusalOfOpen : yX6_refusalOfOpen.cls ≠ "java/lang/invoke/MethodHandle" ∧ yX6_refusalOfOpen.cls ≠ "java/lang/invoke/VarHandle" ∧ (parseMethodDescriptor yX6_refusalOfOpen.desc).map (fun d => d.parameters.length) = some 3 := by decide +kernel
theorem fX6_open_19 : Cond.fieldLink RX6 19 (TX6 1).1 (TX6 1).2.1 (TX6 1).2.2.1 ∈ wsX6_open := by decide +kernel
theorem inX6_open_X6 : ∀ x ∈ u_ws RX6 TX6 5, x ∈ wsX6_open := by decide +kernel
theorem fX6_open_10 : Cond.fieldLink RX6 10 (TX6 0).1 (TX6 0).2.1 (TX6 0).2.2.1 ∈ wsX6_open := by decide +kernel
theorem fX6_open_206 : Cond.fieldLink RX6 206 (TX4 5).1 (TX4 5).2.1 (TX4 5).2.2.1 ∈ wsX6_open := by decide +kernel
theorem inX6_open_X4 : ∀ x ∈ u_ws RX4 TX4 9, x ∈ wsX6_open := by decide +kernel
theorem fX6_open_209 : Cond.fieldLink RX6 209 (TX4 6).1 (TX4 6).2.1 (TX4 6).2.2.1 ∈ wsX6_open := by decide +kernel
theorem fX6_open_212 : Cond.fieldLink RX6 212 (TX4 7).1 (TX4 7).2.1 (TX4 7).2.2.1 ∈ wsX6_open := by decide +kernel
set_option maxRecDepth 100000 in
set_option maxHeartbeats 4000000 in
theorem r_X6_open {l : Launch} {G : GG} {A : Nat → Prop} {n : Nat} {w : Wd} {this : Nat} {a1 : Int32} {a2 : Int32} {a3 : Int32} {z : (Int32 × Wd)} (h : m_X6_open n w this a1 a2 a3 = some z) : Con l yX6_open wsX6_open { frames := 3, cells := 0, slots := 0, locals := 65 } G A [.ref this, .int a1, .int a2, .int a3] w (some (.int z.1)) z.2 := by
  refine Con.of (own := RX6) (cc := cX6_open) (maxL := 4) (ret := (some .int)) rfl (by decide) rfl (Nat.le_of_ble_eq_true rfl) ?_
  intro p e s m args below meth c C
  show V p l e { frames := 3, cells := 0, slots := 0, locals := 65 } s m args below meth c G A 4 0 [(0, .ref this), (1, .int a1), (2, .int a2), (3, .int a3)] [] w (some (.int z.1)) z.2
  unfold m_X6_open at h
  refine v_iload_n C 1 dX6_open_0 rfl rfl ?_
  refine v_iload_n C 2 dX6_open_1 rfl rfl ?_
  refine v_iload_n C 3 dX6_open_2 rfl rfl ?_
  refine v_callSi C (av := [.int a1, .int a2, .int a3]) (rest := []) gX6_open_X6_refusalOfOpen rfl ⟨rfl, rfl⟩ hS_X6_refusalOfOpen ⟨(Nat.le_of_ble_eq_true rfl), (Nat.le_of_ble_eq_true rfl)⟩ (r_X6_refusalOfOpen (A := A) rfl) rfl rfl (Nat.le_of_ble_eq_true rfl) dX6_open_3 ?_
  obtain ⟨z1, e_z1, h⟩ := bnd h
  refine v_callSv C (av := [.int (m_X6_refusalOfOpen a1 a2 a3)]) (rest := []) gX6_open_X6_throwIf rfl ⟨rfl, rfl⟩ hS_X6_throwIf ⟨(Nat.le_of_ble_eq_true rfl), (Nat.le_of_ble_eq_true rfl)⟩ (r_X6_throwIf (A := A) e_z1) rfl rfl (Nat.le_of_ble_eq_true rfl) dX6_open_6 ?_
  refine v_aload_n C 0 dX6_open_9 rfl rfl ?_
  obtain ⟨q2, e_q2, h⟩ := bnd h
  refine v_getf C (ci := 5) (k := 1) rfl inX6_open_X6 (by decide) fX6_open_19 dX6_open_10 (gfR_e e_q2) ?_
  refine v_at (pc' := 13) rfl ?_
  refine v_aload_n C 0 dX6_open_13 rfl rfl ?_
  obtain ⟨q3, e_q3, h⟩ := bnd h
  refine v_getf C (ci := 5) (k := 0) rfl inX6_open_X6 (by decide) fX6_open_10 dX6_open_14 (gfR_e e_q3) ?_
  obtain ⟨u4, e_u4, h⟩ := bnd h
  obtain ⟨z5, e_z5, h⟩ := bnd h
  refine v_callVv C (ci := 4) (av := [.ref q3]) (rest := []) rfl gX6_open_X5_push rfl ⟨rfl, rfl⟩ hV_X5_push ⟨(Nat.le_of_ble_eq_true rfl), (Nat.le_of_ble_eq_true rfl)⟩ e_u4 (r_X5_push (A := A) e_z5) rfl rfl (Nat.le_of_ble_eq_true rfl) dX6_open_17 ?_
  refine v_aload_n C 0 dX6_open_20 rfl rfl ?_
  obtain ⟨q6, e_q6, h⟩ := bnd h
  refine v_getf C (ci := 5) (k := 0) rfl inX6_open_X6 (by decide) fX6_open_10 dX6_open_21 (gfR_e e_q6) ?_
  obtain ⟨q7, e_q7, h⟩ := bnd h
  refine v_getf C (ci := 3) (k := 5) rfl inX6_open_X4 (by decide) fX6_open_206 dX6_open_24 (gfR_e e_q7) ?_
  refine v_iload_n C 1 dX6_open_27 rfl rfl ?_
  refine v_iload_n C 2 dX6_open_28 rfl rfl ?_
  refine v_at (pc' := 29) rfl ?_
  obtain ⟨w8, e_w8, h⟩ := bnd h
  refine v_iast C dX6_open_29 e_w8 ?_
  refine v_aload_n C 0 dX6_open_30 rfl rfl ?_
  obtain ⟨q9, e_q9, h⟩ := bnd h
  refine v_getf C (ci := 5) (k := 0) rfl inX6_open_X6 (by decide) fX6_open_10 dX6_open_31 (gfR_e e_q9) ?_
  obtain ⟨q10, e_q10, h⟩ := bnd h
  refine v_getf C (ci := 3) (k := 6) rfl inX6_open_X4 (by decide) fX6_open_209 dX6_open_34 (gfR_e e_q10) ?_
  refine v_iload_n C 1 dX6_open_37 rfl rfl ?_
  refine v_iload_n C 3 dX6_open_38 rfl rfl ?_
  obtain ⟨w11, e_w11, h⟩ := bnd h
  refine v_iast C dX6_open_39 e_w11 ?_
  refine v_aload_n C 0 dX6_open_40 rfl rfl ?_
  refine v_at (pc' := 41) rfl ?_
  obtain ⟨q12, e_q12, h⟩ := bnd h
  refine v_getf C (ci := 5) (k := 0) rfl inX6_open_X6 (by decide) fX6_open_10 dX6_open_41 (gfR_e e_q12) ?_
  obtain ⟨q13, e_q13, h⟩ := bnd h
  refine v_getf C (ci := 3) (k := 7) rfl inX6_open_X4 (by decide) fX6_open_212 dX6_open_44 (gfR_e e_q13) ?_
  refine v_iload_n C 1 dX6_open_47 rfl rfl ?_
  refine v_iconst C (v := (-1)) dX6_open_48 (by decide) ?_
  obtain ⟨w14, e_w14, h⟩ := bnd h
  refine v_iast C dX6_open_49 e_w14 ?_
  refine v_aload_n C 0 dX6_open_50 rfl rfl ?_
  obtain ⟨q15, e_q15, h⟩ := bnd h
  refine v_getf C (ci := 5) (k := 0) rfl inX6_open_X6 (by decide) fX6_open_10 dX6_open_51 (gfR_e e_q15) ?_
  obtain ⟨u16, e_u16, h⟩ := bnd h
  obtain ⟨x17, e_x17, h⟩ := bnd h
  refine v_callVi C (ci := 3) (av := []) (rest := []) rfl gX6_open_X4_count rfl ⟨rfl, rfl⟩ hV_X4_count ⟨(Nat.le_of_ble_eq_true rfl), (Nat.le_of_ble_eq_true rfl)⟩ e_u16 (r_X4_count (A := A) e_x17) rfl rfl (Nat.le_of_ble_eq_true rfl) dX6_open_54 ?_
  refine v_at (pc' := 57) rfl ?_
  obtain rfl := Option.some.inj h
  exact v_iret C dX6_open_57
theorem fX6_next_19 : Cond.fieldLink RX6 19 (TX6 1).1 (TX6 1).2.1 (TX6 1).2.2.1 ∈ wsX6_next := by decide +kernel
theorem inX6_next_X6 : ∀ x ∈ u_ws RX6 TX6 5, x ∈ wsX6_next := by decide +kernel
theorem fX6_next_10 : Cond.fieldLink RX6 10 (TX6 0).1 (TX6 0).2.1 (TX6 0).2.2.1 ∈ wsX6_next := by decide +kernel
theorem fX6_next_212 : Cond.fieldLink RX6 212 (TX4 7).1 (TX4 7).2.1 (TX4 7).2.2.1 ∈ wsX6_next := by decide +kernel
theorem inX6_next_X4 : ∀ x ∈ u_ws RX4 TX4 9, x ∈ wsX6_next := by decide +kernel
theorem fX6_next_206 : Cond.fieldLink RX6 206 (TX4 5).1 (TX4 5).2.1 (TX4 5).2.2.1 ∈ wsX6_next := by decide +kernel
theorem fX6_next_209 : Cond.fieldLink RX6 209 (TX4 6).1 (TX4 6).2.1 (TX4 6).2.2.1 ∈ wsX6_next := by decide +kernel
theorem hV_X4_pairAfter : yX4_pairAfter.cls = RX4 ∧ yX4_pairAfter.cls ≠ "java/lang/invoke/MethodHandle" ∧ yX4_pairAfter.cls ≠ "java/lang/invoke/VarHandle" ∧ (parseMethodDescriptor yX4_pairAfter.desc).map (fun d => d.parameters.length) = some 3 := by decide +kernel
set_option maxRecDepth 100000 in
set_option maxHeartbeats 4000000 in
theorem r_X6_next {l : Launch} {G : GG} {A : Nat → Prop} {n : Nat} {w : Wd} {this : Nat} {a1 : Int32} {z : (Int32 × Wd)} (h : m_X6_next n w this a1 = some z) : Con l yX6_next wsX6_next { frames := 3, cells := 0, slots := 0, locals := 72 } G A [.ref this, .int a1] w (some (.int z.1)) z.2 := by
  refine Con.of (own := RX6) (cc := cX6_next) (maxL := 3) (ret := (some .int)) rfl (by decide) rfl (Nat.le_of_ble_eq_true rfl) ?_
  intro p e s m args below meth c C
  show V p l e { frames := 3, cells := 0, slots := 0, locals := 72 } s m args below meth c G A 3 0 [(0, .ref this), (1, .int a1)] [] w (some (.int z.1)) z.2
  unfold m_X6_next at h
  refine v_iload_n C 1 dX6_next_0 rfl rfl ?_
  refine v_iconst C (v := 0) dX6_next_1 (by decide) ?_
  refine v_iconst C (v := 3) dX6_next_2 (by decide) ?_
  refine v_callSi C (av := [.int a1, .int 0, .int 3]) (rest := []) gX6_next_X6_inside rfl ⟨rfl, rfl⟩ hS_X6_inside ⟨(Nat.le_of_ble_eq_true rfl), (Nat.le_of_ble_eq_true rfl)⟩ (r_X6_inside (A := A) rfl) rfl rfl (Nat.le_of_ble_eq_true rfl) dX6_next_3 ?_
  refine v_if_eq C (tgt := 13) dX6_next_6 (by decide) (fun q => ?_) (fun q => ?_)
  · have h := ite_t q h
    refine v_iconst C (v := 1) dX6_next_13 (by decide) ?_
    obtain ⟨z1, e_z1, h⟩ := bnd h
    refine v_callSv C (av := [.int 1]) (rest := []) gX6_next_X6_throwIf rfl ⟨rfl, rfl⟩ hS_X6_throwIf ⟨(Nat.le_of_ble_eq_true rfl), (Nat.le_of_ble_eq_true rfl)⟩ (r_X6_throwIf (A := A) e_z1) rfl rfl (Nat.le_of_ble_eq_true rfl) dX6_next_14 ?_
    refine v_aload_n C 0 dX6_next_17 rfl rfl ?_
    obtain ⟨q2, e_q2, h⟩ := bnd h
    refine v_getf C (ci := 5) (k := 1) rfl inX6_next_X6 (by decide) fX6_next_19 dX6_next_18 (gfR_e e_q2) ?_
    refine v_aload_n C 0 dX6_next_21 rfl rfl ?_
    obtain ⟨q3, e_q3, h⟩ := bnd h
    refine v_getf C (ci := 5) (k := 0) rfl inX6_next_X6 (by decide) fX6_next_10 dX6_next_22 (gfR_e e_q3) ?_
    obtain ⟨u4, e_u4, h⟩ := bnd h
    obtain ⟨z5, e_z5, h⟩ := bnd h
    refine v_callVv C (ci := 4) (av := [.ref q3]) (rest := []) rfl gX6_next_X5_push rfl ⟨rfl, rfl⟩ hV_X5_push ⟨(Nat.le_of_ble_eq_true rfl), (Nat.le_of_ble_eq_true rfl)⟩ e_u4 (r_X5_push (A := A) e_z5) rfl rfl (Nat.le_of_ble_eq_true rfl) dX6_next_25 ?_
    refine v_at (pc' := 28) rfl ?_
    refine v_aload_n C 0 dX6_next_28 rfl rfl ?_
    obtain ⟨q6, e_q6, h⟩ := bnd h
    refine v_getf C (ci := 5) (k := 0) rfl inX6_next_X6 (by decide) fX6_next_10 dX6_next_29 (gfR_e e_q6) ?_
    refine v_aload_n C 0 dX6_next_32 rfl rfl ?_
    obtain ⟨q7, e_q7, h⟩ := bnd h
    refine v_getf C (ci := 5) (k := 0) rfl inX6_next_X6 (by decide) fX6_next_10 dX6_next_33 (gfR_e e_q7) ?_
    obtain ⟨q8, e_q8, h⟩ := bnd h
    refine v_getf C (ci := 3) (k := 7) rfl inX6_next_X4 (by decide) fX6_next_212 dX6_next_36 (gfR_e e_q8) ?_
    refine v_iload_n C 1 dX6_next_39 rfl rfl ?_
    obtain ⟨x9, e_x9, h⟩ := bnd h
    refine v_iald C dX6_next_40 e_x9 ?_
    refine v_aload_n C 0 dX6_next_41 rfl rfl ?_
    refine v_at (pc' := 42) rfl ?_
    obtain ⟨q10, e_q10, h⟩ := bnd h
    refine v_getf C (ci := 5) (k := 0) rfl inX6_next_X6 (by decide) fX6_next_10 dX6_next_42 (gfR_e e_q10) ?_
    obtain ⟨q11, e_q11, h⟩ := bnd h
    refine v_getf C (ci := 3) (k := 5) rfl inX6_next_X4 (by decide) fX6_next_206 dX6_next_45 (gfR_e e_q11) ?_
    refine v_iload_n C 1 dX6_next_48 rfl rfl ?_
    obtain ⟨x12, e_x12, h⟩ := bnd h
    refine v_iald C dX6_next_49 e_x12 ?_
    refine v_aload_n C 0 dX6_next_50 rfl rfl ?_
    obtain ⟨q13, e_q13, h⟩ := bnd h
    refine v_getf C (ci := 5) (k := 0) rfl inX6_next_X6 (by decide) fX6_next_10 dX6_next_51 (gfR_e e_q13) ?_
    obtain ⟨q14, e_q14, h⟩ := bnd h
    refine v_getf C (ci := 3) (k := 6) rfl inX6_next_X4 (by decide) fX6_next_209 dX6_next_54 (gfR_e e_q14) ?_
    refine v_iload_n C 1 dX6_next_57 rfl rfl ?_
    refine v_at (pc' := 58) rfl ?_
    obtain ⟨x15, e_x15, h⟩ := bnd h
    refine v_iald C dX6_next_58 e_x15 ?_
    obtain ⟨u16, e_u16, h⟩ := bnd h
    obtain ⟨x17, e_x17, h⟩ := bnd h
    refine v_callVi C (ci := 3) (av := [.int x9, .int x12, .int x15]) (rest := []) rfl gX6_next_X4_pairAfter rfl ⟨rfl, rfl⟩ hV_X4_pairAfter ⟨(Nat.le_of_ble_eq_true rfl), (Nat.le_of_ble_eq_true rfl)⟩ e_u16 (r_X4_pairAfter (A := A) e_x17) rfl rfl (Nat.le_of_ble_eq_true rfl) dX6_next_59 ?_
    refine v_istore_n C (lv' := [(2, .int x17), (0, .ref this), (1, .int a1)]) dX6_next_62 rfl (by decide) rfl ?_
    refine v_iload_n C 0 dX6_next_63 rfl rfl ?_
    refine v_iconst C (v := (-1)) dX6_next_64 (by decide) ?_
    refine v_icmp_ne C (tgt := 70) dX6_next_65 (by decide) (fun q => ?_) (fun q => ?_)
    · have h := ite_f q h
      refine v_aload_n C 1 dX6_next_70 rfl rfl ?_
      obtain ⟨q18, e_q18, h⟩ := bnd h
      refine v_getf C (ci := 5) (k := 0) rfl inX6_next_X6 (by decide) fX6_next_10 dX6_next_71 (gfR_e e_q18) ?_
      obtain ⟨q19, e_q19, h⟩ := bnd h
      refine v_getf C (ci := 3) (k := 7) rfl inX6_next_X4 (by decide) fX6_next_212 dX6_next_74 (gfR_e e_q19) ?_
      refine v_iload_n C 2 dX6_next_77 rfl rfl ?_
      refine v_iload_n C 0 dX6_next_78 rfl rfl ?_
      obtain ⟨w20, e_w20, h⟩ := bnd h
      refine v_iast C dX6_next_79 e_w20 ?_
      refine v_iload_n C 0 dX6_next_80 rfl rfl ?_
      refine v_at (pc' := 81) rfl ?_
      refine v_bipush C (v := 32) dX6_next_81 (by decide) ?_
      refine v_irem C dX6_next_83 (by decide) ?_
      obtain rfl := Option.some.inj h
      exact v_iret C dX6_next_84
    · have h := ite_t q h
      refine v_iconst C (v := (-1)) dX6_next_68 (by decide) ?_
      obtain rfl := Option.some.inj h
      exact v_iret C dX6_next_69
  · have h := ite_f q h
    refine v_iconst C (v := 0) dX6_next_9 (by decide) ?_
    refine v_goto C (tgt := 14) dX6_next_10 (by decide) ?_
    obtain ⟨z21, e_z21, h⟩ := bnd h
    refine v_callSv C (av := [.int 0]) (rest := []) gX6_next_X6_throwIf rfl ⟨rfl, rfl⟩ hS_X6_throwIf ⟨(Nat.le_of_ble_eq_true rfl), (Nat.le_of_ble_eq_true rfl)⟩ (r_X6_throwIf (A := A) e_z21) rfl rfl (Nat.le_of_ble_eq_true rfl) dX6_next_14 ?_
    refine v_aload_n C 0 dX6_next_17 rfl rfl ?_
    obtain ⟨q22, e_q22, h⟩ := bnd h
    refine v_getf C (ci := 5) (k := 1) rfl inX6_next_X6 (by decide) fX6_next_19 dX6_next_18 (gfR_e e_q22) ?_
    refine v_aload_n C 0 dX6_next_21 rfl rfl ?_
    obtain ⟨q23, e_q23, h⟩ := bnd h
    refine v_getf C (ci := 5) (k := 0) rfl inX6_next_X6 (by decide) fX6_next_10 dX6_next_22 (gfR_e e_q23) ?_
    refine v_at (pc' := 25) rfl ?_
    obtain ⟨u24, e_u24, h⟩ := bnd h
    obtain ⟨z25, e_z25, h⟩ := bnd h
    refine v_callVv C (ci := 4) (av := [.ref q23]) (rest := []) rfl gX6_next_X5_push rfl ⟨rfl, rfl⟩ hV_X5_push ⟨(Nat.le_of_ble_eq_true rfl), (Nat.le_of_ble_eq_true rfl)⟩ e_u24 (r_X5_push (A := A) e_z25) rfl rfl (Nat.le_of_ble_eq_true rfl) dX6_next_25 ?_
    refine v_aload_n C 0 dX6_next_28 rfl rfl ?_
    obtain ⟨q26, e_q26, h⟩ := bnd h
    refine v_getf C (ci := 5) (k := 0) rfl inX6_next_X6 (by decide) fX6_next_10 dX6_next_29 (gfR_e e_q26) ?_
    refine v_aload_n C 0 dX6_next_32 rfl rfl ?_
    obtain ⟨q27, e_q27, h⟩ := bnd h
    refine v_getf C (ci := 5) (k := 0) rfl inX6_next_X6 (by decide) fX6_next_10 dX6_next_33 (gfR_e e_q27) ?_
    obtain ⟨q28, e_q28, h⟩ := bnd h
    refine v_getf C (ci := 3) (k := 7) rfl inX6_next_X4 (by decide) fX6_next_212 dX6_next_36 (gfR_e e_q28) ?_
    refine v_iload_n C 1 dX6_next_39 rfl rfl ?_
    obtain ⟨x29, e_x29, h⟩ := bnd h
    refine v_iald C dX6_next_40 e_x29 ?_
    refine v_at (pc' := 41) rfl ?_
    refine v_aload_n C 0 dX6_next_41 rfl rfl ?_
    obtain ⟨q30, e_q30, h⟩ := bnd h
    refine v_getf C (ci := 5) (k := 0) rfl inX6_next_X6 (by decide) fX6_next_10 dX6_next_42 (gfR_e e_q30) ?_
    obtain ⟨q31, e_q31, h⟩ := bnd h
    refine v_getf C (ci := 3) (k := 5) rfl inX6_next_X4 (by decide) fX6_next_206 dX6_next_45 (gfR_e e_q31) ?_
    refine v_iload_n C 1 dX6_next_48 rfl rfl ?_
    obtain ⟨x32, e_x32, h⟩ := bnd h
    refine v_iald C dX6_next_49 e_x32 ?_
    refine v_aload_n C 0 dX6_next_50 rfl rfl ?_
    obtain ⟨q33, e_q33, h⟩ := bnd h
    refine v_getf C (ci := 5) (k := 0) rfl inX6_next_X6 (by decide) fX6_next_10 dX6_next_51 (gfR_e e_q33) ?_
    obtain ⟨q34, e_q34, h⟩ := bnd h
    refine v_getf C (ci := 3) (k := 6) rfl inX6_next_X4 (by decide) fX6_next_209 dX6_next_54 (gfR_e e_q34) ?_
    refine v_at (pc' := 57) rfl ?_
    refine v_iload_n C 1 dX6_next_57 rfl rfl ?_
    obtain ⟨x35, e_x35, h⟩ := bnd h
    refine v_iald C dX6_next_58 e_x35 ?_
    obtain ⟨u36, e_u36, h⟩ := bnd h
    obtain ⟨x37, e_x37, h⟩ := bnd h
    refine v_callVi C (ci := 3) (av := [.int x29, .int x32, .int x35]) (rest := []) rfl gX6_next_X4_pairAfter rfl ⟨rfl, rfl⟩ hV_X4_pairAfter ⟨(Nat.le_of_ble_eq_true rfl), (Nat.le_of_ble_eq_true rfl)⟩ e_u36 (r_X4_pairAfter (A := A) e_x37) rfl rfl (Nat.le_of_ble_eq_true rfl) dX6_next_59 ?_
    refine v_istore_n C (lv' := [(2, .int x37), (0, .ref this), (1, .int a1)]) dX6_next_62 rfl (by decide) rfl ?_
    refine v_iload_n C 0 dX6_next_63 rfl rfl ?_
    refine v_iconst C (v := (-1)) dX6_next_64 (by decide) ?_
    refine v_icmp_ne C (tgt := 70) dX6_next_65 (by decide) (fun q => ?_) (fun q => ?_)
    · have h := ite_f q h
      refine v_aload_n C 1 dX6_next_70 rfl rfl ?_
      obtain ⟨q38, e_q38, h⟩ := bnd h
      refine v_getf C (ci := 5) (k := 0) rfl inX6_next_X6 (by decide) fX6_next_10 dX6_next_71 (gfR_e e_q38) ?_
      obtain ⟨q39, e_q39, h⟩ := bnd h
      refine v_getf C (ci := 3) (k := 7) rfl inX6_next_X4 (by decide) fX6_next_212 dX6_next_74 (gfR_e e_q39) ?_
      refine v_iload_n C 2 dX6_next_77 rfl rfl ?_
      refine v_iload_n C 0 dX6_next_78 rfl rfl ?_
      obtain ⟨w40, e_w40, h⟩ := bnd h
      refine v_iast C dX6_next_79 e_w40 ?_
      refine v_iload_n C 0 dX6_next_80 rfl rfl ?_
      refine v_at (pc' := 81) rfl ?_
      refine v_bipush C (v := 32) dX6_next_81 (by decide) ?_
      refine v_irem C dX6_next_83 (by decide) ?_
      obtain rfl := Option.some.inj h
      exact v_iret C dX6_next_84
    · have h := ite_t q h
      refine v_iconst C (v := (-1)) dX6_next_68 (by decide) ?_
      obtain rfl := Option.some.inj h
      exact v_iret C dX6_next_69
theorem fX6_cursor_10 : Cond.fieldLink RX6 10 (TX6 0).1 (TX6 0).2.1 (TX6 0).2.2.1 ∈ wsX6_cursor := by decide +kernel
theorem inX6_cursor_X6 : ∀ x ∈ u_ws RX6 TX6 5, x ∈ wsX6_cursor := by decide +kernel
theorem fX6_cursor_206 : Cond.fieldLink RX6 206 (TX4 5).1 (TX4 5).2.1 (TX4 5).2.2.1 ∈ wsX6_cursor := by decide +kernel
theorem inX6_cursor_X4 : ∀ x ∈ u_ws RX4 TX4 9, x ∈ wsX6_cursor := by decide +kernel
theorem fX6_cursor_209 : Cond.fieldLink RX6 209 (TX4 6).1 (TX4 6).2.1 (TX4 6).2.2.1 ∈ wsX6_cursor := by decide +kernel
theorem fX6_cursor_212 : Cond.fieldLink RX6 212 (TX4 7).1 (TX4 7).2.1 (TX4 7).2.2.1 ∈ wsX6_cursor := by decide +kernel
theorem hV_X4_pairsAfter : yX4_pairsAfter.cls = RX4 ∧ yX4_pairsAfter.cls ≠ "java/lang/invoke/MethodHandle" ∧ yX4_pairsAfter.cls ≠ "java/lang/invoke/VarHandle" ∧ (parseMethodDescriptor yX4_pairsAfter.desc).map (fun d => d.parameters.length) = some 3 := by decide +kernel
theorem fX6_cursor_33 : Cond.fieldLink RX6 33 (TX6 3).1 (TX6 3).2.1 (TX6 3).2.2.1 ∈ wsX6_cursor := by decide +kernel
theorem fX6_cursor_126 : Cond.fieldLink RX6 126 (TX0 0).1 (TX0 0).2.1 (TX0 0).2.2.1 ∈ wsX6_cursor := by decide +kernel
theorem inX6_cursor_X0 : ∀ x ∈ u_ws RX0 TX0 2, x ∈ wsX6_cursor := by decide +kernel
theorem hV_X1_nodesWithin : yX1_nodesWithin.cls = RX1 ∧ yX1_nodesWithin.cls ≠ "java/lang/invoke/MethodHandle" ∧ yX1_nodesWithin.cls ≠ "java/lang/invoke/VarHandle" ∧ (parseMethodDescriptor yX1_nodesWithin.desc).map (fun d => d.parameters.length) = some 3 := by decide +kernel
set_option maxRecDepth 100000 in
set_option maxHeartbeats 4000000 in
theorem r_X6_cursor {l : Launch} {G : GG} {A : Nat → Prop} {n : Nat} {w : Wd} {this : Nat} {a1 : Int32} {a2 : Int32} {z : Int32} (h : m_X6_cursor n w this a1 a2 = some z) : Con l yX6_cursor wsX6_cursor { frames := 4, cells := 0, slots := 0, locals := 93 } G A [.ref this, .int a1, .int a2] w (some (.int z)) w := by
  refine Con.of (own := RX6) (cc := cX6_cursor) (maxL := 6) (ret := (some .int)) rfl (by decide) rfl (Nat.le_of_ble_eq_true rfl) ?_
  intro p e s m args below meth c C
  show V p l e { frames := 4, cells := 0, slots := 0, locals := 93 } s m args below meth c G A 6 0 [(0, .ref this), (1, .int a1), (2, .int a2)] [] w (some (.int z)) w
  unfold m_X6_cursor at h
  refine v_iload_n C 1 dX6_cursor_0 rfl rfl ?_
  refine v_iconst C (v := 4) dX6_cursor_1 (by decide) ?_
  refine v_iload_n C 2 dX6_cursor_2 rfl rfl ?_
  refine v_iconst C (v := 5) dX6_cursor_3 (by decide) ?_
  refine v_callSi C (av := [.int a1, .int 4, .int a2, .int 5]) (rest := []) gX6_cursor_X6_refusalOfValue rfl ⟨rfl, rfl⟩ hS_X6_refusalOfValue ⟨(Nat.le_of_ble_eq_true rfl), (Nat.le_of_ble_eq_true rfl)⟩ (r_X6_refusalOfValue (A := A) rfl) rfl rfl (Nat.le_of_ble_eq_true rfl) dX6_cursor_4 ?_
  obtain ⟨z1, e_z1, h⟩ := bnd h
  refine v_callSv C (av := [.int (m_X6_refusalOfValue a1 4 a2 5)]) (rest := []) gX6_cursor_X6_throwIf rfl ⟨rfl, rfl⟩ hS_X6_throwIf ⟨(Nat.le_of_ble_eq_true rfl), (Nat.le_of_ble_eq_true rfl)⟩ (r_X6_throwIf (A := A) e_z1) rfl rfl (Nat.le_of_ble_eq_true rfl) dX6_cursor_7 ?_
  refine v_aload_n C 0 dX6_cursor_10 rfl rfl ?_
  refine v_at (pc' := 11) rfl ?_
  obtain ⟨q2, e_q2, h⟩ := bnd h
  refine v_getf C (ci := 5) (k := 0) rfl inX6_cursor_X6 (by decide) fX6_cursor_10 dX6_cursor_11 (gfR_e e_q2) ?_
  obtain ⟨q3, e_q3, h⟩ := bnd h
  refine v_getf C (ci := 3) (k := 5) rfl inX6_cursor_X4 (by decide) fX6_cursor_206 dX6_cursor_14 (gfR_e e_q3) ?_
  refine v_iload_n C 1 dX6_cursor_17 rfl rfl ?_
  obtain ⟨x4, e_x4, h⟩ := bnd h
  refine v_iald C dX6_cursor_18 e_x4 ?_
  refine v_istore_n C (lv' := [(3, .int x4), (0, .ref this), (1, .int a1), (2, .int a2)]) dX6_cursor_19 rfl (by decide) rfl ?_
  refine v_aload_n C 1 dX6_cursor_20 rfl rfl ?_
  obtain ⟨q5, e_q5, h⟩ := bnd h
  refine v_getf C (ci := 5) (k := 0) rfl inX6_cursor_X6 (by decide) fX6_cursor_10 dX6_cursor_21 (gfR_e e_q5) ?_
  obtain ⟨q6, e_q6, h⟩ := bnd h
  refine v_getf C (ci := 3) (k := 6) rfl inX6_cursor_X4 (by decide) fX6_cursor_209 dX6_cursor_24 (gfR_e e_q6) ?_
  refine v_at (pc' := 27) rfl ?_
  refine v_iload_n C 2 dX6_cursor_27 rfl rfl ?_
  obtain ⟨x7, e_x7, h⟩ := bnd h
  refine v_iald C dX6_cursor_28 e_x7 ?_
  refine v_istore C (lv' := [(4, .int x7), (3, .int x4), (0, .ref this), (1, .int a1), (2, .int a2)]) dX6_cursor_29 (by decide) rfl ?_
  refine v_aload_n C 2 dX6_cursor_31 rfl rfl ?_
  obtain ⟨q8, e_q8, h⟩ := bnd h
  refine v_getf C (ci := 5) (k := 0) rfl inX6_cursor_X6 (by decide) fX6_cursor_10 dX6_cursor_32 (gfR_e e_q8) ?_
  obtain ⟨q9, e_q9, h⟩ := bnd h
  refine v_getf C (ci := 3) (k := 7) rfl inX6_cursor_X4 (by decide) fX6_cursor_212 dX6_cursor_35 (gfR_e e_q9) ?_
  refine v_iload_n C 3 dX6_cursor_38 rfl rfl ?_
  obtain ⟨x10, e_x10, h⟩ := bnd h
  refine v_iald C dX6_cursor_39 e_x10 ?_
  refine v_at (pc' := 40) rfl ?_
  refine v_istore C (lv' := [(5, .int x10), (4, .int x7), (3, .int x4), (0, .ref this), (1, .int a1), (2, .int a2)]) dX6_cursor_40 (by decide) rfl ?_
  refine v_iload_n C 5 dX6_cursor_42 rfl rfl ?_
  by_cases q11 : a2 = 0
  · have h := ite_t q11 h
    refine v_tabIn C 0 33 76 dX6_cursor_43 q11 (by decide) (by decide) rfl (by decide) ?_
    refine v_iload_n C 2 dX6_cursor_76 rfl rfl ?_
    obtain rfl := Option.some.inj h
    exact v_iret C dX6_cursor_77
  have h := ite_f q11 h
  by_cases q12 : a2 = 1
  · have h := ite_t q12 h
    refine v_tabIn C 1 35 78 dX6_cursor_43 q12 (by decide) (by decide) rfl (by decide) ?_
    refine v_iload C 1 dX6_cursor_78 rfl ?_
    obtain rfl := Option.some.inj h
    exact v_iret C dX6_cursor_80
  have h := ite_f q12 h
  by_cases q13 : a2 = 2
  · have h := ite_t q13 h
    refine v_tabIn C 2 38 81 dX6_cursor_43 q13 (by decide) (by decide) rfl (by decide) ?_
    refine v_iload C 0 dX6_cursor_81 rfl ?_
    refine v_iconst C (v := (-1)) dX6_cursor_83 (by decide) ?_
    refine v_icmp_ne C (tgt := 91) dX6_cursor_84 (by decide) (fun q => ?_) (fun q => ?_)
    · have h := ite_f q h
      refine v_iload C 0 dX6_cursor_91 rfl ?_
      refine v_bipush C (v := 32) dX6_cursor_93 (by decide) ?_
      refine v_idiv C dX6_cursor_95 (by decide) ?_
      obtain rfl := Option.some.inj h
      exact v_iret C dX6_cursor_96
    · have h := ite_t q h
      refine v_iconst C (v := (-1)) dX6_cursor_87 (by decide) ?_
      refine v_goto C (tgt := 96) dX6_cursor_88 (by decide) ?_
      obtain rfl := Option.some.inj h
      exact v_iret C dX6_cursor_96
  have h := ite_f q13 h
  by_cases q14 : a2 = 3
  · have h := ite_t q14 h
    refine v_tabIn C 3 54 97 dX6_cursor_43 q14 (by decide) (by decide) rfl (by decide) ?_
    refine v_iload C 0 dX6_cursor_97 rfl ?_
    refine v_iconst C (v := (-1)) dX6_cursor_99 (by decide) ?_
    refine v_icmp_ne C (tgt := 107) dX6_cursor_100 (by decide) (fun q => ?_) (fun q => ?_)
    · have h := ite_f q h
      refine v_iload C 0 dX6_cursor_107 rfl ?_
      refine v_bipush C (v := 32) dX6_cursor_109 (by decide) ?_
      refine v_irem C dX6_cursor_111 (by decide) ?_
      obtain rfl := Option.some.inj h
      exact v_iret C dX6_cursor_112
    · have h := ite_t q h
      refine v_iconst C (v := (-1)) dX6_cursor_103 (by decide) ?_
      refine v_goto C (tgt := 112) dX6_cursor_104 (by decide) ?_
      obtain rfl := Option.some.inj h
      exact v_iret C dX6_cursor_112
  have h := ite_f q14 h
  by_cases q15 : a2 = 4
  · have h := ite_t q15 h
    refine v_tabIn C 4 70 113 dX6_cursor_43 q15 (by decide) (by decide) rfl (by decide) ?_
    refine v_aload_n C 3 dX6_cursor_113 rfl rfl ?_
    obtain ⟨q16, e_q16, h⟩ := bnd h
    refine v_getf C (ci := 5) (k := 0) rfl inX6_cursor_X6 (by decide) fX6_cursor_10 dX6_cursor_114 (gfR_e e_q16) ?_
    refine v_iload C 0 dX6_cursor_117 rfl ?_
    refine v_iload_n C 2 dX6_cursor_119 rfl rfl ?_
    refine v_iload C 1 dX6_cursor_120 rfl ?_
    obtain ⟨u17, e_u17, h⟩ := bnd h
    obtain ⟨x18, e_x18, h⟩ := bnd h
    refine v_callVi C (ci := 3) (av := [.int x10, .int x4, .int x7]) (rest := []) rfl gX6_cursor_X4_pairsAfter rfl ⟨rfl, rfl⟩ hV_X4_pairsAfter ⟨(Nat.le_of_ble_eq_true rfl), (Nat.le_of_ble_eq_true rfl)⟩ e_u17 (r_X4_pairsAfter (A := A) e_x18) rfl rfl (Nat.le_of_ble_eq_true rfl) dX6_cursor_122 ?_
    obtain rfl := Option.some.inj h
    exact v_iret C dX6_cursor_125
  have h := ite_f q15 h
  have g_q11 := lv_neT q11 (a := 0) rfl
  have g_q12 := lv_neT q12 (a := 1) rfl
  have g_q13 := lv_neT q13 (a := 2) rfl
  have g_q14 := lv_neT q14 (a := 3) rfl
  have g_q15 := lv_neT q15 (a := 4) rfl
  refine v_tabOut C 126 dX6_cursor_43 (by omega) (by decide) ?_
  refine v_iload C 0 dX6_cursor_126 rfl ?_
  refine v_iconst C (v := (-1)) dX6_cursor_128 (by decide) ?_
  refine v_icmp_ne C (tgt := 136) dX6_cursor_129 (by decide) (fun q => ?_) (fun q => ?_)
  · have h := ite_f q h
    refine v_aload_n C 3 dX6_cursor_136 rfl rfl ?_
    obtain ⟨q19, e_q19, h⟩ := bnd h
    refine v_getf C (ci := 5) (k := 3) rfl inX6_cursor_X6 (by decide) fX6_cursor_33 dX6_cursor_137 (gfR_e e_q19) ?_
    obtain ⟨q20, e_q20, h⟩ := bnd h
    refine v_getf C (ci := 0) (k := 0) rfl inX6_cursor_X0 (by decide) fX6_cursor_126 dX6_cursor_140 (gfR_e e_q20) ?_
    refine v_iconst C (v := 0) dX6_cursor_143 (by decide) ?_
    obtain ⟨q21, e_q21, h⟩ := bnd h
    refine v_aald3 C dX6_cursor_144 e_q21 ?_
    refine v_iload C 0 dX6_cursor_145 rfl ?_
    refine v_bipush C (v := 32) dX6_cursor_147 (by decide) ?_
    refine v_at (pc' := 149) rfl ?_
    refine v_idiv C dX6_cursor_149 (by decide) ?_
    refine v_iload_n C 2 dX6_cursor_150 rfl rfl ?_
    refine v_iload C 1 dX6_cursor_151 rfl ?_
    obtain ⟨u22, e_u22, h⟩ := bnd h
    obtain ⟨x23, e_x23, h⟩ := bnd h
    refine v_callVi C (ci := 1) (av := [.int (x10 / 32), .int x4, .int x7]) (rest := []) rfl gX6_cursor_X1_nodesWithin rfl ⟨rfl, rfl⟩ hV_X1_nodesWithin ⟨(Nat.le_of_ble_eq_true rfl), (Nat.le_of_ble_eq_true rfl)⟩ e_u22 (r_X1_nodesWithin (A := A) e_x23) rfl rfl (Nat.le_of_ble_eq_true rfl) dX6_cursor_153 ?_
    obtain rfl := Option.some.inj h
    exact v_iret C dX6_cursor_156
  · have h := ite_t q h
    refine v_iconst C (v := 0) dX6_cursor_132 (by decide) ?_
    refine v_goto C (tgt := 156) dX6_cursor_133 (by decide) ?_
    obtain rfl := Option.some.inj h
    exact v_iret C dX6_cursor_156
theorem fX6_nearest_10 : Cond.fieldLink RX6 10 (TX6 0).1 (TX6 0).2.1 (TX6 0).2.2.1 ∈ wsX6_nearest := by decide +kernel
theorem inX6_nearest_X6 : ∀ x ∈ u_ws RX6 TX6 5, x ∈ wsX6_nearest := by decide +kernel
set_option maxRecDepth 100000 in
set_option maxHeartbeats 4000000 in
theorem r_X6_nearest_p48 {p : Program} {l : Launch} {e : Env} {s : State} {m : MethodId} {args : Array Value} {below : List Frame} {meth : Method} {c : Code} {G : GG} {A : Nat → Prop} (C : Cx p s m args meth c G A cX6_nearest 6 RX6 wsX6_nearest (some .int)) (n : Nat) {z : Int32} : ∀ (t : Nat), ∀ (w : Wd) (a0 : Nat) (a1 : Int32) (a2 : Int32) (a3 : Int32) (a4 : Int32) (a5 : Int32), m_X6_nearest_p48 n t w a0 a1 a2 a3 a4 a5 = some z → V p l e { frames := 3, cells := 0, slots := 0, locals := 72 } s m args below meth c G A 6 48 [(0, .ref a0), (1, .int a1), (2, .int a2), (3, .int a3), (4, .int a4), (5, .int a5)] [] w (some (.int z)) w := by
  intro t
  induction t with
  | zero =>
    intro w a0 a1 a2 a3 a4 a5 h
    rw [m_X6_nearest_p48] at h
    cases h
  | succ t ih =>
    intro w a0 a1 a2 a3 a4 a5 h
    rw [m_X6_nearest_p48] at h
    refine v_iload C 5 dX6_nearest_48 rfl ?_
    refine v_iload_n C 3 dX6_nearest_50 rfl rfl ?_
    refine v_icmp_ge C (tgt := 73) dX6_nearest_51 (by decide) (fun q => ?_) (fun q => ?_)
    · have h := ite_t q h
      refine v_iload C 4 dX6_nearest_73 rfl ?_
      refine v_bipush C (v := 32) dX6_nearest_75 (by decide) ?_
      refine v_irem C dX6_nearest_77 (by decide) ?_
      obtain rfl := Option.some.inj h
      exact v_iret C dX6_nearest_78
    · have h := ite_f q h
      refine v_aload_n C 0 dX6_nearest_54 rfl rfl ?_
      obtain ⟨q1, e_q1, h⟩ := bnd h
      refine v_getf C (ci := 5) (k := 0) rfl inX6_nearest_X6 (by decide) fX6_nearest_10 dX6_nearest_55 (gfR_e e_q1) ?_
      refine v_iload C 4 dX6_nearest_58 rfl ?_
      refine v_iload_n C 1 dX6_nearest_60 rfl rfl ?_
      refine v_iload_n C 2 dX6_nearest_61 rfl rfl ?_
      obtain ⟨u2, e_u2, h⟩ := bnd h
      obtain ⟨x3, e_x3, h⟩ := bnd h
      refine v_callVi C (ci := 3) (av := [.int a4, .int a1, .int a2]) (rest := []) rfl gX6_nearest_X4_pairAfter rfl ⟨rfl, rfl⟩ hV_X4_pairAfter ⟨(Nat.le_of_ble_eq_true rfl), (Nat.le_of_ble_eq_true rfl)⟩ e_u2 (r_X4_pairAfter (A := A) e_x3) rfl rfl (Nat.le_of_ble_eq_true rfl) dX6_nearest_62 ?_
      refine v_istore C (lv' := [(4, .int x3), (0, .ref a0), (1, .int a1), (2, .int a2), (3, .int a3), (5, .int a5)]) dX6_nearest_65 (by decide) rfl ?_
      refine v_at (pc' := 67) rfl ?_
      refine v_iinc C (k := 5) (v := (a5 + 1)) (lv' := [(5, .int (a5 + 1)), (4, .int x3), (0, .ref a0), (1, .int a1), (2, .int a2), (3, .int a3)]) dX6_nearest_67 rfl rfl (by decide) rfl ?_
      refine v_goto C (tgt := 48) dX6_nearest_70 (by decide) ?_
      refine v_sub [2, 3, 4, 5, 1, 0] rfl ?_
      exact ih _ _ _ _ _ _ _ h
set_option maxRecDepth 100000 in
set_option maxHeartbeats 4000000 in
theorem r_X6_nearest {l : Launch} {G : GG} {A : Nat → Prop} {n : Nat} {w : Wd} {this : Nat} {a1 : Int32} {a2 : Int32} {a3 : Int32} {z : Int32} (h : m_X6_nearest n w this a1 a2 a3 = some z) : Con l yX6_nearest wsX6_nearest { frames := 3, cells := 0, slots := 0, locals := 72 } G A [.ref this, .int a1, .int a2, .int a3] w (some (.int z)) w := by
  refine Con.of (own := RX6) (cc := cX6_nearest) (maxL := 6) (ret := (some .int)) rfl (by decide) rfl (Nat.le_of_ble_eq_true rfl) ?_
  intro p e s m args below meth c C
  show V p l e { frames := 3, cells := 0, slots := 0, locals := 72 } s m args below meth c G A 6 0 [(0, .ref this), (1, .int a1), (2, .int a2), (3, .int a3)] [] w (some (.int z)) w
  unfold m_X6_nearest at h
  refine v_iload_n C 1 dX6_nearest_0 rfl rfl ?_
  refine v_iload_n C 2 dX6_nearest_1 rfl rfl ?_
  refine v_callSi C (av := [.int a1, .int a2]) (rest := []) gX6_nearest_X6_isPosition rfl ⟨rfl, rfl⟩ hS_X6_isPosition ⟨(Nat.le_of_ble_eq_true rfl), (Nat.le_of_ble_eq_true rfl)⟩ (r_X6_isPosition (A := A) rfl) rfl rfl (Nat.le_of_ble_eq_true rfl) dX6_nearest_2 ?_
  refine v_if_eq C (tgt := 16) dX6_nearest_5 (by decide) (fun q => ?_) (fun q => ?_)
  · have h := ite_t q h
    refine v_iconst C (v := 2) dX6_nearest_16 (by decide) ?_
    obtain ⟨z1, e_z1, h⟩ := bnd h
    refine v_callSv C (av := [.int 2]) (rest := []) gX6_nearest_X6_throwIf rfl ⟨rfl, rfl⟩ hS_X6_throwIf ⟨(Nat.le_of_ble_eq_true rfl), (Nat.le_of_ble_eq_true rfl)⟩ (r_X6_throwIf (A := A) e_z1) rfl rfl (Nat.le_of_ble_eq_true rfl) dX6_nearest_17 ?_
    refine v_iload_n C 3 dX6_nearest_20 rfl rfl ?_
    refine v_aload_n C 0 dX6_nearest_21 rfl rfl ?_
    obtain ⟨q2, e_q2, h⟩ := bnd h
    refine v_getf C (ci := 5) (k := 0) rfl inX6_nearest_X6 (by decide) fX6_nearest_10 dX6_nearest_22 (gfR_e e_q2) ?_
    obtain ⟨u3, e_u3, h⟩ := bnd h
    obtain ⟨x4, e_x4, h⟩ := bnd h
    refine v_callVi C (ci := 3) (av := []) (rest := [.int a3]) rfl gX6_nearest_X4_count rfl ⟨rfl, rfl⟩ hV_X4_count ⟨(Nat.le_of_ble_eq_true rfl), (Nat.le_of_ble_eq_true rfl)⟩ e_u3 (r_X4_count (A := A) e_x4) rfl rfl (Nat.le_of_ble_eq_true rfl) dX6_nearest_25 ?_
    refine v_icmp_lt C (tgt := 33) dX6_nearest_28 (by decide) (fun q => ?_) (fun q => ?_)
    · have h := ite_t q h
      refine v_aload_n C 0 dX6_nearest_33 rfl rfl ?_
      obtain ⟨q5, e_q5, h⟩ := bnd h
      refine v_getf C (ci := 5) (k := 0) rfl inX6_nearest_X6 (by decide) fX6_nearest_10 dX6_nearest_34 (gfR_e e_q5) ?_
      refine v_iconst C (v := (-1)) dX6_nearest_37 (by decide) ?_
      refine v_iload_n C 1 dX6_nearest_38 rfl rfl ?_
      refine v_iload_n C 2 dX6_nearest_39 rfl rfl ?_
      obtain ⟨u6, e_u6, h⟩ := bnd h
      obtain ⟨x7, e_x7, h⟩ := bnd h
      refine v_callVi C (ci := 3) (av := [.int (-1), .int a1, .int a2]) (rest := []) rfl gX6_nearest_X4_pairAfter rfl ⟨rfl, rfl⟩ hV_X4_pairAfter ⟨(Nat.le_of_ble_eq_true rfl), (Nat.le_of_ble_eq_true rfl)⟩ e_u6 (r_X4_pairAfter (A := A) e_x7) rfl rfl (Nat.le_of_ble_eq_true rfl) dX6_nearest_40 ?_
      refine v_istore C (lv' := [(4, .int x7), (0, .ref this), (1, .int a1), (2, .int a2), (3, .int a3)]) dX6_nearest_43 (by decide) rfl ?_
      refine v_at (pc' := 45) rfl ?_
      refine v_iconst C (v := 0) dX6_nearest_45 (by decide) ?_
      refine v_istore C (lv' := [(5, .int 0), (4, .int x7), (0, .ref this), (1, .int a1), (2, .int a2), (3, .int a3)]) dX6_nearest_46 (by decide) rfl ?_
      refine v_sub [2, 3, 4, 5, 1, 0] rfl ?_
      exact r_X6_nearest_p48 C n n _ _ _ _ _ _ _ h
    · have h := ite_f q h
      refine v_iconst C (v := (-1)) dX6_nearest_31 (by decide) ?_
      obtain rfl := Option.some.inj h
      exact v_iret C dX6_nearest_32
  · have h := ite_f q h
    refine v_iload_n C 3 dX6_nearest_8 rfl rfl ?_
    refine v_if_lt C (tgt := 16) dX6_nearest_9 (by decide) (fun q => ?_) (fun q => ?_)
    · have h := ite_t q h
      refine v_iconst C (v := 2) dX6_nearest_16 (by decide) ?_
      obtain ⟨z8, e_z8, h⟩ := bnd h
      refine v_callSv C (av := [.int 2]) (rest := []) gX6_nearest_X6_throwIf rfl ⟨rfl, rfl⟩ hS_X6_throwIf ⟨(Nat.le_of_ble_eq_true rfl), (Nat.le_of_ble_eq_true rfl)⟩ (r_X6_throwIf (A := A) e_z8) rfl rfl (Nat.le_of_ble_eq_true rfl) dX6_nearest_17 ?_
      refine v_iload_n C 3 dX6_nearest_20 rfl rfl ?_
      refine v_aload_n C 0 dX6_nearest_21 rfl rfl ?_
      obtain ⟨q9, e_q9, h⟩ := bnd h
      refine v_getf C (ci := 5) (k := 0) rfl inX6_nearest_X6 (by decide) fX6_nearest_10 dX6_nearest_22 (gfR_e e_q9) ?_
      obtain ⟨u10, e_u10, h⟩ := bnd h
      obtain ⟨x11, e_x11, h⟩ := bnd h
      refine v_callVi C (ci := 3) (av := []) (rest := [.int a3]) rfl gX6_nearest_X4_count rfl ⟨rfl, rfl⟩ hV_X4_count ⟨(Nat.le_of_ble_eq_true rfl), (Nat.le_of_ble_eq_true rfl)⟩ e_u10 (r_X4_count (A := A) e_x11) rfl rfl (Nat.le_of_ble_eq_true rfl) dX6_nearest_25 ?_
      refine v_icmp_lt C (tgt := 33) dX6_nearest_28 (by decide) (fun q => ?_) (fun q => ?_)
      · have h := ite_t q h
        refine v_aload_n C 0 dX6_nearest_33 rfl rfl ?_
        obtain ⟨q12, e_q12, h⟩ := bnd h
        refine v_getf C (ci := 5) (k := 0) rfl inX6_nearest_X6 (by decide) fX6_nearest_10 dX6_nearest_34 (gfR_e e_q12) ?_
        refine v_iconst C (v := (-1)) dX6_nearest_37 (by decide) ?_
        refine v_iload_n C 1 dX6_nearest_38 rfl rfl ?_
        refine v_iload_n C 2 dX6_nearest_39 rfl rfl ?_
        obtain ⟨u13, e_u13, h⟩ := bnd h
        obtain ⟨x14, e_x14, h⟩ := bnd h
        refine v_callVi C (ci := 3) (av := [.int (-1), .int a1, .int a2]) (rest := []) rfl gX6_nearest_X4_pairAfter rfl ⟨rfl, rfl⟩ hV_X4_pairAfter ⟨(Nat.le_of_ble_eq_true rfl), (Nat.le_of_ble_eq_true rfl)⟩ e_u13 (r_X4_pairAfter (A := A) e_x14) rfl rfl (Nat.le_of_ble_eq_true rfl) dX6_nearest_40 ?_
        refine v_istore C (lv' := [(4, .int x14), (0, .ref this), (1, .int a1), (2, .int a2), (3, .int a3)]) dX6_nearest_43 (by decide) rfl ?_
        refine v_at (pc' := 45) rfl ?_
        refine v_iconst C (v := 0) dX6_nearest_45 (by decide) ?_
        refine v_istore C (lv' := [(5, .int 0), (4, .int x14), (0, .ref this), (1, .int a1), (2, .int a2), (3, .int a3)]) dX6_nearest_46 (by decide) rfl ?_
        refine v_sub [2, 3, 4, 5, 1, 0] rfl ?_
        exact r_X6_nearest_p48 C n n _ _ _ _ _ _ _ h
      · have h := ite_f q h
        refine v_iconst C (v := (-1)) dX6_nearest_31 (by decide) ?_
        obtain rfl := Option.some.inj h
        exact v_iret C dX6_nearest_32
    · have h := ite_f q h
      refine v_iconst C (v := 0) dX6_nearest_12 (by decide) ?_
      refine v_goto C (tgt := 17) dX6_nearest_13 (by decide) ?_
      obtain ⟨z15, e_z15, h⟩ := bnd h
      refine v_callSv C (av := [.int 0]) (rest := []) gX6_nearest_X6_throwIf rfl ⟨rfl, rfl⟩ hS_X6_throwIf ⟨(Nat.le_of_ble_eq_true rfl), (Nat.le_of_ble_eq_true rfl)⟩ (r_X6_throwIf (A := A) e_z15) rfl rfl (Nat.le_of_ble_eq_true rfl) dX6_nearest_17 ?_
      refine v_iload_n C 3 dX6_nearest_20 rfl rfl ?_
      refine v_aload_n C 0 dX6_nearest_21 rfl rfl ?_
      obtain ⟨q16, e_q16, h⟩ := bnd h
      refine v_getf C (ci := 5) (k := 0) rfl inX6_nearest_X6 (by decide) fX6_nearest_10 dX6_nearest_22 (gfR_e e_q16) ?_
      obtain ⟨u17, e_u17, h⟩ := bnd h
      obtain ⟨x18, e_x18, h⟩ := bnd h
      refine v_callVi C (ci := 3) (av := []) (rest := [.int a3]) rfl gX6_nearest_X4_count rfl ⟨rfl, rfl⟩ hV_X4_count ⟨(Nat.le_of_ble_eq_true rfl), (Nat.le_of_ble_eq_true rfl)⟩ e_u17 (r_X4_count (A := A) e_x18) rfl rfl (Nat.le_of_ble_eq_true rfl) dX6_nearest_25 ?_
      refine v_at (pc' := 28) rfl ?_
      refine v_icmp_lt C (tgt := 33) dX6_nearest_28 (by decide) (fun q => ?_) (fun q => ?_)
      · have h := ite_t q h
        refine v_aload_n C 0 dX6_nearest_33 rfl rfl ?_
        obtain ⟨q19, e_q19, h⟩ := bnd h
        refine v_getf C (ci := 5) (k := 0) rfl inX6_nearest_X6 (by decide) fX6_nearest_10 dX6_nearest_34 (gfR_e e_q19) ?_
        refine v_iconst C (v := (-1)) dX6_nearest_37 (by decide) ?_
        refine v_iload_n C 1 dX6_nearest_38 rfl rfl ?_
        refine v_iload_n C 2 dX6_nearest_39 rfl rfl ?_
        obtain ⟨u20, e_u20, h⟩ := bnd h
        obtain ⟨x21, e_x21, h⟩ := bnd h
        refine v_callVi C (ci := 3) (av := [.int (-1), .int a1, .int a2]) (rest := []) rfl gX6_nearest_X4_pairAfter rfl ⟨rfl, rfl⟩ hV_X4_pairAfter ⟨(Nat.le_of_ble_eq_true rfl), (Nat.le_of_ble_eq_true rfl)⟩ e_u20 (r_X4_pairAfter (A := A) e_x21) rfl rfl (Nat.le_of_ble_eq_true rfl) dX6_nearest_40 ?_
        refine v_istore C (lv' := [(4, .int x21), (0, .ref this), (1, .int a1), (2, .int a2), (3, .int a3)]) dX6_nearest_43 (by decide) rfl ?_
        refine v_at (pc' := 45) rfl ?_
        refine v_iconst C (v := 0) dX6_nearest_45 (by decide) ?_
        refine v_istore C (lv' := [(5, .int 0), (4, .int x21), (0, .ref this), (1, .int a1), (2, .int a2), (3, .int a3)]) dX6_nearest_46 (by decide) rfl ?_
        refine v_sub [2, 3, 4, 5, 1, 0] rfl ?_
        exact r_X6_nearest_p48 C n n _ _ _ _ _ _ _ h
      · have h := ite_f q h
        refine v_iconst C (v := (-1)) dX6_nearest_31 (by decide) ?_
        obtain rfl := Option.some.inj h
        exact v_iret C dX6_nearest_32
theorem fX6_within_10 : Cond.fieldLink RX6 10 (TX6 0).1 (TX6 0).2.1 (TX6 0).2.2.1 ∈ wsX6_within := by decide +kernel
theorem inX6_within_X6 : ∀ x ∈ u_ws RX6 TX6 5, x ∈ wsX6_within := by decide +kernel
theorem fX6_within_113 : Cond.fieldLink RX6 113 (TX4 0).1 (TX4 0).2.1 (TX4 0).2.2.1 ∈ wsX6_within := by decide +kernel
theorem inX6_within_X4 : ∀ x ∈ u_ws RX4 TX4 9, x ∈ wsX6_within := by decide +kernel
theorem fX6_within_117 : Cond.fieldLink RX6 117 (TX4 1).1 (TX4 1).2.1 (TX4 1).2.2.1 ∈ wsX6_within := by decide +kernel
theorem fX6_within_120 : Cond.fieldLink RX6 120 (TX4 2).1 (TX4 2).2.1 (TX4 2).2.2.1 ∈ wsX6_within := by decide +kernel
set_option maxRecDepth 100000 in
set_option maxHeartbeats 4000000 in
theorem r_X6_within_p31 {p : Program} {l : Launch} {e : Env} {s : State} {m : MethodId} {args : Array Value} {below : List Frame} {meth : Method} {c : Code} {G : GG} {A : Nat → Prop} (C : Cx p s m args meth c G A cX6_within 7 RX6 wsX6_within (some .int)) (n : Nat) {z : Int32} : ∀ (t : Nat), ∀ (w : Wd) (a0 : Nat) (a1 : Int32) (a2 : Int32) (a3 : Int32) (a4 : Int32) (a5 : Int32) (a6 : Int32), m_X6_within_p31 n t w a0 a1 a2 a3 a4 a5 a6 = some z → V p l e { frames := 2, cells := 0, slots := 0, locals := 43 } s m args below meth c G A 7 31 [(0, .ref a0), (1, .int a1), (2, .int a2), (3, .int a3), (4, .int a4), (5, .int a5), (6, .int a6)] [] w (some (.int z)) w := by
  intro t
  induction t with
  | zero =>
    intro w a0 a1 a2 a3 a4 a5 a6 h
    rw [m_X6_within_p31] at h
    cases h
  | succ t ih =>
    intro w a0 a1 a2 a3 a4 a5 a6 h
    rw [m_X6_within_p31] at h
    refine v_iload C 6 dX6_within_31 rfl ?_
    refine v_bipush C (v := 24) dX6_within_33 (by decide) ?_
    refine v_icmp_ge C (tgt := 97) dX6_within_35 (by decide) (fun q => ?_) (fun q => ?_)
    · have h := ite_t q h
      refine v_iload C 5 dX6_within_97 rfl ?_
      obtain rfl := Option.some.inj h
      exact v_iret C dX6_within_99
    · have h := ite_f q h
      refine v_aload_n C 0 dX6_within_38 rfl rfl ?_
      obtain ⟨q1, e_q1, h⟩ := bnd h
      refine v_getf C (ci := 5) (k := 0) rfl inX6_within_X6 (by decide) fX6_within_10 dX6_within_39 (gfR_e e_q1) ?_
      obtain ⟨q2, e_q2, h⟩ := bnd h
      refine v_getf C (ci := 3) (k := 0) rfl inX6_within_X4 (by decide) fX6_within_113 dX6_within_42 (gfR_e e_q2) ?_
      refine v_iload C 6 dX6_within_45 rfl ?_
      obtain ⟨x3, e_x3, h⟩ := bnd h
      refine v_zald C dX6_within_47 e_x3 ?_
      refine v_if_eq C (tgt := 91) dX6_within_48 (by decide) (fun q => ?_) (fun q => ?_)
      · have h := ite_t q h
        refine v_iinc C (k := 6) (v := (a6 + 1)) (lv' := [(6, .int (a6 + 1)), (0, .ref a0), (1, .int a1), (2, .int a2), (3, .int a3), (4, .int a4), (5, .int a5)]) dX6_within_91 rfl rfl (by decide) rfl ?_
        refine v_goto C (tgt := 31) dX6_within_94 (by decide) ?_
        refine v_sub [1, 2, 3, 4, 5, 6, 0] rfl ?_
        exact ih _ _ _ _ _ _ _ _ h
      · have h := ite_f q h
        refine v_aload_n C 0 dX6_within_51 rfl rfl ?_
        obtain ⟨q4, e_q4, h⟩ := bnd h
        refine v_getf C (ci := 5) (k := 0) rfl inX6_within_X6 (by decide) fX6_within_10 dX6_within_52 (gfR_e e_q4) ?_
        obtain ⟨q5, e_q5, h⟩ := bnd h
        refine v_getf C (ci := 3) (k := 1) rfl inX6_within_X4 (by decide) fX6_within_117 dX6_within_55 (gfR_e e_q5) ?_
        refine v_iload C 6 dX6_within_58 rfl ?_
        obtain ⟨x6, e_x6, h⟩ := bnd h
        refine v_iald C dX6_within_60 e_x6 ?_
        refine v_iload_n C 1 dX6_within_61 rfl rfl ?_
        refine v_iload_n C 3 dX6_within_62 rfl rfl ?_
        refine v_at (pc' := 63) rfl ?_
        refine v_callSi C (av := [.int x6, .int a1, .int a3]) (rest := []) gX6_within_X6_inside rfl ⟨rfl, rfl⟩ hS_X6_inside ⟨(Nat.le_of_ble_eq_true rfl), (Nat.le_of_ble_eq_true rfl)⟩ (r_X6_inside (A := A) rfl) rfl rfl (Nat.le_of_ble_eq_true rfl) dX6_within_63 ?_
        refine v_if_eq C (tgt := 91) dX6_within_66 (by decide) (fun q => ?_) (fun q => ?_)
        · have h := ite_t q h
          refine v_iinc C (k := 6) (v := (a6 + 1)) (lv' := [(6, .int (a6 + 1)), (0, .ref a0), (1, .int a1), (2, .int a2), (3, .int a3), (4, .int a4), (5, .int a5)]) dX6_within_91 rfl rfl (by decide) rfl ?_
          refine v_goto C (tgt := 31) dX6_within_94 (by decide) ?_
          refine v_sub [1, 2, 3, 4, 5, 6, 0] rfl ?_
          exact ih _ _ _ _ _ _ _ _ h
        · have h := ite_f q h
          refine v_aload_n C 0 dX6_within_69 rfl rfl ?_
          obtain ⟨q7, e_q7, h⟩ := bnd h
          refine v_getf C (ci := 5) (k := 0) rfl inX6_within_X6 (by decide) fX6_within_10 dX6_within_70 (gfR_e e_q7) ?_
          obtain ⟨q8, e_q8, h⟩ := bnd h
          refine v_getf C (ci := 3) (k := 2) rfl inX6_within_X4 (by decide) fX6_within_120 dX6_within_73 (gfR_e e_q8) ?_
          refine v_iload C 6 dX6_within_76 rfl ?_
          obtain ⟨x9, e_x9, h⟩ := bnd h
          refine v_iald C dX6_within_78 e_x9 ?_
          refine v_iload_n C 2 dX6_within_79 rfl rfl ?_
          refine v_iload C 4 dX6_within_80 rfl ?_
          refine v_at (pc' := 82) rfl ?_
          refine v_callSi C (av := [.int x9, .int a2, .int a4]) (rest := []) gX6_within_X6_inside rfl ⟨rfl, rfl⟩ hS_X6_inside ⟨(Nat.le_of_ble_eq_true rfl), (Nat.le_of_ble_eq_true rfl)⟩ (r_X6_inside (A := A) rfl) rfl rfl (Nat.le_of_ble_eq_true rfl) dX6_within_82 ?_
          refine v_if_eq C (tgt := 91) dX6_within_85 (by decide) (fun q => ?_) (fun q => ?_)
          · have h := ite_t q h
            refine v_iinc C (k := 6) (v := (a6 + 1)) (lv' := [(6, .int (a6 + 1)), (0, .ref a0), (1, .int a1), (2, .int a2), (3, .int a3), (4, .int a4), (5, .int a5)]) dX6_within_91 rfl rfl (by decide) rfl ?_
            refine v_goto C (tgt := 31) dX6_within_94 (by decide) ?_
            refine v_sub [1, 2, 3, 4, 5, 6, 0] rfl ?_
            exact ih _ _ _ _ _ _ _ _ h
          · have h := ite_f q h
            refine v_iinc C (k := 5) (v := (a5 + 1)) (lv' := [(5, .int (a5 + 1)), (0, .ref a0), (1, .int a1), (2, .int a2), (3, .int a3), (4, .int a4), (6, .int a6)]) dX6_within_88 rfl rfl (by decide) rfl ?_
            refine v_iinc C (k := 6) (v := (a6 + 1)) (lv' := [(6, .int (a6 + 1)), (5, .int (a5 + 1)), (0, .ref a0), (1, .int a1), (2, .int a2), (3, .int a3), (4, .int a4)]) dX6_within_91 rfl rfl (by decide) rfl ?_
            refine v_goto C (tgt := 31) dX6_within_94 (by decide) ?_
            refine v_sub [2, 3, 4, 5, 6, 1, 0] rfl ?_
            exact ih _ _ _ _ _ _ _ _ h
set_option maxRecDepth 100000 in
set_option maxHeartbeats 4000000 in
theorem r_X6_within {l : Launch} {G : GG} {A : Nat → Prop} {n : Nat} {w : Wd} {this : Nat} {a1 : Int32} {a2 : Int32} {a3 : Int32} {a4 : Int32} {z : Int32} (h : m_X6_within n w this a1 a2 a3 a4 = some z) : Con l yX6_within wsX6_within { frames := 2, cells := 0, slots := 0, locals := 43 } G A [.ref this, .int a1, .int a2, .int a3, .int a4] w (some (.int z)) w := by
  refine Con.of (own := RX6) (cc := cX6_within) (maxL := 7) (ret := (some .int)) rfl (by decide) rfl (Nat.le_of_ble_eq_true rfl) ?_
  intro p e s m args below meth c C
  show V p l e { frames := 2, cells := 0, slots := 0, locals := 43 } s m args below meth c G A 7 0 [(0, .ref this), (1, .int a1), (2, .int a2), (3, .int a3), (4, .int a4)] [] w (some (.int z)) w
  unfold m_X6_within at h
  refine v_iload_n C 1 dX6_within_0 rfl rfl ?_
  refine v_iload_n C 2 dX6_within_1 rfl rfl ?_
  refine v_callSi C (av := [.int a1, .int a2]) (rest := []) gX6_within_X6_isPosition rfl ⟨rfl, rfl⟩ hS_X6_isPosition ⟨(Nat.le_of_ble_eq_true rfl), (Nat.le_of_ble_eq_true rfl)⟩ (r_X6_isPosition (A := A) rfl) rfl rfl (Nat.le_of_ble_eq_true rfl) dX6_within_2 ?_
  refine v_if_eq C (tgt := 21) dX6_within_5 (by decide) (fun q => ?_) (fun q => ?_)
  · have h := ite_t q h
    refine v_iconst C (v := 2) dX6_within_21 (by decide) ?_
    obtain ⟨z1, e_z1, h⟩ := bnd h
    refine v_callSv C (av := [.int 2]) (rest := []) gX6_within_X6_throwIf rfl ⟨rfl, rfl⟩ hS_X6_throwIf ⟨(Nat.le_of_ble_eq_true rfl), (Nat.le_of_ble_eq_true rfl)⟩ (r_X6_throwIf (A := A) e_z1) rfl rfl (Nat.le_of_ble_eq_true rfl) dX6_within_22 ?_
    refine v_iconst C (v := 0) dX6_within_25 (by decide) ?_
    refine v_istore C (lv' := [(5, .int 0), (0, .ref this), (1, .int a1), (2, .int a2), (3, .int a3), (4, .int a4)]) dX6_within_26 (by decide) rfl ?_
    refine v_iconst C (v := 0) dX6_within_28 (by decide) ?_
    refine v_istore C (lv' := [(6, .int 0), (5, .int 0), (0, .ref this), (1, .int a1), (2, .int a2), (3, .int a3), (4, .int a4)]) dX6_within_29 (by decide) rfl ?_
    refine v_sub [2, 3, 4, 5, 6, 1, 0] rfl ?_
    exact r_X6_within_p31 C n n _ _ _ _ _ _ _ _ h
  · have h := ite_f q h
    refine v_iload_n C 3 dX6_within_8 rfl rfl ?_
    refine v_iload C 4 dX6_within_9 rfl ?_
    refine v_callSi C (av := [.int a3, .int a4]) (rest := []) gX6_within_X6_isPosition rfl ⟨rfl, rfl⟩ hS_X6_isPosition ⟨(Nat.le_of_ble_eq_true rfl), (Nat.le_of_ble_eq_true rfl)⟩ (r_X6_isPosition (A := A) rfl) rfl rfl (Nat.le_of_ble_eq_true rfl) dX6_within_11 ?_
    refine v_if_eq C (tgt := 21) dX6_within_14 (by decide) (fun q => ?_) (fun q => ?_)
    · have h := ite_t q h
      refine v_iconst C (v := 2) dX6_within_21 (by decide) ?_
      obtain ⟨z2, e_z2, h⟩ := bnd h
      refine v_callSv C (av := [.int 2]) (rest := []) gX6_within_X6_throwIf rfl ⟨rfl, rfl⟩ hS_X6_throwIf ⟨(Nat.le_of_ble_eq_true rfl), (Nat.le_of_ble_eq_true rfl)⟩ (r_X6_throwIf (A := A) e_z2) rfl rfl (Nat.le_of_ble_eq_true rfl) dX6_within_22 ?_
      refine v_iconst C (v := 0) dX6_within_25 (by decide) ?_
      refine v_istore C (lv' := [(5, .int 0), (0, .ref this), (1, .int a1), (2, .int a2), (3, .int a3), (4, .int a4)]) dX6_within_26 (by decide) rfl ?_
      refine v_iconst C (v := 0) dX6_within_28 (by decide) ?_
      refine v_istore C (lv' := [(6, .int 0), (5, .int 0), (0, .ref this), (1, .int a1), (2, .int a2), (3, .int a3), (4, .int a4)]) dX6_within_29 (by decide) rfl ?_
      refine v_sub [2, 3, 4, 5, 6, 1, 0] rfl ?_
      exact r_X6_within_p31 C n n _ _ _ _ _ _ _ _ h
    · have h := ite_f q h
      refine v_iconst C (v := 0) dX6_within_17 (by decide) ?_
      refine v_goto C (tgt := 22) dX6_within_18 (by decide) ?_
      obtain ⟨z3, e_z3, h⟩ := bnd h
      refine v_callSv C (av := [.int 0]) (rest := []) gX6_within_X6_throwIf rfl ⟨rfl, rfl⟩ hS_X6_throwIf ⟨(Nat.le_of_ble_eq_true rfl), (Nat.le_of_ble_eq_true rfl)⟩ (r_X6_throwIf (A := A) e_z3) rfl rfl (Nat.le_of_ble_eq_true rfl) dX6_within_22 ?_
      refine v_iconst C (v := 0) dX6_within_25 (by decide) ?_
      refine v_istore C (lv' := [(5, .int 0), (0, .ref this), (1, .int a1), (2, .int a2), (3, .int a3), (4, .int a4)]) dX6_within_26 (by decide) rfl ?_
      refine v_iconst C (v := 0) dX6_within_28 (by decide) ?_
      refine v_istore C (lv' := [(6, .int 0), (5, .int 0), (0, .ref this), (1, .int a1), (2, .int a2), (3, .int a3), (4, .int a4)]) dX6_within_29 (by decide) rfl ?_
      refine v_sub [2, 3, 4, 5, 6, 1, 0] rfl ?_
      exact r_X6_within_p31 C n n _ _ _ _ _ _ _ _ h
theorem fX6_closest_10 : Cond.fieldLink RX6 10 (TX6 0).1 (TX6 0).2.1 (TX6 0).2.2.1 ∈ wsX6_closest := by decide +kernel
theorem inX6_closest_X6 : ∀ x ∈ u_ws RX6 TX6 5, x ∈ wsX6_closest := by decide +kernel
theorem hV_X4_closestCouple : yX4_closestCouple.cls = RX4 ∧ yX4_closestCouple.cls ≠ "java/lang/invoke/MethodHandle" ∧ yX4_closestCouple.cls ≠ "java/lang/invoke/VarHandle" ∧ (parseMethodDescriptor yX4_closestCouple.desc).map (fun d => d.parameters.length) = some 0 := by decide +kernel
set_option maxRecDepth 100000 in
set_option maxHeartbeats 4000000 in
theorem r_X6_closest {l : Launch} {G : GG} {A : Nat → Prop} {n : Nat} {w : Wd} {this : Nat} {a1 : Int32} {z : Int32} (h : m_X6_closest n w this a1 = some z) : Con l yX6_closest wsX6_closest { frames := 3, cells := 0, slots := 0, locals := 70 } G A [.ref this, .int a1] w (some (.int z)) w := by
  refine Con.of (own := RX6) (cc := cX6_closest) (maxL := 3) (ret := (some .int)) rfl (by decide) rfl (Nat.le_of_ble_eq_true rfl) ?_
  intro p e s m args below meth c C
  show V p l e { frames := 3, cells := 0, slots := 0, locals := 70 } s m args below meth c G A 3 0 [(0, .ref this), (1, .int a1)] [] w (some (.int z)) w
  unfold m_X6_closest at h
  refine v_iload_n C 1 dX6_closest_0 rfl rfl ?_
  refine v_iconst C (v := 0) dX6_closest_1 (by decide) ?_
  refine v_iconst C (v := 2) dX6_closest_2 (by decide) ?_
  refine v_callSi C (av := [.int a1, .int 0, .int 2]) (rest := []) gX6_closest_X6_inside rfl ⟨rfl, rfl⟩ hS_X6_inside ⟨(Nat.le_of_ble_eq_true rfl), (Nat.le_of_ble_eq_true rfl)⟩ (r_X6_inside (A := A) rfl) rfl rfl (Nat.le_of_ble_eq_true rfl) dX6_closest_3 ?_
  refine v_if_eq C (tgt := 13) dX6_closest_6 (by decide) (fun q => ?_) (fun q => ?_)
  · have h := ite_t q h
    refine v_iconst C (v := 2) dX6_closest_13 (by decide) ?_
    obtain ⟨z1, e_z1, h⟩ := bnd h
    refine v_callSv C (av := [.int 2]) (rest := []) gX6_closest_X6_throwIf rfl ⟨rfl, rfl⟩ hS_X6_throwIf ⟨(Nat.le_of_ble_eq_true rfl), (Nat.le_of_ble_eq_true rfl)⟩ (r_X6_throwIf (A := A) e_z1) rfl rfl (Nat.le_of_ble_eq_true rfl) dX6_closest_14 ?_
    refine v_aload_n C 0 dX6_closest_17 rfl rfl ?_
    obtain ⟨q2, e_q2, h⟩ := bnd h
    refine v_getf C (ci := 5) (k := 0) rfl inX6_closest_X6 (by decide) fX6_closest_10 dX6_closest_18 (gfR_e e_q2) ?_
    obtain ⟨u3, e_u3, h⟩ := bnd h
    obtain ⟨x4, e_x4, h⟩ := bnd h
    refine v_callVi C (ci := 3) (av := []) (rest := []) rfl gX6_closest_X4_closestCouple rfl ⟨rfl, rfl⟩ hV_X4_closestCouple ⟨(Nat.le_of_ble_eq_true rfl), (Nat.le_of_ble_eq_true rfl)⟩ e_u3 (r_X4_closestCouple (A := A) e_x4) rfl rfl (Nat.le_of_ble_eq_true rfl) dX6_closest_21 ?_
    refine v_istore_n C (lv' := [(2, .int x4), (0, .ref this), (1, .int a1)]) dX6_closest_24 rfl (by decide) rfl ?_
    refine v_iload_n C 0 dX6_closest_25 rfl rfl ?_
    refine v_at (pc' := 26) rfl ?_
    refine v_iconst C (v := (-1)) dX6_closest_26 (by decide) ?_
    refine v_icmp_ne C (tgt := 32) dX6_closest_27 (by decide) (fun q => ?_) (fun q => ?_)
    · have h := ite_f q h
      refine v_iload_n C 2 dX6_closest_32 rfl rfl ?_
      by_cases q5 : a1 = 0
      · have h := ite_t q5 h
        refine v_lookup C 27 60 dX6_closest_33 (by decide) (by rw [q5]; decide) (by decide) ?_
        refine v_iload_n C 0 dX6_closest_60 rfl rfl ?_
        refine v_sipush C (v := 1024) dX6_closest_61 (by decide) ?_
        refine v_idiv C dX6_closest_64 (by decide) ?_
        obtain rfl := Option.some.inj h
        exact v_iret C dX6_closest_65
      have h := ite_f q5 h
      by_cases q6 : a1 = 1
      · have h := ite_t q6 h
        refine v_lookup C 33 66 dX6_closest_33 (by decide) (by rw [q6]; decide) (by decide) ?_
        refine v_iload_n C 0 dX6_closest_66 rfl rfl ?_
        refine v_bipush C (v := 32) dX6_closest_67 (by decide) ?_
        refine v_idiv C dX6_closest_69 (by decide) ?_
        refine v_bipush C (v := 32) dX6_closest_70 (by decide) ?_
        refine v_irem C dX6_closest_72 (by decide) ?_
        obtain rfl := Option.some.inj h
        exact v_iret C dX6_closest_73
      have h := ite_f q6 h
      refine v_lookup C 41 74 dX6_closest_33 (by decide) ((lv_osw q5 rfl).trans <| (lv_osw q6 rfl).trans <| rfl) (by decide) ?_
      refine v_iload_n C 0 dX6_closest_74 rfl rfl ?_
      refine v_bipush C (v := 32) dX6_closest_75 (by decide) ?_
      refine v_irem C dX6_closest_77 (by decide) ?_
      obtain rfl := Option.some.inj h
      exact v_iret C dX6_closest_78
    · have h := ite_t q h
      refine v_iconst C (v := (-1)) dX6_closest_30 (by decide) ?_
      obtain rfl := Option.some.inj h
      exact v_iret C dX6_closest_31
  · have h := ite_f q h
    refine v_iconst C (v := 0) dX6_closest_9 (by decide) ?_
    refine v_goto C (tgt := 14) dX6_closest_10 (by decide) ?_
    obtain ⟨z7, e_z7, h⟩ := bnd h
    refine v_callSv C (av := [.int 0]) (rest := []) gX6_closest_X6_throwIf rfl ⟨rfl, rfl⟩ hS_X6_throwIf ⟨(Nat.le_of_ble_eq_true rfl), (Nat.le_of_ble_eq_true rfl)⟩ (r_X6_throwIf (A := A) e_z7) rfl rfl (Nat.le_of_ble_eq_true rfl) dX6_closest_14 ?_
    refine v_aload_n C 0 dX6_closest_17 rfl rfl ?_
    obtain ⟨q8, e_q8, h⟩ := bnd h
    refine v_getf C (ci := 5) (k := 0) rfl inX6_closest_X6 (by decide) fX6_closest_10 dX6_closest_18 (gfR_e e_q8) ?_
    obtain ⟨u9, e_u9, h⟩ := bnd h
    obtain ⟨x10, e_x10, h⟩ := bnd h
    refine v_callVi C (ci := 3) (av := []) (rest := []) rfl gX6_closest_X4_closestCouple rfl ⟨rfl, rfl⟩ hV_X4_closestCouple ⟨(Nat.le_of_ble_eq_true rfl), (Nat.le_of_ble_eq_true rfl)⟩ e_u9 (r_X4_closestCouple (A := A) e_x10) rfl rfl (Nat.le_of_ble_eq_true rfl) dX6_closest_21 ?_
    refine v_istore_n C (lv' := [(2, .int x10), (0, .ref this), (1, .int a1)]) dX6_closest_24 rfl (by decide) rfl ?_
    refine v_at (pc' := 25) rfl ?_
    refine v_iload_n C 0 dX6_closest_25 rfl rfl ?_
    refine v_iconst C (v := (-1)) dX6_closest_26 (by decide) ?_
    refine v_icmp_ne C (tgt := 32) dX6_closest_27 (by decide) (fun q => ?_) (fun q => ?_)
    · have h := ite_f q h
      refine v_iload_n C 2 dX6_closest_32 rfl rfl ?_
      by_cases q11 : a1 = 0
      · have h := ite_t q11 h
        refine v_lookup C 27 60 dX6_closest_33 (by decide) (by rw [q11]; decide) (by decide) ?_
        refine v_iload_n C 0 dX6_closest_60 rfl rfl ?_
        refine v_sipush C (v := 1024) dX6_closest_61 (by decide) ?_
        refine v_idiv C dX6_closest_64 (by decide) ?_
        obtain rfl := Option.some.inj h
        exact v_iret C dX6_closest_65
      have h := ite_f q11 h
      by_cases q12 : a1 = 1
      · have h := ite_t q12 h
        refine v_lookup C 33 66 dX6_closest_33 (by decide) (by rw [q12]; decide) (by decide) ?_
        refine v_iload_n C 0 dX6_closest_66 rfl rfl ?_
        refine v_bipush C (v := 32) dX6_closest_67 (by decide) ?_
        refine v_idiv C dX6_closest_69 (by decide) ?_
        refine v_bipush C (v := 32) dX6_closest_70 (by decide) ?_
        refine v_irem C dX6_closest_72 (by decide) ?_
        obtain rfl := Option.some.inj h
        exact v_iret C dX6_closest_73
      have h := ite_f q12 h
      refine v_lookup C 41 74 dX6_closest_33 (by decide) ((lv_osw q11 rfl).trans <| (lv_osw q12 rfl).trans <| rfl) (by decide) ?_
      refine v_iload_n C 0 dX6_closest_74 rfl rfl ?_
      refine v_bipush C (v := 32) dX6_closest_75 (by decide) ?_
      refine v_irem C dX6_closest_77 (by decide) ?_
      obtain rfl := Option.some.inj h
      exact v_iret C dX6_closest_78
    · have h := ite_t q h
      refine v_iconst C (v := (-1)) dX6_closest_30 (by decide) ?_
      obtain rfl := Option.some.inj h
      exact v_iret C dX6_closest_31
theorem fX6_refusalOfByte_26 : Cond.fieldLink RX6 26 (TX6 2).1 (TX6 2).2.1 (TX6 2).2.2.1 ∈ wsX6_refusalOfByte := by decide +kernel
theorem inX6_refusalOfByte_X6 : ∀ x ∈ u_ws RX6 TX6 5, x ∈ wsX6_refusalOfByte := by decide +kernel
theorem fX6_refusalOfByte_233 : Cond.fieldLink RX6 233 (TX2 1).1 (TX2 1).2.1 (TX2 1).2.2.1 ∈ wsX6_refusalOfByte := by decide +kernel
theorem inX6_refusalOfByte_X2 : ∀ x ∈ u_ws RX2 TX2 6, x ∈ wsX6_refusalOfByte := by decide +kernel
set_option maxRecDepth 100000 in
set_option maxHeartbeats 4000000 in
theorem r_X6_refusalOfByte {l : Launch} {G : GG} {A : Nat → Prop} {n : Nat} {w : Wd} {this : Nat} {a1 : Int32} {z : Int32} (h : m_X6_refusalOfByte n w this a1 = some z) : Con l yX6_refusalOfByte wsX6_refusalOfByte { frames := 1, cells := 0, slots := 0, locals := 22 } G A [.ref this, .int a1] w (some (.int z)) w := by
  refine Con.of (own := RX6) (cc := cX6_refusalOfByte) (maxL := 2) (ret := (some .int)) rfl (by decide) rfl (Nat.le_of_ble_eq_true rfl) ?_
  intro p e s m args below meth c C
  show V p l e { frames := 1, cells := 0, slots := 0, locals := 22 } s m args below meth c G A 2 0 [(0, .ref this), (1, .int a1)] [] w (some (.int z)) w
  unfold m_X6_refusalOfByte at h
  refine v_iload_n C 1 dX6_refusalOfByte_0 rfl rfl ?_
  refine v_iconst C (v := 0) dX6_refusalOfByte_1 (by decide) ?_
  refine v_bipush C (v := 127) dX6_refusalOfByte_2 (by decide) ?_
  refine v_callSi C (av := [.int a1, .int 0, .int 127]) (rest := []) gX6_refusalOfByte_X6_inside rfl ⟨rfl, rfl⟩ hS_X6_inside ⟨(Nat.le_of_ble_eq_true rfl), (Nat.le_of_ble_eq_true rfl)⟩ (r_X6_inside (A := A) rfl) rfl rfl (Nat.le_of_ble_eq_true rfl) dX6_refusalOfByte_4 ?_
  refine v_if_ne C (tgt := 12) dX6_refusalOfByte_7 (by decide) (fun q => ?_) (fun q => ?_)
  · have h := ite_f q h
    refine v_aload_n C 0 dX6_refusalOfByte_12 rfl rfl ?_
    obtain ⟨q1, e_q1, h⟩ := bnd h
    refine v_getf C (ci := 5) (k := 2) rfl inX6_refusalOfByte_X6 (by decide) fX6_refusalOfByte_26 dX6_refusalOfByte_13 (gfR_e e_q1) ?_
    obtain ⟨x2, e_x2, h⟩ := bnd h
    refine v_getf C (ci := 2) (k := 1) rfl inX6_refusalOfByte_X2 (by decide) fX6_refusalOfByte_233 dX6_refusalOfByte_16 (gfI_e e_x2) ?_
    refine v_bipush C (v := 120) dX6_refusalOfByte_19 (by decide) ?_
    refine v_icmp_ge C (tgt := 28) dX6_refusalOfByte_21 (by decide) (fun q => ?_) (fun q => ?_)
    · have h := ite_t q h
      refine v_iconst C (v := 3) dX6_refusalOfByte_28 (by decide) ?_
      obtain rfl := Option.some.inj h
      exact v_iret C dX6_refusalOfByte_29
    · have h := ite_f q h
      refine v_iconst C (v := 0) dX6_refusalOfByte_24 (by decide) ?_
      refine v_goto C (tgt := 29) dX6_refusalOfByte_25 (by decide) ?_
      obtain rfl := Option.some.inj h
      exact v_iret C dX6_refusalOfByte_29
  · have h := ite_t q h
    refine v_iconst C (v := 2) dX6_refusalOfByte_10 (by decide) ?_
    obtain rfl := Option.some.inj h
    exact v_iret C dX6_refusalOfByte_11
theorem hV_X6_refusalOfByte : yX6_refusalOfByte.cls = RX6 ∧ yX6_refusalOfByte.cls ≠ "java/lang/invoke/MethodHandle" ∧ yX6_refusalOfByte.cls ≠ "java/lang/invoke/VarHandle" ∧ (parseMethodDescriptor yX6_refusalOfByte.desc).map (fun d => d.parameters.length) = some 1 := by decide +kernel
theorem fX6_type_26 : Cond.fieldLink RX6 26 (TX6 2).1 (TX6 2).2.1 (TX6 2).2.2.1 ∈ wsX6_type := by decide +kernel
theorem inX6_type_X6 : ∀ x ∈ u_ws RX6 TX6 5, x ∈ wsX6_type := by decide +kernel
theorem hV_X2_append : yX2_append.cls = RX2 ∧ yX2_append.cls ≠ "java/lang/invoke/MethodHandle" ∧ yX2_append.cls ≠ "java/lang/invoke/VarHandle" ∧ (parseMethodDescriptor yX2_append.desc).map (fun d => d.parameters.length) = some 1 := by decide +kernel
theorem fX6_type_233 : Cond.fieldLink RX6 233 (TX2 1).1 (TX2 1).2.1 (TX2 1).2.2.1 ∈ wsX6_type := by decide +kernel
theorem inX6_type_X2 : ∀ x ∈ u_ws RX2 TX2 6, x ∈ wsX6_type := by decide +kernel
set_option maxRecDepth 100000 in
set_option maxHeartbeats 4000000 in
theorem r_X6_type {l : Launch} {G : GG} {A : Nat → Prop} {n : Nat} {w : Wd} {this : Nat} {a1 : Int32} {z : (Int32 × Wd)} (h : m_X6_type n w this a1 = some z) : Con l yX6_type wsX6_type { frames := 2, cells := 0, slots := 0, locals := 43 } G A [.ref this, .int a1] w (some (.int z.1)) z.2 := by
  refine Con.of (own := RX6) (cc := cX6_type) (maxL := 2) (ret := (some .int)) rfl (by decide) rfl (Nat.le_of_ble_eq_true rfl) ?_
  intro p e s m args below meth c C
  show V p l e { frames := 2, cells := 0, slots := 0, locals := 43 } s m args below meth c G A 2 0 [(0, .ref this), (1, .int a1)] [] w (some (.int z.1)) z.2
  unfold m_X6_type at h
  refine v_aload_n C 0 dX6_type_0 rfl rfl ?_
  refine v_iload_n C 1 dX6_type_1 rfl rfl ?_
  obtain ⟨u1, e_u1, h⟩ := bnd h
  obtain ⟨x2, e_x2, h⟩ := bnd h
  refine v_callVi C (ci := 5) (av := [.int a1]) (rest := []) rfl gX6_type_X6_refusalOfByte rfl ⟨rfl, rfl⟩ hV_X6_refusalOfByte ⟨(Nat.le_of_ble_eq_true rfl), (Nat.le_of_ble_eq_true rfl)⟩ e_u1 (r_X6_refusalOfByte (A := A) e_x2) rfl rfl (Nat.le_of_ble_eq_true rfl) dX6_type_2 ?_
  obtain ⟨z3, e_z3, h⟩ := bnd h
  refine v_callSv C (av := [.int x2]) (rest := []) gX6_type_X6_throwIf rfl ⟨rfl, rfl⟩ hS_X6_throwIf ⟨(Nat.le_of_ble_eq_true rfl), (Nat.le_of_ble_eq_true rfl)⟩ (r_X6_throwIf (A := A) e_z3) rfl rfl (Nat.le_of_ble_eq_true rfl) dX6_type_5 ?_
  refine v_aload_n C 0 dX6_type_8 rfl rfl ?_
  obtain ⟨q4, e_q4, h⟩ := bnd h
  refine v_getf C (ci := 5) (k := 2) rfl inX6_type_X6 (by decide) fX6_type_26 dX6_type_9 (gfR_e e_q4) ?_
  refine v_iload_n C 1 dX6_type_12 rfl rfl ?_
  refine v_at (pc' := 13) rfl ?_
  obtain ⟨u5, e_u5, h⟩ := bnd h
  obtain ⟨z6, e_z6, h⟩ := bnd h
  refine v_callVv C (ci := 2) (av := [.int a1]) (rest := []) rfl gX6_type_X2_append rfl ⟨rfl, rfl⟩ hV_X2_append ⟨(Nat.le_of_ble_eq_true rfl), (Nat.le_of_ble_eq_true rfl)⟩ e_u5 (r_X2_append (A := A) e_z6) rfl rfl (Nat.le_of_ble_eq_true rfl) dX6_type_13 ?_
  refine v_aload_n C 0 dX6_type_16 rfl rfl ?_
  obtain ⟨q7, e_q7, h⟩ := bnd h
  refine v_getf C (ci := 5) (k := 2) rfl inX6_type_X6 (by decide) fX6_type_26 dX6_type_17 (gfR_e e_q7) ?_
  obtain ⟨x8, e_x8, h⟩ := bnd h
  refine v_getf C (ci := 2) (k := 1) rfl inX6_type_X2 (by decide) fX6_type_233 dX6_type_20 (gfI_e e_x8) ?_
  obtain rfl := Option.some.inj h
  exact v_iret C dX6_type_23
theorem fX6_time_10 : Cond.fieldLink RX6 10 (TX6 0).1 (TX6 0).2.1 (TX6 0).2.2.1 ∈ wsX6_time := by decide +kernel
theorem inX6_time_X6 : ∀ x ∈ u_ws RX6 TX6 5, x ∈ wsX6_time := by decide +kernel
theorem fX6_time_260 : Cond.fieldLink RX6 260 (TX4 8).1 (TX4 8).2.1 (TX4 8).2.2.1 ∈ wsX6_time := by decide +kernel
theorem inX6_time_X4 : ∀ x ∈ u_ws RX4 TX4 9, x ∈ wsX6_time := by decide +kernel
set_option maxRecDepth 100000 in
set_option maxHeartbeats 4000000 in
theorem r_X6_time {l : Launch} {G : GG} {A : Nat → Prop} {n : Nat} {w : Wd} {this : Nat} {z : Int32} (h : m_X6_time n w this = some z) : Con l yX6_time wsX6_time { frames := 0, cells := 0, slots := 0, locals := 0 } G A [.ref this] w (some (.int z)) w := by
  refine Con.of (own := RX6) (cc := cX6_time) (maxL := 1) (ret := (some .int)) rfl (by decide) rfl (Nat.le_of_ble_eq_true rfl) ?_
  intro p e s m args below meth c C
  show V p l e { frames := 0, cells := 0, slots := 0, locals := 0 } s m args below meth c G A 1 0 [(0, .ref this)] [] w (some (.int z)) w
  unfold m_X6_time at h
  refine v_aload_n C 0 dX6_time_0 rfl rfl ?_
  obtain ⟨q1, e_q1, h⟩ := bnd h
  refine v_getf C (ci := 5) (k := 0) rfl inX6_time_X6 (by decide) fX6_time_10 dX6_time_1 (gfR_e e_q1) ?_
  obtain ⟨x2, e_x2, h⟩ := bnd h
  refine v_getf C (ci := 3) (k := 8) rfl inX6_time_X4 (by decide) fX6_time_260 dX6_time_4 (gfI_e e_x2) ?_
  obtain rfl := Option.some.inj h
  exact v_iret C dX6_time_7
theorem fX6_undo_19 : Cond.fieldLink RX6 19 (TX6 1).1 (TX6 1).2.1 (TX6 1).2.2.1 ∈ wsX6_undo := by decide +kernel
theorem inX6_undo_X6 : ∀ x ∈ u_ws RX6 TX6 5, x ∈ wsX6_undo := by decide +kernel
theorem fX6_undo_263 : Cond.fieldLink RX6 263 (TX5 2).1 (TX5 2).2.1 (TX5 2).2.2.1 ∈ wsX6_undo := by decide +kernel
theorem inX6_undo_X5 : ∀ x ∈ u_ws RX5 TX5 3, x ∈ wsX6_undo := by decide +kernel
theorem fX6_undo_10 : Cond.fieldLink RX6 10 (TX6 0).1 (TX6 0).2.1 (TX6 0).2.2.1 ∈ wsX6_undo := by decide +kernel
theorem hV_X5_pop : yX5_pop.cls = RX5 ∧ yX5_pop.cls ≠ "java/lang/invoke/MethodHandle" ∧ yX5_pop.cls ≠ "java/lang/invoke/VarHandle" ∧ (parseMethodDescriptor yX5_pop.desc).map (fun d => d.parameters.length) = some 1 := by decide +kernel
theorem fX6_undo_33 : Cond.fieldLink RX6 33 (TX6 3).1 (TX6 3).2.1 (TX6 3).2.2.1 ∈ wsX6_undo := by decide +kernel
set_option maxRecDepth 100000 in
set_option maxHeartbeats 4000000 in
theorem r_X6_undo {l : Launch} {G : GG} {A : Nat → Prop} {n : Nat} {w : Wd} {this : Nat} {z : (Int32 × Wd)} (h : m_X6_undo n w this = some z) : Con l yX6_undo wsX6_undo { frames := 3, cells := 0, slots := 0, locals := 72 } G A [.ref this] w (some (.int z.1)) z.2 := by
  refine Con.of (own := RX6) (cc := cX6_undo) (maxL := 1) (ret := (some .int)) rfl (by decide) rfl (Nat.le_of_ble_eq_true rfl) ?_
  intro p e s m args below meth c C
  show V p l e { frames := 3, cells := 0, slots := 0, locals := 72 } s m args below meth c G A 1 0 [(0, .ref this)] [] w (some (.int z.1)) z.2
  unfold m_X6_undo at h
  refine v_aload_n C 0 dX6_undo_0 rfl rfl ?_
  obtain ⟨q1, e_q1, h⟩ := bnd h
  refine v_getf C (ci := 5) (k := 1) rfl inX6_undo_X6 (by decide) fX6_undo_19 dX6_undo_1 (gfR_e e_q1) ?_
  obtain ⟨x2, e_x2, h⟩ := bnd h
  refine v_getf C (ci := 4) (k := 2) rfl inX6_undo_X5 (by decide) fX6_undo_263 dX6_undo_4 (gfI_e e_x2) ?_
  refine v_if_le C (tgt := 14) dX6_undo_7 (by decide) (fun q => ?_) (fun q => ?_)
  · have h := ite_t q h
    refine v_iconst C (v := 3) dX6_undo_14 (by decide) ?_
    obtain ⟨z3, e_z3, h⟩ := bnd h
    refine v_callSv C (av := [.int 3]) (rest := []) gX6_undo_X6_throwIf rfl ⟨rfl, rfl⟩ hS_X6_throwIf ⟨(Nat.le_of_ble_eq_true rfl), (Nat.le_of_ble_eq_true rfl)⟩ (r_X6_throwIf (A := A) e_z3) rfl rfl (Nat.le_of_ble_eq_true rfl) dX6_undo_15 ?_
    refine v_aload_n C 0 dX6_undo_18 rfl rfl ?_
    obtain ⟨q4, e_q4, h⟩ := bnd h
    refine v_getf C (ci := 5) (k := 1) rfl inX6_undo_X6 (by decide) fX6_undo_19 dX6_undo_19 (gfR_e e_q4) ?_
    refine v_aload_n C 0 dX6_undo_22 rfl rfl ?_
    obtain ⟨q5, e_q5, h⟩ := bnd h
    refine v_getf C (ci := 5) (k := 0) rfl inX6_undo_X6 (by decide) fX6_undo_10 dX6_undo_23 (gfR_e e_q5) ?_
    obtain ⟨u6, e_u6, h⟩ := bnd h
    obtain ⟨z7, e_z7, h⟩ := bnd h
    refine v_callVv C (ci := 4) (av := [.ref q5]) (rest := []) rfl gX6_undo_X5_pop rfl ⟨rfl, rfl⟩ hV_X5_pop ⟨(Nat.le_of_ble_eq_true rfl), (Nat.le_of_ble_eq_true rfl)⟩ e_u6 (r_X5_pop (A := A) e_z7) rfl rfl (Nat.le_of_ble_eq_true rfl) dX6_undo_26 ?_
    refine v_at (pc' := 29) rfl ?_
    refine v_aload_n C 0 dX6_undo_29 rfl rfl ?_
    obtain ⟨q8, e_q8, h⟩ := bnd h
    refine v_getf C (ci := 5) (k := 3) rfl inX6_undo_X6 (by decide) fX6_undo_33 dX6_undo_30 (gfR_e e_q8) ?_
    refine v_aload_n C 0 dX6_undo_33 rfl rfl ?_
    obtain ⟨q9, e_q9, h⟩ := bnd h
    refine v_getf C (ci := 5) (k := 0) rfl inX6_undo_X6 (by decide) fX6_undo_10 dX6_undo_34 (gfR_e e_q9) ?_
    obtain ⟨u10, e_u10, h⟩ := bnd h
    obtain ⟨z11, e_z11, h⟩ := bnd h
    refine v_callVv C (ci := 0) (av := [.ref q9]) (rest := []) rfl gX6_undo_X0_plant rfl ⟨rfl, rfl⟩ hV_X0_plant ⟨(Nat.le_of_ble_eq_true rfl), (Nat.le_of_ble_eq_true rfl)⟩ e_u10 (r_X0_plant (A := A) e_z11) rfl rfl (Nat.le_of_ble_eq_true rfl) dX6_undo_37 ?_
    refine v_aload_n C 0 dX6_undo_40 rfl rfl ?_
    obtain ⟨q12, e_q12, h⟩ := bnd h
    refine v_getf C (ci := 5) (k := 1) rfl inX6_undo_X6 (by decide) fX6_undo_19 dX6_undo_41 (gfR_e e_q12) ?_
    obtain ⟨x13, e_x13, h⟩ := bnd h
    refine v_getf C (ci := 4) (k := 2) rfl inX6_undo_X5 (by decide) fX6_undo_263 dX6_undo_44 (gfI_e e_x13) ?_
    refine v_at (pc' := 47) rfl ?_
    obtain rfl := Option.some.inj h
    exact v_iret C dX6_undo_47
  · have h := ite_f q h
    refine v_iconst C (v := 0) dX6_undo_10 (by decide) ?_
    refine v_goto C (tgt := 15) dX6_undo_11 (by decide) ?_
    obtain ⟨z14, e_z14, h⟩ := bnd h
    refine v_callSv C (av := [.int 0]) (rest := []) gX6_undo_X6_throwIf rfl ⟨rfl, rfl⟩ hS_X6_throwIf ⟨(Nat.le_of_ble_eq_true rfl), (Nat.le_of_ble_eq_true rfl)⟩ (r_X6_throwIf (A := A) e_z14) rfl rfl (Nat.le_of_ble_eq_true rfl) dX6_undo_15 ?_
    refine v_aload_n C 0 dX6_undo_18 rfl rfl ?_
    obtain ⟨q15, e_q15, h⟩ := bnd h
    refine v_getf C (ci := 5) (k := 1) rfl inX6_undo_X6 (by decide) fX6_undo_19 dX6_undo_19 (gfR_e e_q15) ?_
    refine v_aload_n C 0 dX6_undo_22 rfl rfl ?_
    obtain ⟨q16, e_q16, h⟩ := bnd h
    refine v_getf C (ci := 5) (k := 0) rfl inX6_undo_X6 (by decide) fX6_undo_10 dX6_undo_23 (gfR_e e_q16) ?_
    refine v_at (pc' := 26) rfl ?_
    obtain ⟨u17, e_u17, h⟩ := bnd h
    obtain ⟨z18, e_z18, h⟩ := bnd h
    refine v_callVv C (ci := 4) (av := [.ref q16]) (rest := []) rfl gX6_undo_X5_pop rfl ⟨rfl, rfl⟩ hV_X5_pop ⟨(Nat.le_of_ble_eq_true rfl), (Nat.le_of_ble_eq_true rfl)⟩ e_u17 (r_X5_pop (A := A) e_z18) rfl rfl (Nat.le_of_ble_eq_true rfl) dX6_undo_26 ?_
    refine v_aload_n C 0 dX6_undo_29 rfl rfl ?_
    obtain ⟨q19, e_q19, h⟩ := bnd h
    refine v_getf C (ci := 5) (k := 3) rfl inX6_undo_X6 (by decide) fX6_undo_33 dX6_undo_30 (gfR_e e_q19) ?_
    refine v_aload_n C 0 dX6_undo_33 rfl rfl ?_
    obtain ⟨q20, e_q20, h⟩ := bnd h
    refine v_getf C (ci := 5) (k := 0) rfl inX6_undo_X6 (by decide) fX6_undo_10 dX6_undo_34 (gfR_e e_q20) ?_
    obtain ⟨u21, e_u21, h⟩ := bnd h
    obtain ⟨z22, e_z22, h⟩ := bnd h
    refine v_callVv C (ci := 0) (av := [.ref q20]) (rest := []) rfl gX6_undo_X0_plant rfl ⟨rfl, rfl⟩ hV_X0_plant ⟨(Nat.le_of_ble_eq_true rfl), (Nat.le_of_ble_eq_true rfl)⟩ e_u21 (r_X0_plant (A := A) e_z22) rfl rfl (Nat.le_of_ble_eq_true rfl) dX6_undo_37 ?_
    refine v_aload_n C 0 dX6_undo_40 rfl rfl ?_
    obtain ⟨q23, e_q23, h⟩ := bnd h
    refine v_getf C (ci := 5) (k := 1) rfl inX6_undo_X6 (by decide) fX6_undo_19 dX6_undo_41 (gfR_e e_q23) ?_
    refine v_at (pc' := 44) rfl ?_
    obtain ⟨x24, e_x24, h⟩ := bnd h
    refine v_getf C (ci := 4) (k := 2) rfl inX6_undo_X5 (by decide) fX6_undo_263 dX6_undo_44 (gfI_e e_x24) ?_
    obtain rfl := Option.some.inj h
    exact v_iret C dX6_undo_47
