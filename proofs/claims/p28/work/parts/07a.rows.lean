theorem fX0_insert_17 : Cond.fieldLink RX0 17 (TX0 1).1 (TX0 1).2.1 (TX0 1).2.2.1 ∈ wsX0_insert := by decide +kernel
theorem inX0_insert_X0 : ∀ x ∈ u_ws RX0 TX0 2, x ∈ wsX0_insert := by decide +kernel
set_option maxRecDepth 100000 in
set_option maxHeartbeats 4000000 in
theorem r_X0_insert_p38 {p : Program} {l : Launch} {e : Env} {s : State} {m : MethodId} {args : Array Value} {below : List Frame} {meth : Method} {c : Code} {G : GG} {A : Nat → Prop} (C : Cx p s m args meth c G A cX0_insert 4 RX0 wsX0_insert none) (n : Nat) {z : Wd} : ∀ (w : Wd) (a0 : Nat) (a1 : Int32) (a3 : Int32), m_X0_insert_p38 n w a0 a1 a3 = some z → V p l e { frames := 0, cells := 0, slots := 0, locals := 0 } s m args below meth c G A 4 38 [(0, .ref a0), (1, .int a1), (3, .int a3)] [] w (none) z := by
  intro w a0 a1 a3 h
  unfold m_X0_insert_p38 at h
  refine v_aload_n C 0 dX0_insert_38 rfl rfl ?_
  obtain ⟨q1, e_q1, h⟩ := bnd h
  refine v_getf C (ci := 0) (k := 1) rfl inX0_insert_X0 (by decide) fX0_insert_17 dX0_insert_39 (gfR_e e_q1) ?_
  refine v_iload_n C 2 dX0_insert_42 rfl rfl ?_
  refine v_iload_n C 1 dX0_insert_43 rfl rfl ?_
  obtain ⟨w2, e_w2, h⟩ := bnd h
  refine v_iast C dX0_insert_44 e_w2 ?_
  obtain rfl := Option.some.inj h
  exact v_vret C dX0_insert_45
set_option maxRecDepth 100000 in
set_option maxHeartbeats 4000000 in
theorem r_X0_insert_p2 {p : Program} {l : Launch} {e : Env} {s : State} {m : MethodId} {args : Array Value} {below : List Frame} {meth : Method} {c : Code} {G : GG} {A : Nat → Prop} (C : Cx p s m args meth c G A cX0_insert 4 RX0 wsX0_insert none) (n : Nat) {z : Wd} : ∀ (t : Nat), ∀ (w : Wd) (a0 : Nat) (a1 : Int32) (a3 : Int32), m_X0_insert_p2 n t w a0 a1 a3 = some z → V p l e { frames := 0, cells := 0, slots := 0, locals := 0 } s m args below meth c G A 4 2 [(0, .ref a0), (1, .int a1), (3, .int a3)] [] w (none) z := by
  intro t
  induction t with
  | zero =>
    intro w a0 a1 a3 h
    rw [m_X0_insert_p2] at h
    cases h
  | succ t ih =>
    intro w a0 a1 a3 h
    rw [m_X0_insert_p2] at h
    refine v_iload_n C 2 dX0_insert_2 rfl rfl ?_
    refine v_if_le C (tgt := 38) dX0_insert_3 (by decide) (fun q => ?_) (fun q => ?_)
    · have h := ite_t q h
      exact r_X0_insert_p38 C n _ _ _ _ h
    · have h := ite_f q h
      refine v_aload_n C 0 dX0_insert_6 rfl rfl ?_
      obtain ⟨q1, e_q1, h⟩ := bnd h
      refine v_getf C (ci := 0) (k := 1) rfl inX0_insert_X0 (by decide) fX0_insert_17 dX0_insert_7 (gfR_e e_q1) ?_
      refine v_iload_n C 2 dX0_insert_10 rfl rfl ?_
      refine v_iconst C (v := 1) dX0_insert_11 (by decide) ?_
      refine v_isub C dX0_insert_12 ?_
      obtain ⟨x2, e_x2, h⟩ := bnd h
      refine v_iald C dX0_insert_13 e_x2 ?_
      refine v_iload_n C 1 dX0_insert_14 rfl rfl ?_
      refine v_at (pc' := 15) rfl ?_
      refine v_icmp_le C (tgt := 38) dX0_insert_15 (by decide) (fun q => ?_) (fun q => ?_)
      · have h := ite_t q h
        exact r_X0_insert_p38 C n _ _ _ _ h
      · have h := ite_f q h
        refine v_aload_n C 0 dX0_insert_18 rfl rfl ?_
        obtain ⟨q3, e_q3, h⟩ := bnd h
        refine v_getf C (ci := 0) (k := 1) rfl inX0_insert_X0 (by decide) fX0_insert_17 dX0_insert_19 (gfR_e e_q3) ?_
        refine v_iload_n C 2 dX0_insert_22 rfl rfl ?_
        refine v_aload_n C 0 dX0_insert_23 rfl rfl ?_
        obtain ⟨q4, e_q4, h⟩ := bnd h
        refine v_getf C (ci := 0) (k := 1) rfl inX0_insert_X0 (by decide) fX0_insert_17 dX0_insert_24 (gfR_e e_q4) ?_
        refine v_iload_n C 2 dX0_insert_27 rfl rfl ?_
        refine v_iconst C (v := 1) dX0_insert_28 (by decide) ?_
        refine v_at (pc' := 29) rfl ?_
        refine v_isub C dX0_insert_29 ?_
        obtain ⟨x5, e_x5, h⟩ := bnd h
        refine v_iald C dX0_insert_30 e_x5 ?_
        obtain ⟨w6, e_w6, h⟩ := bnd h
        refine v_iast C dX0_insert_31 e_w6 ?_
        refine v_iinc C (k := 2) (v := (a3 + (-1))) (lv' := [(3, .int (a3 + (-1))), (0, .ref a0), (1, .int a1)]) dX0_insert_32 rfl rfl (by decide) rfl ?_
        refine v_goto C (tgt := 2) dX0_insert_35 (by decide) ?_
        refine v_sub [1, 2, 0] rfl ?_
        exact ih _ _ _ _ h
set_option maxRecDepth 100000 in
set_option maxHeartbeats 4000000 in
theorem r_X0_insert {l : Launch} {G : GG} {A : Nat → Prop} {n : Nat} {w : Wd} {this : Nat} {a1 : Int32} {a2 : Int32} {z : Wd} (h : m_X0_insert n w this a1 a2 = some z) : Con l yX0_insert wsX0_insert { frames := 0, cells := 0, slots := 0, locals := 0 } G A [.ref this, .int a1, .int a2] w (none) z := by
  refine Con.of (own := RX0) (cc := cX0_insert) (maxL := 4) (ret := none) rfl (by decide) rfl (Nat.le_of_ble_eq_true rfl) ?_
  intro p e s m args below meth c C
  show V p l e { frames := 0, cells := 0, slots := 0, locals := 0 } s m args below meth c G A 4 0 [(0, .ref this), (1, .int a1), (2, .int a2)] [] w (none) z
  unfold m_X0_insert at h
  refine v_iload_n C 2 dX0_insert_0 rfl rfl ?_
  refine v_istore_n C (lv' := [(3, .int a2), (0, .ref this), (1, .int a1), (2, .int a2)]) dX0_insert_1 rfl (by decide) rfl ?_
  refine v_sub [1, 2, 0] rfl ?_
  exact r_X0_insert_p2 C n n _ _ _ _ h
theorem cX3_code_7 : Cond.constant RX3 7 (252645135) ∈ wsX3_code := by decide +kernel
theorem cX3_code_8 : Cond.constant RX3 8 (858993459) ∈ wsX3_code := by decide +kernel
theorem cX3_code_9 : Cond.constant RX3 9 (1431655765) ∈ wsX3_code := by decide +kernel
theorem cX3_code_10 : Cond.constant RX3 10 (65535) ∈ wsX3_code := by decide +kernel
set_option maxRecDepth 100000 in
set_option maxHeartbeats 4000000 in
theorem r_X3_code {l : Launch} {G : GG} {A : Nat → Prop} {w : Wd} {a0 : Int32} {a1 : Int32} {z : Int32} (h : m_X3_code a0 a1 = z) : Con l yX3_code wsX3_code { frames := 0, cells := 0, slots := 0, locals := 0 } G A [.int a0, .int a1] w (some (.int z)) w := by
  refine Con.of (own := RX3) (cc := cX3_code) (maxL := 3) (ret := (some .int)) rfl (by decide) rfl (Nat.le_of_ble_eq_true rfl) ?_
  intro p e s m args below meth c C
  show V p l e { frames := 0, cells := 0, slots := 0, locals := 0 } s m args below meth c G A 3 0 [(0, .int a0), (1, .int a1)] [] w (some (.int z)) w
  unfold m_X3_code at h
  refine v_iload_n C 1 dX3_code_0 rfl rfl ?_
  refine v_bipush C (v := 16) dX3_code_1 (by decide) ?_
  refine v_ishl C dX3_code_3 ?_
  refine v_iload_n C 0 dX3_code_4 rfl rfl ?_
  refine v_ior C dX3_code_5 ?_
  refine v_istore_n C (lv' := [(2, .int ((a1 <<< (16 &&& 31 : Int32)) ||| a0)), (0, .int a0), (1, .int a1)]) dX3_code_6 rfl (by decide) rfl ?_
  refine v_iload_n C 0 dX3_code_7 rfl rfl ?_
  refine v_at (pc' := 8) rfl ?_
  refine v_iload_n C 0 dX3_code_8 rfl rfl ?_
  refine v_iconst C (v := 4) dX3_code_9 (by decide) ?_
  refine v_ishl C dX3_code_10 ?_
  refine v_ior C dX3_code_11 ?_
  refine v_ldc C dX3_code_12 cX3_code_7 ?_
  refine v_iand C dX3_code_14 ?_
  obtain ⟨y1, e_y1, h⟩ := nmb h
  refine v_topI e_y1 ?_
  refine v_istore_n C (lv' := [(2, .int y1), (0, .int a0), (1, .int a1)]) dX3_code_15 rfl (by decide) rfl ?_
  refine v_iload_n C 0 dX3_code_16 rfl rfl ?_
  refine v_at (pc' := 17) rfl ?_
  refine v_iload_n C 0 dX3_code_17 rfl rfl ?_
  refine v_iconst C (v := 2) dX3_code_18 (by decide) ?_
  refine v_ishl C dX3_code_19 ?_
  refine v_ior C dX3_code_20 ?_
  refine v_ldc C dX3_code_21 cX3_code_8 ?_
  refine v_iand C dX3_code_23 ?_
  refine v_istore_n C (lv' := [(2, .int ((y1 ||| (y1 <<< (2 &&& 31 : Int32))) &&& 858993459)), (0, .int a0), (1, .int a1)]) dX3_code_24 rfl (by decide) rfl ?_
  refine v_iload_n C 0 dX3_code_25 rfl rfl ?_
  refine v_at (pc' := 26) rfl ?_
  refine v_iload_n C 0 dX3_code_26 rfl rfl ?_
  refine v_iconst C (v := 1) dX3_code_27 (by decide) ?_
  refine v_ishl C dX3_code_28 ?_
  refine v_ior C dX3_code_29 ?_
  refine v_ldc C dX3_code_30 cX3_code_9 ?_
  refine v_iand C dX3_code_32 ?_
  obtain ⟨y2, e_y2, h⟩ := nmb h
  refine v_topI e_y2 ?_
  refine v_istore_n C (lv' := [(2, .int y2), (0, .int a0), (1, .int a1)]) dX3_code_33 rfl (by decide) rfl ?_
  refine v_iload_n C 0 dX3_code_34 rfl rfl ?_
  refine v_at (pc' := 35) rfl ?_
  refine v_iload_n C 0 dX3_code_35 rfl rfl ?_
  refine v_bipush C (v := 15) dX3_code_36 (by decide) ?_
  refine v_ishr C dX3_code_38 ?_
  refine v_ior C dX3_code_39 ?_
  refine v_ldc C dX3_code_40 cX3_code_10 ?_
  refine v_iand C dX3_code_42 ?_
  subst h
  exact v_iret C dX3_code_43
theorem fX0_sortPoints_40 : Cond.fieldLink RX0 40 (TX4 0).1 (TX4 0).2.1 (TX4 0).2.2.1 ∈ wsX0_sortPoints := by decide +kernel
theorem inX0_sortPoints_X4 : ∀ x ∈ u_ws RX4 TX4 9, x ∈ wsX0_sortPoints := by decide +kernel
theorem fX0_sortPoints_46 : Cond.fieldLink RX0 46 (TX4 1).1 (TX4 1).2.1 (TX4 1).2.2.1 ∈ wsX0_sortPoints := by decide +kernel
theorem fX0_sortPoints_49 : Cond.fieldLink RX0 49 (TX4 2).1 (TX4 2).2.1 (TX4 2).2.2.1 ∈ wsX0_sortPoints := by decide +kernel
theorem hS_X3_code : yX3_code.cls ≠ "java/lang/invoke/MethodHandle" ∧ yX3_code.cls ≠ "java/lang/invoke/VarHandle" ∧ (parseMethodDescriptor yX3_code.desc).map (fun d => d.parameters.length) = some 2 := by decide +kernel
theorem hV_X0_insert : yX0_insert.cls = RX0 ∧ yX0_insert.cls ≠ "java/lang/invoke/MethodHandle" ∧ yX0_insert.cls ≠ "java/lang/invoke/VarHandle" ∧ (parseMethodDescriptor yX0_insert.desc).map (fun d => d.parameters.length) = some 2 := by decide +kernel
set_option maxRecDepth 100000 in
set_option maxHeartbeats 4000000 in
theorem r_X0_sortPoints_p4 {p : Program} {l : Launch} {e : Env} {s : State} {m : MethodId} {args : Array Value} {below : List Frame} {meth : Method} {c : Code} {G : GG} {A : Nat → Prop} (C : Cx p s m args meth c G A cX0_sortPoints 4 RX0 wsX0_sortPoints (some .int)) (n : Nat) {z : (Int32 × Wd)} : ∀ (t : Nat), ∀ (w : Wd) (a0 : Nat) (a1 : Nat) (a2 : Int32) (a3 : Int32), m_X0_sortPoints_p4 n t w a0 a1 a2 a3 = some z → V p l e { frames := 1, cells := 0, slots := 0, locals := 23 } s m args below meth c G A 4 4 [(0, .ref a0), (1, .ref a1), (2, .int a2), (3, .int a3)] [] w (some (.int z.1)) z.2 := by
  intro t
  induction t with
  | zero =>
    intro w a0 a1 a2 a3 h
    rw [m_X0_sortPoints_p4] at h
    cases h
  | succ t ih =>
    intro w a0 a1 a2 a3 h
    rw [m_X0_sortPoints_p4] at h
    refine v_iload_n C 3 dX0_sortPoints_4 rfl rfl ?_
    refine v_bipush C (v := 24) dX0_sortPoints_5 (by decide) ?_
    refine v_icmp_ge C (tgt := 53) dX0_sortPoints_7 (by decide) (fun q => ?_) (fun q => ?_)
    · have h := ite_t q h
      refine v_iload_n C 2 dX0_sortPoints_53 rfl rfl ?_
      obtain rfl := Option.some.inj h
      exact v_iret C dX0_sortPoints_54
    · have h := ite_f q h
      refine v_aload_n C 1 dX0_sortPoints_10 rfl rfl ?_
      obtain ⟨q1, e_q1, h⟩ := bnd h
      refine v_getf C (ci := 3) (k := 0) rfl inX0_sortPoints_X4 (by decide) fX0_sortPoints_40 dX0_sortPoints_11 (gfR_e e_q1) ?_
      refine v_iload_n C 3 dX0_sortPoints_14 rfl rfl ?_
      obtain ⟨x2, e_x2, h⟩ := bnd h
      refine v_zald C dX0_sortPoints_15 e_x2 ?_
      refine v_if_eq C (tgt := 47) dX0_sortPoints_16 (by decide) (fun q => ?_) (fun q => ?_)
      · have h := ite_t q h
        refine v_iinc C (k := 3) (v := (a3 + 1)) (lv' := [(3, .int (a3 + 1)), (0, .ref a0), (1, .ref a1), (2, .int a2)]) dX0_sortPoints_47 rfl rfl (by decide) rfl ?_
        refine v_goto C (tgt := 4) dX0_sortPoints_50 (by decide) ?_
        refine v_sub [1, 2, 3, 0] rfl ?_
        exact ih _ _ _ _ _ h
      · have h := ite_f q h
        refine v_aload_n C 0 dX0_sortPoints_19 rfl rfl ?_
        refine v_aload_n C 1 dX0_sortPoints_20 rfl rfl ?_
        obtain ⟨q3, e_q3, h⟩ := bnd h
        refine v_getf C (ci := 3) (k := 1) rfl inX0_sortPoints_X4 (by decide) fX0_sortPoints_46 dX0_sortPoints_21 (gfR_e e_q3) ?_
        refine v_iload_n C 3 dX0_sortPoints_24 rfl rfl ?_
        obtain ⟨x4, e_x4, h⟩ := bnd h
        refine v_iald C dX0_sortPoints_25 e_x4 ?_
        refine v_aload_n C 1 dX0_sortPoints_26 rfl rfl ?_
        obtain ⟨q5, e_q5, h⟩ := bnd h
        refine v_getf C (ci := 3) (k := 2) rfl inX0_sortPoints_X4 (by decide) fX0_sortPoints_49 dX0_sortPoints_27 (gfR_e e_q5) ?_
        refine v_at (pc' := 30) rfl ?_
        refine v_iload_n C 3 dX0_sortPoints_30 rfl rfl ?_
        obtain ⟨x6, e_x6, h⟩ := bnd h
        refine v_iald C dX0_sortPoints_31 e_x6 ?_
        refine v_callSi C (av := [.int x4, .int x6]) (rest := [.ref a0]) gX0_sortPoints_X3_code rfl ⟨rfl, rfl⟩ hS_X3_code ⟨(Nat.le_of_ble_eq_true rfl), (Nat.le_of_ble_eq_true rfl)⟩ (r_X3_code (A := A) rfl) rfl rfl (Nat.le_of_ble_eq_true rfl) dX0_sortPoints_32 ?_
        refine v_bipush C (v := 32) dX0_sortPoints_35 (by decide) ?_
        refine v_imul C dX0_sortPoints_37 ?_
        refine v_iload_n C 3 dX0_sortPoints_38 rfl rfl ?_
        refine v_iadd C dX0_sortPoints_39 ?_
        refine v_iload_n C 2 dX0_sortPoints_40 rfl rfl ?_
        refine v_at (pc' := 41) rfl ?_
        obtain ⟨u7, e_u7, h⟩ := bnd h
        obtain ⟨z8, e_z8, h⟩ := bnd h
        refine v_callVv C (ci := 0) (av := [.int (((m_X3_code x4 x6) * 32) + a3), .int a2]) (rest := []) rfl gX0_sortPoints_X0_insert rfl ⟨rfl, rfl⟩ hV_X0_insert ⟨(Nat.le_of_ble_eq_true rfl), (Nat.le_of_ble_eq_true rfl)⟩ e_u7 (r_X0_insert (A := A) e_z8) rfl rfl (Nat.le_of_ble_eq_true rfl) dX0_sortPoints_41 ?_
        refine v_iinc C (k := 2) (v := (a2 + 1)) (lv' := [(2, .int (a2 + 1)), (0, .ref a0), (1, .ref a1), (3, .int a3)]) dX0_sortPoints_44 rfl rfl (by decide) rfl ?_
        refine v_iinc C (k := 3) (v := (a3 + 1)) (lv' := [(3, .int (a3 + 1)), (2, .int (a2 + 1)), (0, .ref a0), (1, .ref a1)]) dX0_sortPoints_47 rfl rfl (by decide) rfl ?_
        refine v_goto C (tgt := 4) dX0_sortPoints_50 (by decide) ?_
        refine v_sub [2, 3, 1, 0] rfl ?_
        exact ih _ _ _ _ _ h
set_option maxRecDepth 100000 in
set_option maxHeartbeats 4000000 in
theorem r_X0_sortPoints {l : Launch} {G : GG} {A : Nat → Prop} {n : Nat} {w : Wd} {this : Nat} {a1 : Nat} {z : (Int32 × Wd)} (h : m_X0_sortPoints n w this a1 = some z) : Con l yX0_sortPoints wsX0_sortPoints { frames := 1, cells := 0, slots := 0, locals := 23 } G A [.ref this, .ref a1] w (some (.int z.1)) z.2 := by
  refine Con.of (own := RX0) (cc := cX0_sortPoints) (maxL := 4) (ret := (some .int)) rfl (by decide) rfl (Nat.le_of_ble_eq_true rfl) ?_
  intro p e s m args below meth c C
  show V p l e { frames := 1, cells := 0, slots := 0, locals := 23 } s m args below meth c G A 4 0 [(0, .ref this), (1, .ref a1)] [] w (some (.int z.1)) z.2
  unfold m_X0_sortPoints at h
  refine v_iconst C (v := 0) dX0_sortPoints_0 (by decide) ?_
  refine v_istore_n C (lv' := [(2, .int 0), (0, .ref this), (1, .ref a1)]) dX0_sortPoints_1 rfl (by decide) rfl ?_
  refine v_iconst C (v := 0) dX0_sortPoints_2 (by decide) ?_
  refine v_istore_n C (lv' := [(3, .int 0), (2, .int 0), (0, .ref this), (1, .ref a1)]) dX0_sortPoints_3 rfl (by decide) rfl ?_
  refine v_sub [2, 3, 1, 0] rfl ?_
  exact r_X0_sortPoints_p4 C n n _ _ _ _ _ h
theorem fX1_clear_22 : Cond.fieldLink RX1 22 (TX1 1).1 (TX1 1).2.1 (TX1 1).2.2.1 ∈ wsX1_clear := by decide +kernel
theorem inX1_clear_X1 : ∀ x ∈ u_ws RX1 TX1 4, x ∈ wsX1_clear := by decide +kernel
theorem fX1_clear_18 : Cond.fieldLink RX1 18 (TX1 3).1 (TX1 3).2.1 (TX1 3).2.2.1 ∈ wsX1_clear := by decide +kernel
set_option maxRecDepth 100000 in
set_option maxHeartbeats 4000000 in
theorem r_X1_clear {l : Launch} {G : GG} {A : Nat → Prop} {n : Nat} {w : Wd} {this : Nat} {z : Wd} (h : m_X1_clear n w this = some z) : Con l yX1_clear wsX1_clear { frames := 0, cells := 0, slots := 0, locals := 0 } G A [.ref this] w (none) z := by
  refine Con.of (own := RX1) (cc := cX1_clear) (maxL := 1) (ret := none) rfl (by decide) rfl (Nat.le_of_ble_eq_true rfl) ?_
  intro p e s m args below meth c C
  show V p l e { frames := 0, cells := 0, slots := 0, locals := 0 } s m args below meth c G A 1 0 [(0, .ref this)] [] w (none) z
  unfold m_X1_clear at h
  refine v_aload_n C 0 dX1_clear_0 rfl rfl ?_
  refine v_iconst C (v := 0) dX1_clear_1 (by decide) ?_
  obtain ⟨w1, e_w1, h⟩ := bnd h
  refine v_putf C (ci := 1) (k := 1) rfl inX1_clear_X1 tyX1_ok nmX1 (by decide) fX1_clear_22 rfl (tyX1_ok 1 (by decide)) rfl rfl dX1_clear_2 e_w1 ?_
  refine v_aload_n C 0 dX1_clear_5 rfl rfl ?_
  refine v_iconst C (v := 1) dX1_clear_6 (by decide) ?_
  obtain ⟨w2, e_w2, h⟩ := bnd h
  refine v_putf C (ci := 1) (k := 3) rfl inX1_clear_X1 tyX1_ok nmX1 (by decide) fX1_clear_18 rfl (tyX1_ok 3 (by decide)) rfl rfl dX1_clear_7 e_w2 ?_
  obtain rfl := Option.some.inj h
  exact v_vret C dX1_clear_10
theorem fX1_beginsSquare_9 : Cond.fieldLink RX1 9 (TX1 0).1 (TX1 0).2.1 (TX1 0).2.2.1 ∈ wsX1_beginsSquare := by decide +kernel
theorem inX1_beginsSquare_X1 : ∀ x ∈ u_ws RX1 TX1 4, x ∈ wsX1_beginsSquare := by decide +kernel
set_option maxRecDepth 100000 in
set_option maxHeartbeats 4000000 in
theorem r_X1_beginsSquare {l : Launch} {G : GG} {A : Nat → Prop} {n : Nat} {w : Wd} {this : Nat} {a1 : Int32} {a2 : Int32} {z : Int32} (h : m_X1_beginsSquare n w this a1 a2 = some z) : Con l yX1_beginsSquare wsX1_beginsSquare { frames := 0, cells := 0, slots := 0, locals := 0 } G A [.ref this, .int a1, .int a2] w (some (.int z)) w := by
  refine Con.of (own := RX1) (cc := cX1_beginsSquare) (maxL := 3) (ret := (some .boolean)) rfl (by decide) rfl (Nat.le_of_ble_eq_true rfl) ?_
  intro p e s m args below meth c C
  show V p l e { frames := 0, cells := 0, slots := 0, locals := 0 } s m args below meth c G A 3 0 [(0, .ref this), (1, .int a1), (2, .int a2)] [] w (some (.int z)) w
  unfold m_X1_beginsSquare at h
  refine v_iload_n C 1 dX1_beginsSquare_0 rfl rfl ?_
  refine v_if_eq C (tgt := 29) dX1_beginsSquare_1 (by decide) (fun q => ?_) (fun q => ?_)
  · have h := ite_t q h
    refine v_iconst C (v := 1) dX1_beginsSquare_29 (by decide) ?_
    refine v_goto C (tgt := 34) dX1_beginsSquare_30 (by decide) ?_
    obtain rfl := Option.some.inj h
    exact v_zret C dX1_beginsSquare_34 bo_1
  · have h := ite_f q h
    refine v_aload_n C 0 dX1_beginsSquare_4 rfl rfl ?_
    obtain ⟨q1, e_q1, h⟩ := bnd h
    refine v_getf C (ci := 1) (k := 0) rfl inX1_beginsSquare_X1 (by decide) fX1_beginsSquare_9 dX1_beginsSquare_5 (gfR_e e_q1) ?_
    refine v_iload_n C 1 dX1_beginsSquare_8 rfl rfl ?_
    refine v_iconst C (v := 1) dX1_beginsSquare_9 (by decide) ?_
    refine v_isub C dX1_beginsSquare_10 ?_
    obtain ⟨x2, e_x2, h⟩ := bnd h
    refine v_iald C dX1_beginsSquare_11 e_x2 ?_
    refine v_iconst C (v := 2) dX1_beginsSquare_12 (by decide) ?_
    refine v_at (pc' := 13) rfl ?_
    refine v_iload_n C 2 dX1_beginsSquare_13 rfl rfl ?_
    refine v_imul C dX1_beginsSquare_14 ?_
    refine v_ishr C dX1_beginsSquare_15 ?_
    refine v_aload_n C 0 dX1_beginsSquare_16 rfl rfl ?_
    obtain ⟨q3, e_q3, h⟩ := bnd h
    refine v_getf C (ci := 1) (k := 0) rfl inX1_beginsSquare_X1 (by decide) fX1_beginsSquare_9 dX1_beginsSquare_17 (gfR_e e_q3) ?_
    refine v_iload_n C 1 dX1_beginsSquare_20 rfl rfl ?_
    obtain ⟨x4, e_x4, h⟩ := bnd h
    refine v_iald C dX1_beginsSquare_21 e_x4 ?_
    refine v_iconst C (v := 2) dX1_beginsSquare_22 (by decide) ?_
    refine v_at (pc' := 23) rfl ?_
    refine v_iload_n C 2 dX1_beginsSquare_23 rfl rfl ?_
    refine v_imul C dX1_beginsSquare_24 ?_
    refine v_ishr C dX1_beginsSquare_25 ?_
    refine v_icmp_eq C (tgt := 33) dX1_beginsSquare_26 (by decide) (fun q => ?_) (fun q => ?_)
    · have h := ite_t q h
      refine v_iconst C (v := 0) dX1_beginsSquare_33 (by decide) ?_
      obtain rfl := Option.some.inj h
      exact v_zret C dX1_beginsSquare_34 bo_0
    · have h := ite_f q h
      refine v_iconst C (v := 1) dX1_beginsSquare_29 (by decide) ?_
      refine v_goto C (tgt := 34) dX1_beginsSquare_30 (by decide) ?_
      obtain rfl := Option.some.inj h
      exact v_zret C dX1_beginsSquare_34 bo_1
theorem fX1_branches_22 : Cond.fieldLink RX1 22 (TX1 1).1 (TX1 1).2.1 (TX1 1).2.2.1 ∈ wsX1_branches := by decide +kernel
theorem inX1_branches_X1 : ∀ x ∈ u_ws RX1 TX1 4, x ∈ wsX1_branches := by decide +kernel
theorem fX1_branches_9 : Cond.fieldLink RX1 9 (TX1 0).1 (TX1 0).2.1 (TX1 0).2.2.1 ∈ wsX1_branches := by decide +kernel
set_option maxRecDepth 100000 in
set_option maxHeartbeats 4000000 in
theorem r_X1_branches_p30 {p : Program} {l : Launch} {e : Env} {s : State} {m : MethodId} {args : Array Value} {below : List Frame} {meth : Method} {c : Code} {G : GG} {A : Nat → Prop} (C : Cx p s m args meth c G A cX1_branches 6 RX1 wsX1_branches (some .boolean)) (n : Nat) {z : Int32} : ∀ (t : Nat), ∀ (w : Wd) (a0 : Nat) (a2 : Int32) (a3 : Int32) (a4 : Int32) (a5 : Int32), m_X1_branches_p30 n t w a0 a2 a3 a4 a5 = some z → V p l e { frames := 0, cells := 0, slots := 0, locals := 0 } s m args below meth c G A 6 30 [(0, .ref a0), (2, .int a2), (3, .int a3), (4, .int a4), (5, .int a5)] [] w (some (.int z)) w := by
  intro t
  induction t with
  | zero =>
    intro w a0 a2 a3 a4 a5 h
    rw [m_X1_branches_p30] at h
    cases h
  | succ t ih =>
    intro w a0 a2 a3 a4 a5 h
    rw [m_X1_branches_p30] at h
    refine v_iload C 4 dX1_branches_30 rfl ?_
    refine v_aload_n C 0 dX1_branches_32 rfl rfl ?_
    obtain ⟨x1, e_x1, h⟩ := bnd h
    refine v_getf C (ci := 1) (k := 1) rfl inX1_branches_X1 (by decide) fX1_branches_22 dX1_branches_33 (gfI_e e_x1) ?_
    refine v_icmp_ge C (tgt := 80) dX1_branches_36 (by decide) (fun q => ?_) (fun q => ?_)
    · have h := ite_t q h
      refine v_iconst C (v := 0) dX1_branches_80 (by decide) ?_
      obtain rfl := Option.some.inj h
      exact v_zret C dX1_branches_81 bo_0
    · have h := ite_f q h
      refine v_aload_n C 0 dX1_branches_39 rfl rfl ?_
      obtain ⟨q2, e_q2, h⟩ := bnd h
      refine v_getf C (ci := 1) (k := 0) rfl inX1_branches_X1 (by decide) fX1_branches_9 dX1_branches_40 (gfR_e e_q2) ?_
      refine v_iload C 4 dX1_branches_43 rfl ?_
      obtain ⟨x3, e_x3, h⟩ := bnd h
      refine v_iald C dX1_branches_45 e_x3 ?_
      refine v_iconst C (v := 2) dX1_branches_46 (by decide) ?_
      refine v_iload_n C 1 dX1_branches_47 rfl rfl ?_
      refine v_imul C dX1_branches_48 ?_
      refine v_at (pc' := 49) rfl ?_
      refine v_ishr C dX1_branches_49 ?_
      refine v_iload_n C 2 dX1_branches_50 rfl rfl ?_
      refine v_icmp_ne C (tgt := 80) dX1_branches_51 (by decide) (fun q => ?_) (fun q => ?_)
      · have h := ite_f q h
        refine v_iconst C (v := 0) dX1_branches_80 (by decide) ?_
        obtain rfl := Option.some.inj h
        exact v_zret C dX1_branches_81 bo_0
      · have h := ite_t q h
        refine v_aload_n C 0 dX1_branches_54 rfl rfl ?_
        obtain ⟨q4, e_q4, h⟩ := bnd h
        refine v_getf C (ci := 1) (k := 0) rfl inX1_branches_X1 (by decide) fX1_branches_9 dX1_branches_55 (gfR_e e_q4) ?_
        refine v_iload C 4 dX1_branches_58 rfl ?_
        obtain ⟨x5, e_x5, h⟩ := bnd h
        refine v_iald C dX1_branches_60 e_x5 ?_
        refine v_iconst C (v := 2) dX1_branches_61 (by decide) ?_
        refine v_iload_n C 1 dX1_branches_62 rfl rfl ?_
        refine v_imul C dX1_branches_63 ?_
        refine v_at (pc' := 64) rfl ?_
        refine v_iconst C (v := 2) dX1_branches_64 (by decide) ?_
        refine v_isub C dX1_branches_65 ?_
        refine v_ishr C dX1_branches_66 ?_
        refine v_iload C 3 dX1_branches_67 rfl ?_
        refine v_icmp_eq C (tgt := 74) dX1_branches_69 (by decide) (fun q => ?_) (fun q => ?_)
        · have h := ite_t q h
          refine v_iinc C (k := 4) (v := (a5 + 1)) (lv' := [(5, .int (a5 + 1)), (0, .ref a0), (2, .int a2), (3, .int a3), (4, .int a4)]) dX1_branches_74 rfl rfl (by decide) rfl ?_
          refine v_goto C (tgt := 30) dX1_branches_77 (by decide) ?_
          refine v_sub [1, 2, 3, 4, 0] rfl ?_
          exact ih _ _ _ _ _ _ h
        · have h := ite_f q h
          refine v_iconst C (v := 1) dX1_branches_72 (by decide) ?_
          obtain rfl := Option.some.inj h
          exact v_zret C dX1_branches_73 bo_1
set_option maxRecDepth 100000 in
set_option maxHeartbeats 4000000 in
theorem r_X1_branches {l : Launch} {G : GG} {A : Nat → Prop} {n : Nat} {w : Wd} {this : Nat} {a1 : Int32} {a2 : Int32} {z : Int32} (h : m_X1_branches n w this a1 a2 = some z) : Con l yX1_branches wsX1_branches { frames := 0, cells := 0, slots := 0, locals := 0 } G A [.ref this, .int a1, .int a2] w (some (.int z)) w := by
  refine Con.of (own := RX1) (cc := cX1_branches) (maxL := 6) (ret := (some .boolean)) rfl (by decide) rfl (Nat.le_of_ble_eq_true rfl) ?_
  intro p e s m args below meth c C
  show V p l e { frames := 0, cells := 0, slots := 0, locals := 0 } s m args below meth c G A 6 0 [(0, .ref this), (1, .int a1), (2, .int a2)] [] w (some (.int z)) w
  unfold m_X1_branches at h
  refine v_aload_n C 0 dX1_branches_0 rfl rfl ?_
  obtain ⟨q1, e_q1, h⟩ := bnd h
  refine v_getf C (ci := 1) (k := 0) rfl inX1_branches_X1 (by decide) fX1_branches_9 dX1_branches_1 (gfR_e e_q1) ?_
  refine v_iload_n C 1 dX1_branches_4 rfl rfl ?_
  obtain ⟨x2, e_x2, h⟩ := bnd h
  refine v_iald C dX1_branches_5 e_x2 ?_
  refine v_iconst C (v := 2) dX1_branches_6 (by decide) ?_
  refine v_iload_n C 2 dX1_branches_7 rfl rfl ?_
  refine v_imul C dX1_branches_8 ?_
  refine v_at (pc' := 9) rfl ?_
  refine v_ishr C dX1_branches_9 ?_
  refine v_istore_n C (lv' := [(3, .int (x2 >>> ((2 * a2) &&& 31 : Int32))), (0, .ref this), (1, .int a1), (2, .int a2)]) dX1_branches_10 rfl (by decide) rfl ?_
  refine v_aload_n C 1 dX1_branches_11 rfl rfl ?_
  obtain ⟨q3, e_q3, h⟩ := bnd h
  refine v_getf C (ci := 1) (k := 0) rfl inX1_branches_X1 (by decide) fX1_branches_9 dX1_branches_12 (gfR_e e_q3) ?_
  refine v_iload_n C 2 dX1_branches_15 rfl rfl ?_
  obtain ⟨x4, e_x4, h⟩ := bnd h
  refine v_iald C dX1_branches_16 e_x4 ?_
  refine v_iconst C (v := 2) dX1_branches_17 (by decide) ?_
  refine v_iload_n C 3 dX1_branches_18 rfl rfl ?_
  refine v_at (pc' := 19) rfl ?_
  refine v_imul C dX1_branches_19 ?_
  refine v_iconst C (v := 2) dX1_branches_20 (by decide) ?_
  refine v_isub C dX1_branches_21 ?_
  refine v_ishr C dX1_branches_22 ?_
  refine v_istore C (lv' := [(4, .int (x4 >>> (((2 * a2) - 2) &&& 31 : Int32))), (3, .int (x2 >>> ((2 * a2) &&& 31 : Int32))), (0, .ref this), (1, .int a1), (2, .int a2)]) dX1_branches_23 (by decide) rfl ?_
  refine v_iload_n C 3 dX1_branches_25 rfl rfl ?_
  refine v_iconst C (v := 1) dX1_branches_26 (by decide) ?_
  refine v_iadd C dX1_branches_27 ?_
  refine v_at (pc' := 28) rfl ?_
  refine v_istore C (lv' := [(5, .int (a1 + 1)), (4, .int (x4 >>> (((2 * a2) - 2) &&& 31 : Int32))), (3, .int (x2 >>> ((2 * a2) &&& 31 : Int32))), (0, .ref this), (1, .int a1), (2, .int a2)]) dX1_branches_28 (by decide) rfl ?_
  refine v_sub [3, 5, 2, 1, 0] rfl ?_
  exact r_X1_branches_p30 C n n _ _ _ _ _ _ h
theorem fX1_keep_18 : Cond.fieldLink RX1 18 (TX1 3).1 (TX1 3).2.1 (TX1 3).2.2.1 ∈ wsX1_keep := by decide +kernel
theorem inX1_keep_X1 : ∀ x ∈ u_ws RX1 TX1 4, x ∈ wsX1_keep := by decide +kernel
theorem fX1_keep_15 : Cond.fieldLink RX1 15 (TX1 2).1 (TX1 2).2.1 (TX1 2).2.2.1 ∈ wsX1_keep := by decide +kernel
set_option maxRecDepth 100000 in
set_option maxHeartbeats 4000000 in
theorem r_X1_keep {l : Launch} {G : GG} {A : Nat → Prop} {n : Nat} {w : Wd} {this : Nat} {a1 : Int32} {z : Wd} (h : m_X1_keep n w this a1 = some z) : Con l yX1_keep wsX1_keep { frames := 0, cells := 0, slots := 0, locals := 0 } G A [.ref this, .int a1] w (none) z := by
  refine Con.of (own := RX1) (cc := cX1_keep) (maxL := 2) (ret := none) rfl (by decide) rfl (Nat.le_of_ble_eq_true rfl) ?_
  intro p e s m args below meth c C
  show V p l e { frames := 0, cells := 0, slots := 0, locals := 0 } s m args below meth c G A 2 0 [(0, .ref this), (1, .int a1)] [] w (none) z
  unfold m_X1_keep at h
  refine v_aload_n C 0 dX1_keep_0 rfl rfl ?_
  obtain ⟨x1, e_x1, h⟩ := bnd h
  refine v_getf C (ci := 1) (k := 3) rfl inX1_keep_X1 (by decide) fX1_keep_18 dX1_keep_1 (gfI_e e_x1) ?_
  refine v_bipush C (v := 24) dX1_keep_4 (by decide) ?_
  refine v_icmp_ge C (tgt := 29) dX1_keep_6 (by decide) (fun q => ?_) (fun q => ?_)
  · have h := ite_t q h
    obtain rfl := Option.some.inj h
    exact v_vret C dX1_keep_29
  · have h := ite_f q h
    refine v_aload_n C 0 dX1_keep_9 rfl rfl ?_
    obtain ⟨q2, e_q2, h⟩ := bnd h
    refine v_getf C (ci := 1) (k := 2) rfl inX1_keep_X1 (by decide) fX1_keep_15 dX1_keep_10 (gfR_e e_q2) ?_
    refine v_aload_n C 0 dX1_keep_13 rfl rfl ?_
    obtain ⟨x3, e_x3, h⟩ := bnd h
    refine v_getf C (ci := 1) (k := 3) rfl inX1_keep_X1 (by decide) fX1_keep_18 dX1_keep_14 (gfI_e e_x3) ?_
    refine v_iload_n C 1 dX1_keep_17 rfl rfl ?_
    obtain ⟨w4, e_w4, h⟩ := bnd h
    refine v_iast C dX1_keep_18 e_w4 ?_
    refine v_aload_n C 0 dX1_keep_19 rfl rfl ?_
    refine v_at (pc' := 20) rfl ?_
    refine v_dup C dX1_keep_20 rfl ?_
    obtain ⟨x5, e_x5, h⟩ := bnd h
    refine v_getf C (ci := 1) (k := 3) rfl inX1_keep_X1 (by decide) fX1_keep_18 dX1_keep_21 (gfI_e e_x5) ?_
    refine v_iconst C (v := 1) dX1_keep_24 (by decide) ?_
    refine v_iadd C dX1_keep_25 ?_
    obtain ⟨w6, e_w6, h⟩ := bnd h
    refine v_putf C (ci := 1) (k := 3) rfl inX1_keep_X1 tyX1_ok nmX1 (by decide) fX1_keep_18 rfl (tyX1_ok 3 (by decide)) rfl rfl dX1_keep_26 e_w6 ?_
    obtain rfl := Option.some.inj h
    exact v_vret C dX1_keep_29
set_option maxRecDepth 100000 in
set_option maxHeartbeats 4000000 in
theorem r_X3_around {l : Launch} {G : GG} {A : Nat → Prop} {w : Wd} {a0 : Int32} {a1 : Int32} {z : Int32} (h : m_X3_around a0 a1 = z) : Con l yX3_around wsX3_around { frames := 0, cells := 0, slots := 0, locals := 0 } G A [.int a0, .int a1] w (some (.int z)) w := by
  refine Con.of (own := RX3) (cc := cX3_around) (maxL := 3) (ret := (some .int)) rfl (by decide) rfl (Nat.le_of_ble_eq_true rfl) ?_
  intro p e s m args below meth c C
  show V p l e { frames := 0, cells := 0, slots := 0, locals := 0 } s m args below meth c G A 3 0 [(0, .int a0), (1, .int a1)] [] w (some (.int z)) w
  unfold m_X3_around at h
  refine v_iload_n C 0 dX3_around_0 rfl rfl ?_
  refine v_iconst C (v := 2) dX3_around_1 (by decide) ?_
  refine v_iload_n C 1 dX3_around_2 rfl rfl ?_
  refine v_imul C dX3_around_3 ?_
  refine v_ishr C dX3_around_4 ?_
  refine v_iconst C (v := 2) dX3_around_5 (by decide) ?_
  refine v_iload_n C 1 dX3_around_6 rfl rfl ?_
  refine v_at (pc' := 7) rfl ?_
  refine v_imul C dX3_around_7 ?_
  refine v_ishl C dX3_around_8 ?_
  refine v_istore_n C (lv' := [(2, .int ((a0 >>> ((2 * a1) &&& 31 : Int32)) <<< ((2 * a1) &&& 31 : Int32))), (0, .int a0), (1, .int a1)]) dX3_around_9 rfl (by decide) rfl ?_
  refine v_iload_n C 0 dX3_around_10 rfl rfl ?_
  refine v_bipush C (v := 8) dX3_around_11 (by decide) ?_
  refine v_imul C dX3_around_13 ?_
  refine v_bipush C (v := 6) dX3_around_14 (by decide) ?_
  refine v_iadd C dX3_around_16 ?_
  refine v_at (pc' := 17) rfl ?_
  refine v_iload_n C 2 dX3_around_17 rfl rfl ?_
  refine v_isub C dX3_around_18 ?_
  subst h
  exact v_iret C dX3_around_19
theorem hV_X1_beginsSquare : yX1_beginsSquare.cls = RX1 ∧ yX1_beginsSquare.cls ≠ "java/lang/invoke/MethodHandle" ∧ yX1_beginsSquare.cls ≠ "java/lang/invoke/VarHandle" ∧ (parseMethodDescriptor yX1_beginsSquare.desc).map (fun d => d.parameters.length) = some 2 := by decide +kernel
theorem hV_X1_branches : yX1_branches.cls = RX1 ∧ yX1_branches.cls ≠ "java/lang/invoke/MethodHandle" ∧ yX1_branches.cls ≠ "java/lang/invoke/VarHandle" ∧ (parseMethodDescriptor yX1_branches.desc).map (fun d => d.parameters.length) = some 2 := by decide +kernel
theorem fX1_findNodes_9 : Cond.fieldLink RX1 9 (TX1 0).1 (TX1 0).2.1 (TX1 0).2.2.1 ∈ wsX1_findNodes := by decide +kernel
theorem inX1_findNodes_X1 : ∀ x ∈ u_ws RX1 TX1 4, x ∈ wsX1_findNodes := by decide +kernel
theorem hS_X3_around : yX3_around.cls ≠ "java/lang/invoke/MethodHandle" ∧ yX3_around.cls ≠ "java/lang/invoke/VarHandle" ∧ (parseMethodDescriptor yX3_around.desc).map (fun d => d.parameters.length) = some 2 := by decide +kernel
theorem hV_X1_keep : yX1_keep.cls = RX1 ∧ yX1_keep.cls ≠ "java/lang/invoke/MethodHandle" ∧ yX1_keep.cls ≠ "java/lang/invoke/VarHandle" ∧ (parseMethodDescriptor yX1_keep.desc).map (fun d => d.parameters.length) = some 1 := by decide +kernel
theorem fX1_findNodes_22 : Cond.fieldLink RX1 22 (TX1 1).1 (TX1 1).2.1 (TX1 1).2.2.1 ∈ wsX1_findNodes := by decide +kernel
set_option maxRecDepth 100000 in
set_option maxHeartbeats 4000000 in
theorem r_X1_findNodes_p12 {p : Program} {l : Launch} {e : Env} {s : State} {m : MethodId} {args : Array Value} {below : List Frame} {meth : Method} {c : Code} {G : GG} {A : Nat → Prop} (C : Cx p s m args meth c G A cX1_findNodes 3 RX1 wsX1_findNodes none) (n : Nat) {k2 : Wd → Nat → Int32 → Option Wd} {z : Wd} (H2 : ∀ (w : Wd) (b0 : Nat) (b1 : Int32), k2 w b0 b1 = some z → V p l e { frames := 1, cells := 0, slots := 0, locals := 25 } s m args below meth c G A 3 2 [(0, .ref b0), (1, .int b1)] [] w (none) z) : ∀ (t : Nat), ∀ (w : Wd) (a0 : Nat) (a1 : Int32) (a2 : Int32), m_X1_findNodes_p12 n k2 t w a0 a1 a2 = some z → V p l e { frames := 1, cells := 0, slots := 0, locals := 25 } s m args below meth c G A 3 12 [(0, .ref a0), (1, .int a1), (2, .int a2)] [] w (none) z := by
  intro t
  induction t with
  | zero =>
    intro w a0 a1 a2 h
    rw [m_X1_findNodes_p12] at h
    cases h
  | succ t ih =>
    intro w a0 a1 a2 h
    rw [m_X1_findNodes_p12] at h
    refine v_iload_n C 2 dX1_findNodes_12 rfl rfl ?_
    refine v_if_le C (tgt := 54) dX1_findNodes_13 (by decide) (fun q => ?_) (fun q => ?_)
    · have h := ite_t q h
      refine v_iinc C (k := 1) (v := (a1 + 1)) (lv' := [(1, .int (a1 + 1)), (0, .ref a0), (2, .int a2)]) dX1_findNodes_54 rfl rfl (by decide) rfl ?_
      refine v_goto C (tgt := 2) dX1_findNodes_57 (by decide) ?_
      refine v_sub [1, 0] rfl ?_
      exact H2 _ _ _ h
    · have h := ite_f q h
      refine v_aload_n C 0 dX1_findNodes_16 rfl rfl ?_
      refine v_iload_n C 1 dX1_findNodes_17 rfl rfl ?_
      refine v_iload_n C 2 dX1_findNodes_18 rfl rfl ?_
      obtain ⟨u1, e_u1, h⟩ := bnd h
      obtain ⟨x2, e_x2, h⟩ := bnd h
      refine v_callVi C (ci := 1) (av := [.int a1, .int a2]) (rest := []) rfl gX1_findNodes_X1_beginsSquare rfl ⟨rfl, rfl⟩ hV_X1_beginsSquare ⟨(Nat.le_of_ble_eq_true rfl), (Nat.le_of_ble_eq_true rfl)⟩ e_u1 (r_X1_beginsSquare (A := A) e_x2) rfl rfl (Nat.le_of_ble_eq_true rfl) dX1_findNodes_19 ?_
      refine v_if_eq C (tgt := 48) dX1_findNodes_22 (by decide) (fun q => ?_) (fun q => ?_)
      · have h := ite_t q h
        refine v_iinc C (k := 2) (v := (a2 + (-1))) (lv' := [(2, .int (a2 + (-1))), (0, .ref a0), (1, .int a1)]) dX1_findNodes_48 rfl rfl (by decide) rfl ?_
        refine v_goto C (tgt := 12) dX1_findNodes_51 (by decide) ?_
        refine v_sub [1, 2, 0] rfl ?_
        exact ih _ _ _ _ h
      · have h := ite_f q h
        refine v_aload_n C 0 dX1_findNodes_25 rfl rfl ?_
        refine v_iload_n C 1 dX1_findNodes_26 rfl rfl ?_
        refine v_iload_n C 2 dX1_findNodes_27 rfl rfl ?_
        obtain ⟨u3, e_u3, h⟩ := bnd h
        obtain ⟨x4, e_x4, h⟩ := bnd h
        refine v_callVi C (ci := 1) (av := [.int a1, .int a2]) (rest := []) rfl gX1_findNodes_X1_branches rfl ⟨rfl, rfl⟩ hV_X1_branches ⟨(Nat.le_of_ble_eq_true rfl), (Nat.le_of_ble_eq_true rfl)⟩ e_u3 (r_X1_branches (A := A) e_x4) rfl rfl (Nat.le_of_ble_eq_true rfl) dX1_findNodes_28 ?_
        refine v_if_eq C (tgt := 48) dX1_findNodes_31 (by decide) (fun q => ?_) (fun q => ?_)
        · have h := ite_t q h
          refine v_iinc C (k := 2) (v := (a2 + (-1))) (lv' := [(2, .int (a2 + (-1))), (0, .ref a0), (1, .int a1)]) dX1_findNodes_48 rfl rfl (by decide) rfl ?_
          refine v_goto C (tgt := 12) dX1_findNodes_51 (by decide) ?_
          refine v_sub [1, 2, 0] rfl ?_
          exact ih _ _ _ _ h
        · have h := ite_f q h
          refine v_aload_n C 0 dX1_findNodes_34 rfl rfl ?_
          refine v_aload_n C 0 dX1_findNodes_35 rfl rfl ?_
          obtain ⟨q5, e_q5, h⟩ := bnd h
          refine v_getf C (ci := 1) (k := 0) rfl inX1_findNodes_X1 (by decide) fX1_findNodes_9 dX1_findNodes_36 (gfR_e e_q5) ?_
          refine v_iload_n C 1 dX1_findNodes_39 rfl rfl ?_
          obtain ⟨x6, e_x6, h⟩ := bnd h
          refine v_iald C dX1_findNodes_40 e_x6 ?_
          refine v_iload_n C 2 dX1_findNodes_41 rfl rfl ?_
          refine v_callSi C (av := [.int x6, .int a2]) (rest := [.ref a0]) gX1_findNodes_X3_around rfl ⟨rfl, rfl⟩ hS_X3_around ⟨(Nat.le_of_ble_eq_true rfl), (Nat.le_of_ble_eq_true rfl)⟩ (r_X3_around (A := A) rfl) rfl rfl (Nat.le_of_ble_eq_true rfl) dX1_findNodes_42 ?_
          refine v_at (pc' := 45) rfl ?_
          obtain ⟨u7, e_u7, h⟩ := bnd h
          obtain ⟨z8, e_z8, h⟩ := bnd h
          refine v_callVv C (ci := 1) (av := [.int (m_X3_around x6 a2)]) (rest := []) rfl gX1_findNodes_X1_keep rfl ⟨rfl, rfl⟩ hV_X1_keep ⟨(Nat.le_of_ble_eq_true rfl), (Nat.le_of_ble_eq_true rfl)⟩ e_u7 (r_X1_keep (A := A) e_z8) rfl rfl (Nat.le_of_ble_eq_true rfl) dX1_findNodes_45 ?_
          refine v_iinc C (k := 2) (v := (a2 + (-1))) (lv' := [(2, .int (a2 + (-1))), (0, .ref a0), (1, .int a1)]) dX1_findNodes_48 rfl rfl (by decide) rfl ?_
          refine v_goto C (tgt := 12) dX1_findNodes_51 (by decide) ?_
          refine v_sub [1, 2, 0] rfl ?_
          exact ih _ _ _ _ h
set_option maxRecDepth 100000 in
set_option maxHeartbeats 4000000 in
theorem r_X1_findNodes_p2 {p : Program} {l : Launch} {e : Env} {s : State} {m : MethodId} {args : Array Value} {below : List Frame} {meth : Method} {c : Code} {G : GG} {A : Nat → Prop} (C : Cx p s m args meth c G A cX1_findNodes 3 RX1 wsX1_findNodes none) (n : Nat) {z : Wd} : ∀ (t : Nat), ∀ (w : Wd) (a0 : Nat) (a1 : Int32), m_X1_findNodes_p2 n t w a0 a1 = some z → V p l e { frames := 1, cells := 0, slots := 0, locals := 25 } s m args below meth c G A 3 2 [(0, .ref a0), (1, .int a1)] [] w (none) z := by
  intro t
  induction t with
  | zero =>
    intro w a0 a1 h
    rw [m_X1_findNodes_p2] at h
    cases h
  | succ t ih =>
    intro w a0 a1 h
    rw [m_X1_findNodes_p2] at h
    refine v_iload_n C 1 dX1_findNodes_2 rfl rfl ?_
    refine v_aload_n C 0 dX1_findNodes_3 rfl rfl ?_
    obtain ⟨x1, e_x1, h⟩ := bnd h
    refine v_getf C (ci := 1) (k := 1) rfl inX1_findNodes_X1 (by decide) fX1_findNodes_22 dX1_findNodes_4 (gfI_e e_x1) ?_
    refine v_icmp_ge C (tgt := 60) dX1_findNodes_7 (by decide) (fun q => ?_) (fun q => ?_)
    · have h := ite_t q h
      obtain rfl := Option.some.inj h
      exact v_vret C dX1_findNodes_60
    · have h := ite_f q h
      refine v_iconst C (v := 5) dX1_findNodes_10 (by decide) ?_
      refine v_istore_n C (lv' := [(2, .int 5), (0, .ref a0), (1, .int a1)]) dX1_findNodes_11 rfl (by decide) rfl ?_
      refine v_sub [1, 2, 0] rfl ?_
      exact r_X1_findNodes_p12 C n ih n _ _ _ _ h
set_option maxRecDepth 100000 in
set_option maxHeartbeats 4000000 in
theorem r_X1_findNodes {l : Launch} {G : GG} {A : Nat → Prop} {n : Nat} {w : Wd} {this : Nat} {z : Wd} (h : m_X1_findNodes n w this = some z) : Con l yX1_findNodes wsX1_findNodes { frames := 1, cells := 0, slots := 0, locals := 25 } G A [.ref this] w (none) z := by
  refine Con.of (own := RX1) (cc := cX1_findNodes) (maxL := 3) (ret := none) rfl (by decide) rfl (Nat.le_of_ble_eq_true rfl) ?_
  intro p e s m args below meth c C
  show V p l e { frames := 1, cells := 0, slots := 0, locals := 25 } s m args below meth c G A 3 0 [(0, .ref this)] [] w (none) z
  unfold m_X1_findNodes at h
  refine v_iconst C (v := 0) dX1_findNodes_0 (by decide) ?_
  refine v_istore_n C (lv' := [(1, .int 0), (0, .ref this)]) dX1_findNodes_1 rfl (by decide) rfl ?_
  refine v_sub [1, 0] rfl ?_
  exact r_X1_findNodes_p2 C n n _ _ _ h
theorem fX1_take_22 : Cond.fieldLink RX1 22 (TX1 1).1 (TX1 1).2.1 (TX1 1).2.2.1 ∈ wsX1_take := by decide +kernel
theorem inX1_take_X1 : ∀ x ∈ u_ws RX1 TX1 4, x ∈ wsX1_take := by decide +kernel
theorem fX1_take_9 : Cond.fieldLink RX1 9 (TX1 0).1 (TX1 0).2.1 (TX1 0).2.2.1 ∈ wsX1_take := by decide +kernel
set_option maxRecDepth 100000 in
set_option maxHeartbeats 4000000 in
theorem r_X1_take {l : Launch} {G : GG} {A : Nat → Prop} {n : Nat} {w : Wd} {this : Nat} {a1 : Int32} {z : Wd} (h : m_X1_take n w this a1 = some z) : Con l yX1_take wsX1_take { frames := 0, cells := 0, slots := 0, locals := 0 } G A [.ref this, .int a1] w (none) z := by
  refine Con.of (own := RX1) (cc := cX1_take) (maxL := 2) (ret := none) rfl (by decide) rfl (Nat.le_of_ble_eq_true rfl) ?_
  intro p e s m args below meth c C
  show V p l e { frames := 0, cells := 0, slots := 0, locals := 0 } s m args below meth c G A 2 0 [(0, .ref this), (1, .int a1)] [] w (none) z
  unfold m_X1_take at h
  refine v_aload_n C 0 dX1_take_0 rfl rfl ?_
  obtain ⟨x1, e_x1, h⟩ := bnd h
  refine v_getf C (ci := 1) (k := 1) rfl inX1_take_X1 (by decide) fX1_take_22 dX1_take_1 (gfI_e e_x1) ?_
  refine v_bipush C (v := 24) dX1_take_4 (by decide) ?_
  refine v_icmp_ge C (tgt := 29) dX1_take_6 (by decide) (fun q => ?_) (fun q => ?_)
  · have h := ite_t q h
    obtain rfl := Option.some.inj h
    exact v_vret C dX1_take_29
  · have h := ite_f q h
    refine v_aload_n C 0 dX1_take_9 rfl rfl ?_
    obtain ⟨q2, e_q2, h⟩ := bnd h
    refine v_getf C (ci := 1) (k := 0) rfl inX1_take_X1 (by decide) fX1_take_9 dX1_take_10 (gfR_e e_q2) ?_
    refine v_aload_n C 0 dX1_take_13 rfl rfl ?_
    obtain ⟨x3, e_x3, h⟩ := bnd h
    refine v_getf C (ci := 1) (k := 1) rfl inX1_take_X1 (by decide) fX1_take_22 dX1_take_14 (gfI_e e_x3) ?_
    refine v_iload_n C 1 dX1_take_17 rfl rfl ?_
    obtain ⟨w4, e_w4, h⟩ := bnd h
    refine v_iast C dX1_take_18 e_w4 ?_
    refine v_aload_n C 0 dX1_take_19 rfl rfl ?_
    refine v_at (pc' := 20) rfl ?_
    refine v_dup C dX1_take_20 rfl ?_
    obtain ⟨x5, e_x5, h⟩ := bnd h
    refine v_getf C (ci := 1) (k := 1) rfl inX1_take_X1 (by decide) fX1_take_22 dX1_take_21 (gfI_e e_x5) ?_
    refine v_iconst C (v := 1) dX1_take_24 (by decide) ?_
    refine v_iadd C dX1_take_25 ?_
    obtain ⟨w6, e_w6, h⟩ := bnd h
    refine v_putf C (ci := 1) (k := 1) rfl inX1_take_X1 tyX1_ok nmX1 (by decide) fX1_take_22 rfl (tyX1_ok 1 (by decide)) rfl rfl dX1_take_26 e_w6 ?_
    obtain rfl := Option.some.inj h
    exact v_vret C dX1_take_29
set_option maxRecDepth 100000 in
set_option maxHeartbeats 4000000 in
theorem r_X6_heightOf_p6 {p : Program} {l : Launch} {e : Env} {s : State} {m : MethodId} {args : Array Value} {below : List Frame} {meth : Method} {c : Code} {G : GG} {A : Nat → Prop} (C : Cx p s m args meth c G A cX6_heightOf 3 RX6 wsX6_heightOf (some .int)) (n : Nat) {z : Int32} : ∀ (t : Nat), ∀ (w : Wd) (a1 : Int32) (a2 : Int32), m_X6_heightOf_p6 n t w a1 a2 = some z → V p l e { frames := 0, cells := 0, slots := 0, locals := 0 } s m args below meth c G A 3 6 [(1, .int a1), (2, .int a2)] [] w (some (.int z)) w := by
  intro t
  induction t with
  | zero =>
    intro w a1 a2 h
    rw [m_X6_heightOf_p6] at h
    cases h
  | succ t ih =>
    intro w a1 a2 h
    rw [m_X6_heightOf_p6] at h
    refine v_iload_n C 0 dX6_heightOf_6 rfl rfl ?_
    refine v_iconst C (v := 4) dX6_heightOf_7 (by decide) ?_
    refine v_icmp_ge C (tgt := 27) dX6_heightOf_8 (by decide) (fun q => ?_) (fun q => ?_)
    · have h := ite_t q h
      refine v_iload_n C 0 dX6_heightOf_27 rfl rfl ?_
      obtain rfl := Option.some.inj h
      exact v_iret C dX6_heightOf_28
    · have h := ite_f q h
      refine v_iload_n C 1 dX6_heightOf_11 rfl rfl ?_
      refine v_iconst C (v := 2) dX6_heightOf_12 (by decide) ?_
      refine v_irem C dX6_heightOf_13 (by decide) ?_
      refine v_if_ne C (tgt := 27) dX6_heightOf_14 (by decide) (fun q => ?_) (fun q => ?_)
      · have h := ite_f q h
        refine v_iload_n C 0 dX6_heightOf_27 rfl rfl ?_
        obtain rfl := Option.some.inj h
        exact v_iret C dX6_heightOf_28
      · have h := ite_t q h
        refine v_iinc C (k := 0) (v := (a1 + 1)) (lv' := [(1, .int (a1 + 1)), (2, .int a2)]) dX6_heightOf_17 rfl rfl (by decide) rfl ?_
        refine v_iload_n C 1 dX6_heightOf_20 rfl rfl ?_
        refine v_iconst C (v := 2) dX6_heightOf_21 (by decide) ?_
        refine v_idiv C dX6_heightOf_22 (by decide) ?_
        refine v_istore_n C (lv' := [(2, .int (a2 / 2)), (1, .int (a1 + 1))]) dX6_heightOf_23 rfl (by decide) rfl ?_
        refine v_goto C (tgt := 6) dX6_heightOf_24 (by decide) ?_
        refine v_sub [1, 0] rfl ?_
        exact ih _ _ _ h
set_option maxRecDepth 100000 in
set_option maxHeartbeats 4000000 in
theorem r_X6_heightOf {l : Launch} {G : GG} {A : Nat → Prop} {n : Nat} {w : Wd} {a0 : Int32} {z : Int32} (h : m_X6_heightOf n w a0 = some z) : Con l yX6_heightOf wsX6_heightOf { frames := 0, cells := 0, slots := 0, locals := 0 } G A [.int a0] w (some (.int z)) w := by
  refine Con.of (own := RX6) (cc := cX6_heightOf) (maxL := 3) (ret := (some .int)) rfl (by decide) rfl (Nat.le_of_ble_eq_true rfl) ?_
  intro p e s m args below meth c C
  show V p l e { frames := 0, cells := 0, slots := 0, locals := 0 } s m args below meth c G A 3 0 [(0, .int a0)] [] w (some (.int z)) w
  unfold m_X6_heightOf at h
  refine v_iconst C (v := 0) dX6_heightOf_0 (by decide) ?_
  refine v_istore_n C (lv' := [(1, .int 0), (0, .int a0)]) dX6_heightOf_1 rfl (by decide) rfl ?_
  refine v_iload_n C 1 dX6_heightOf_2 rfl rfl ?_
  refine v_iconst C (v := 1) dX6_heightOf_3 (by decide) ?_
  refine v_iadd C dX6_heightOf_4 ?_
  refine v_istore_n C (lv' := [(2, .int (a0 + 1)), (1, .int 0), (0, .int a0)]) dX6_heightOf_5 rfl (by decide) rfl ?_
  refine v_sub [1, 0] rfl ?_
  exact r_X6_heightOf_p6 C n n _ _ _ h
theorem fX0_plant_11 : Cond.fieldLink RX0 11 (TX0 0).1 (TX0 0).2.1 (TX0 0).2.2.1 ∈ wsX0_plant := by decide +kernel
theorem inX0_plant_X0 : ∀ x ∈ u_ws RX0 TX0 2, x ∈ wsX0_plant := by decide +kernel
theorem fX0_plant_17 : Cond.fieldLink RX0 17 (TX0 1).1 (TX0 1).2.1 (TX0 1).2.2.1 ∈ wsX0_plant := by decide +kernel
theorem hV_X1_take : yX1_take.cls = RX1 ∧ yX1_take.cls ≠ "java/lang/invoke/MethodHandle" ∧ yX1_take.cls ≠ "java/lang/invoke/VarHandle" ∧ (parseMethodDescriptor yX1_take.desc).map (fun d => d.parameters.length) = some 1 := by decide +kernel
theorem hV_X1_findNodes : yX1_findNodes.cls = RX1 ∧ yX1_findNodes.cls ≠ "java/lang/invoke/MethodHandle" ∧ yX1_findNodes.cls ≠ "java/lang/invoke/VarHandle" ∧ (parseMethodDescriptor yX1_findNodes.desc).map (fun d => d.parameters.length) = some 0 := by decide +kernel
theorem hS_X6_heightOf : yX6_heightOf.cls ≠ "java/lang/invoke/MethodHandle" ∧ yX6_heightOf.cls ≠ "java/lang/invoke/VarHandle" ∧ (parseMethodDescriptor yX6_heightOf.desc).map (fun d => d.parameters.length) = some 1 := by decide +kernel
theorem niX0_plant_X6_heightOf : Cond.initialized yX6_heightOf.cls ∈ wsX0_plant := by decide +kernel
theorem nsX0_plant_X6_heightOf : Cond.static yX6_heightOf ∈ wsX0_plant := by decide +kernel
theorem hV_X1_clear : yX1_clear.cls = RX1 ∧ yX1_clear.cls ≠ "java/lang/invoke/MethodHandle" ∧ yX1_clear.cls ≠ "java/lang/invoke/VarHandle" ∧ (parseMethodDescriptor yX1_clear.desc).map (fun d => d.parameters.length) = some 0 := by decide +kernel
theorem hV_X0_sortPoints : yX0_sortPoints.cls = RX0 ∧ yX0_sortPoints.cls ≠ "java/lang/invoke/MethodHandle" ∧ yX0_sortPoints.cls ≠ "java/lang/invoke/VarHandle" ∧ (parseMethodDescriptor yX0_sortPoints.desc).map (fun d => d.parameters.length) = some 1 := by decide +kernel
set_option maxRecDepth 100000 in
set_option maxHeartbeats 4000000 in
theorem r_X0_plant_p52 {p : Program} {l : Launch} {e : Env} {s : State} {m : MethodId} {args : Array Value} {below : List Frame} {meth : Method} {c : Code} {G : GG} {A : Nat → Prop} (C : Cx p s m args meth c G A cX0_plant 6 RX0 wsX0_plant none) (n : Nat) {k30 : Wd → Nat → Int32 → Int32 → Option Wd} {z : Wd} (H30 : ∀ (w : Wd) (b0 : Nat) (b2 : Int32) (b3 : Int32), k30 w b0 b2 b3 = some z → V p l e { frames := 2, cells := 0, slots := 0, locals := 47 } s m args below meth c G A 6 30 [(0, .ref b0), (2, .int b2), (3, .int b3)] [] w (none) z) : ∀ (t : Nat), ∀ (w : Wd) (a0 : Nat) (a2 : Int32) (a3 : Int32) (a4 : Int32) (a5 : Int32), m_X0_plant_p52 n k30 t w a0 a2 a3 a4 a5 = some z → V p l e { frames := 2, cells := 0, slots := 0, locals := 47 } s m args below meth c G A 6 52 [(0, .ref a0), (2, .int a2), (3, .int a3), (4, .int a4), (5, .int a5)] [] w (none) z := by
  intro t
  induction t with
  | zero =>
    intro w a0 a2 a3 a4 a5 h
    rw [m_X0_plant_p52] at h
    cases h
  | succ t ih =>
    intro w a0 a2 a3 a4 a5 h
    rw [m_X0_plant_p52] at h
    refine v_iload C 4 dX0_plant_52 rfl ?_
    refine v_iload C 3 dX0_plant_54 rfl ?_
    refine v_icmp_gt C (tgt := 84) dX0_plant_56 (by decide) (fun q => ?_) (fun q => ?_)
    · have h := ite_t q h
      refine v_iinc C (k := 2) (v := (a3 + 1)) (lv' := [(3, .int (a3 + 1)), (0, .ref a0), (2, .int a2), (4, .int a4), (5, .int a5)]) dX0_plant_84 rfl rfl (by decide) rfl ?_
      refine v_goto C (tgt := 30) dX0_plant_87 (by decide) ?_
      refine v_sub [1, 2, 0] rfl ?_
      exact H30 _ _ _ _ h
    · have h := ite_f q h
      refine v_aload_n C 0 dX0_plant_59 rfl rfl ?_
      obtain ⟨q1, e_q1, h⟩ := bnd h
      refine v_getf C (ci := 0) (k := 0) rfl inX0_plant_X0 (by decide) fX0_plant_11 dX0_plant_60 (gfR_e e_q1) ?_
      refine v_iload C 4 dX0_plant_63 rfl ?_
      obtain ⟨q2, e_q2, h⟩ := bnd h
      refine v_aald3 C dX0_plant_65 e_q2 ?_
      refine v_aload_n C 0 dX0_plant_66 rfl rfl ?_
      obtain ⟨q3, e_q3, h⟩ := bnd h
      refine v_getf C (ci := 0) (k := 1) rfl inX0_plant_X0 (by decide) fX0_plant_17 dX0_plant_67 (gfR_e e_q3) ?_
      refine v_iload_n C 2 dX0_plant_70 rfl rfl ?_
      refine v_at (pc' := 71) rfl ?_
      obtain ⟨x4, e_x4, h⟩ := bnd h
      refine v_iald C dX0_plant_71 e_x4 ?_
      refine v_bipush C (v := 32) dX0_plant_72 (by decide) ?_
      refine v_idiv C dX0_plant_74 (by decide) ?_
      obtain ⟨u5, e_u5, h⟩ := bnd h
      obtain ⟨z6, e_z6, h⟩ := bnd h
      refine v_callVv C (ci := 1) (av := [.int (x4 / 32)]) (rest := []) rfl gX0_plant_X1_take rfl ⟨rfl, rfl⟩ hV_X1_take ⟨(Nat.le_of_ble_eq_true rfl), (Nat.le_of_ble_eq_true rfl)⟩ e_u5 (r_X1_take (A := A) e_z6) rfl rfl (Nat.le_of_ble_eq_true rfl) dX0_plant_75 ?_
      refine v_iinc C (k := 4) (v := (a5 + 1)) (lv' := [(5, .int (a5 + 1)), (0, .ref a0), (2, .int a2), (3, .int a3), (4, .int a4)]) dX0_plant_78 rfl rfl (by decide) rfl ?_
      refine v_goto C (tgt := 52) dX0_plant_81 (by decide) ?_
      refine v_sub [1, 2, 3, 4, 0] rfl ?_
      exact ih _ _ _ _ _ _ h
set_option maxRecDepth 100000 in
set_option maxHeartbeats 4000000 in
theorem r_X0_plant_p92 {p : Program} {l : Launch} {e : Env} {s : State} {m : MethodId} {args : Array Value} {below : List Frame} {meth : Method} {c : Code} {G : GG} {A : Nat → Prop} (C : Cx p s m args meth c G A cX0_plant 6 RX0 wsX0_plant none) (n : Nat) {z : Wd} : ∀ (t : Nat), ∀ (w : Wd) (a0 : Nat) (a3 : Int32), m_X0_plant_p92 n t w a0 a3 = some z → V p l e { frames := 2, cells := 0, slots := 0, locals := 47 } s m args below meth c G A 6 92 [(0, .ref a0), (3, .int a3)] [] w (none) z := by
  intro t
  induction t with
  | zero =>
    intro w a0 a3 h
    rw [m_X0_plant_p92] at h
    cases h
  | succ t ih =>
    intro w a0 a3 h
    rw [m_X0_plant_p92] at h
    refine v_iload_n C 1 dX0_plant_92 rfl rfl ?_
    refine v_iconst C (v := 5) dX0_plant_93 (by decide) ?_
    refine v_icmp_ge C (tgt := 112) dX0_plant_94 (by decide) (fun q => ?_) (fun q => ?_)
    · have h := ite_t q h
      obtain rfl := Option.some.inj h
      exact v_vret C dX0_plant_112
    · have h := ite_f q h
      refine v_aload_n C 0 dX0_plant_97 rfl rfl ?_
      obtain ⟨q1, e_q1, h⟩ := bnd h
      refine v_getf C (ci := 0) (k := 0) rfl inX0_plant_X0 (by decide) fX0_plant_11 dX0_plant_98 (gfR_e e_q1) ?_
      refine v_iload_n C 1 dX0_plant_101 rfl rfl ?_
      obtain ⟨q2, e_q2, h⟩ := bnd h
      refine v_aald3 C dX0_plant_102 e_q2 ?_
      obtain ⟨u3, e_u3, h⟩ := bnd h
      obtain ⟨z4, e_z4, h⟩ := bnd h
      refine v_callVv C (ci := 1) (av := []) (rest := []) rfl gX0_plant_X1_findNodes rfl ⟨rfl, rfl⟩ hV_X1_findNodes ⟨(Nat.le_of_ble_eq_true rfl), (Nat.le_of_ble_eq_true rfl)⟩ e_u3 (r_X1_findNodes (A := A) e_z4) rfl rfl (Nat.le_of_ble_eq_true rfl) dX0_plant_103 ?_
      refine v_iinc C (k := 1) (v := (a3 + 1)) (lv' := [(3, .int (a3 + 1)), (0, .ref a0)]) dX0_plant_106 rfl rfl (by decide) rfl ?_
      refine v_goto C (tgt := 92) dX0_plant_109 (by decide) ?_
      refine v_sub [1, 0] rfl ?_
      exact ih _ _ _ h
set_option maxRecDepth 100000 in
set_option maxHeartbeats 4000000 in
theorem r_X0_plant_p90 {p : Program} {l : Launch} {e : Env} {s : State} {m : MethodId} {args : Array Value} {below : List Frame} {meth : Method} {c : Code} {G : GG} {A : Nat → Prop} (C : Cx p s m args meth c G A cX0_plant 6 RX0 wsX0_plant none) (n : Nat) {z : Wd} : ∀ (w : Wd) (a0 : Nat), m_X0_plant_p90 n w a0 = some z → V p l e { frames := 2, cells := 0, slots := 0, locals := 47 } s m args below meth c G A 6 90 [(0, .ref a0)] [] w (none) z := by
  intro w a0 h
  unfold m_X0_plant_p90 at h
  refine v_iconst C (v := 0) dX0_plant_90 (by decide) ?_
  refine v_istore_n C (lv' := [(3, .int 0), (0, .ref a0)]) dX0_plant_91 rfl (by decide) rfl ?_
  refine v_sub [1, 0] rfl ?_
  exact r_X0_plant_p92 C n n _ _ _ h
set_option maxRecDepth 100000 in
set_option maxHeartbeats 4000000 in
theorem r_X0_plant_p30 {p : Program} {l : Launch} {e : Env} {s : State} {m : MethodId} {args : Array Value} {below : List Frame} {meth : Method} {c : Code} {G : GG} {A : Nat → Prop} (C : Cx p s m args meth c G A cX0_plant 6 RX0 wsX0_plant none) (n : Nat) {z : Wd} : ∀ (t : Nat), ∀ (w : Wd) (a0 : Nat) (a2 : Int32) (a3 : Int32), m_X0_plant_p30 n t w a0 a2 a3 = some z → V p l e { frames := 2, cells := 0, slots := 0, locals := 47 } s m args below meth c G A 6 30 [(0, .ref a0), (2, .int a2), (3, .int a3)] [] w (none) z := by
  intro t
  induction t with
  | zero =>
    intro w a0 a2 a3 h
    rw [m_X0_plant_p30] at h
    cases h
  | succ t ih =>
    intro w a0 a2 a3 h
    rw [m_X0_plant_p30] at h
    refine v_iload_n C 2 dX0_plant_30 rfl rfl ?_
    refine v_iload_n C 1 dX0_plant_31 rfl rfl ?_
    refine v_icmp_ge C (tgt := 90) dX0_plant_32 (by decide) (fun q => ?_) (fun q => ?_)
    · have h := ite_t q h
      refine v_sub [0] rfl ?_
      exact r_X0_plant_p90 C n _ _ h
    · have h := ite_f q h
      refine v_aload_n C 0 dX0_plant_35 rfl rfl ?_
      obtain ⟨q1, e_q1, h⟩ := bnd h
      refine v_getf C (ci := 0) (k := 1) rfl inX0_plant_X0 (by decide) fX0_plant_17 dX0_plant_36 (gfR_e e_q1) ?_
      refine v_iload_n C 2 dX0_plant_39 rfl rfl ?_
      obtain ⟨x2, e_x2, h⟩ := bnd h
      refine v_iald C dX0_plant_40 e_x2 ?_
      refine v_bipush C (v := 32) dX0_plant_41 (by decide) ?_
      refine v_irem C dX0_plant_43 (by decide) ?_
      obtain ⟨x3, e_x3, h⟩ := bnd h
      refine v_callNi C (av := [.int (jrm x2 32)]) (rest := []) gX0_plant_X6_heightOf_n29 rfl C.2.2.2.2.2.1.2.1.1 niX0_plant_X6_heightOf nsX0_plant_X6_heightOf ⟨rfl, rfl⟩ hS_X6_heightOf ⟨(Nat.le_of_ble_eq_true rfl), (Nat.le_of_ble_eq_true rfl)⟩ (r_X6_heightOf (A := A) e_x3) rfl rfl (Nat.le_of_ble_eq_true rfl) dX0_plant_44 ?_
      refine v_at (pc' := 47) rfl ?_
      refine v_istore C (lv' := [(4, .int x3), (0, .ref a0), (2, .int a2), (3, .int a3)]) dX0_plant_47 (by decide) rfl ?_
      refine v_iconst C (v := 0) dX0_plant_49 (by decide) ?_
      refine v_istore C (lv' := [(5, .int 0), (4, .int x3), (0, .ref a0), (2, .int a2), (3, .int a3)]) dX0_plant_50 (by decide) rfl ?_
      refine v_sub [2, 3, 4, 1, 0] rfl ?_
      exact r_X0_plant_p52 C n ih n _ _ _ _ _ _ h
set_option maxRecDepth 100000 in
set_option maxHeartbeats 4000000 in
theorem r_X0_plant_p28 {p : Program} {l : Launch} {e : Env} {s : State} {m : MethodId} {args : Array Value} {below : List Frame} {meth : Method} {c : Code} {G : GG} {A : Nat → Prop} (C : Cx p s m args meth c G A cX0_plant 6 RX0 wsX0_plant none) (n : Nat) {z : Wd} : ∀ (w : Wd) (a0 : Nat) (a2 : Int32), m_X0_plant_p28 n w a0 a2 = some z → V p l e { frames := 2, cells := 0, slots := 0, locals := 47 } s m args below meth c G A 6 28 [(0, .ref a0), (2, .int a2)] [] w (none) z := by
  intro w a0 a2 h
  unfold m_X0_plant_p28 at h
  refine v_iconst C (v := 0) dX0_plant_28 (by decide) ?_
  refine v_istore_n C (lv' := [(3, .int 0), (0, .ref a0), (2, .int a2)]) dX0_plant_29 rfl (by decide) rfl ?_
  refine v_sub [1, 2, 0] rfl ?_
  exact r_X0_plant_p30 C n n _ _ _ _ h
set_option maxRecDepth 100000 in
set_option maxHeartbeats 4000000 in
theorem r_X0_plant_p8 {p : Program} {l : Launch} {e : Env} {s : State} {m : MethodId} {args : Array Value} {below : List Frame} {meth : Method} {c : Code} {G : GG} {A : Nat → Prop} (C : Cx p s m args meth c G A cX0_plant 6 RX0 wsX0_plant none) (n : Nat) {z : Wd} : ∀ (t : Nat), ∀ (w : Wd) (a0 : Nat) (a2 : Int32) (a3 : Int32), m_X0_plant_p8 n t w a0 a2 a3 = some z → V p l e { frames := 2, cells := 0, slots := 0, locals := 47 } s m args below meth c G A 6 8 [(0, .ref a0), (2, .int a2), (3, .int a3)] [] w (none) z := by
  intro t
  induction t with
  | zero =>
    intro w a0 a2 a3 h
    rw [m_X0_plant_p8] at h
    cases h
  | succ t ih =>
    intro w a0 a2 a3 h
    rw [m_X0_plant_p8] at h
    refine v_iload_n C 2 dX0_plant_8 rfl rfl ?_
    refine v_iconst C (v := 5) dX0_plant_9 (by decide) ?_
    refine v_icmp_ge C (tgt := 28) dX0_plant_10 (by decide) (fun q => ?_) (fun q => ?_)
    · have h := ite_t q h
      refine v_sub [0, 1] rfl ?_
      exact r_X0_plant_p28 C n _ _ _ h
    · have h := ite_f q h
      refine v_aload_n C 0 dX0_plant_13 rfl rfl ?_
      obtain ⟨q1, e_q1, h⟩ := bnd h
      refine v_getf C (ci := 0) (k := 0) rfl inX0_plant_X0 (by decide) fX0_plant_11 dX0_plant_14 (gfR_e e_q1) ?_
      refine v_iload_n C 2 dX0_plant_17 rfl rfl ?_
      obtain ⟨q2, e_q2, h⟩ := bnd h
      refine v_aald3 C dX0_plant_18 e_q2 ?_
      obtain ⟨u3, e_u3, h⟩ := bnd h
      obtain ⟨z4, e_z4, h⟩ := bnd h
      refine v_callVv C (ci := 1) (av := []) (rest := []) rfl gX0_plant_X1_clear rfl ⟨rfl, rfl⟩ hV_X1_clear ⟨(Nat.le_of_ble_eq_true rfl), (Nat.le_of_ble_eq_true rfl)⟩ e_u3 (r_X1_clear (A := A) e_z4) rfl rfl (Nat.le_of_ble_eq_true rfl) dX0_plant_19 ?_
      refine v_iinc C (k := 2) (v := (a3 + 1)) (lv' := [(3, .int (a3 + 1)), (0, .ref a0), (2, .int a2)]) dX0_plant_22 rfl rfl (by decide) rfl ?_
      refine v_goto C (tgt := 8) dX0_plant_25 (by decide) ?_
      refine v_sub [1, 2, 0] rfl ?_
      exact ih _ _ _ _ h
set_option maxRecDepth 100000 in
set_option maxHeartbeats 4000000 in
theorem r_X0_plant {l : Launch} {G : GG} {A : Nat → Prop} {n : Nat} {w : Wd} {this : Nat} {a1 : Nat} {z : Wd} (h : m_X0_plant n w this a1 = some z) : Con l yX0_plant wsX0_plant { frames := 2, cells := 0, slots := 0, locals := 47 } G A [.ref this, .ref a1] w (none) z := by
  refine Con.of (own := RX0) (cc := cX0_plant) (maxL := 6) (ret := none) rfl (by decide) rfl (Nat.le_of_ble_eq_true rfl) ?_
  intro p e s m args below meth c C
  show V p l e { frames := 2, cells := 0, slots := 0, locals := 47 } s m args below meth c G A 6 0 [(0, .ref this), (1, .ref a1)] [] w (none) z
  unfold m_X0_plant at h
  refine v_aload_n C 0 dX0_plant_0 rfl rfl ?_
  refine v_aload_n C 1 dX0_plant_1 rfl rfl ?_
  obtain ⟨u1, e_u1, h⟩ := bnd h
  obtain ⟨z2, e_z2, h⟩ := bnd h
  refine v_callVi C (ci := 0) (av := [.ref a1]) (rest := []) rfl gX0_plant_X0_sortPoints rfl ⟨rfl, rfl⟩ hV_X0_sortPoints ⟨(Nat.le_of_ble_eq_true rfl), (Nat.le_of_ble_eq_true rfl)⟩ e_u1 (r_X0_sortPoints (A := A) e_z2) rfl rfl (Nat.le_of_ble_eq_true rfl) dX0_plant_2 ?_
  refine v_istore_n C (lv' := [(2, .int z2.1), (0, .ref this), (1, .ref a1)]) dX0_plant_5 rfl (by decide) rfl ?_
  refine v_iconst C (v := 0) dX0_plant_6 (by decide) ?_
  refine v_istore_n C (lv' := [(3, .int 0), (2, .int z2.1), (0, .ref this), (1, .ref a1)]) dX0_plant_7 rfl (by decide) rfl ?_
  refine v_sub [2, 1, 0] rfl ?_
  exact r_X0_plant_p8 C n n _ _ _ _ h
theorem fX1_differences_18 : Cond.fieldLink RX1 18 (TX1 3).1 (TX1 3).2.1 (TX1 3).2.2.1 ∈ wsX1_differences := by decide +kernel
theorem inX1_differences_X1 : ∀ x ∈ u_ws RX1 TX1 4, x ∈ wsX1_differences := by decide +kernel
theorem fX1_differences_15 : Cond.fieldLink RX1 15 (TX1 2).1 (TX1 2).2.1 (TX1 2).2.2.1 ∈ wsX1_differences := by decide +kernel
set_option maxRecDepth 100000 in
set_option maxHeartbeats 4000000 in
theorem r_X1_differences_p46 {p : Program} {l : Launch} {e : Env} {s : State} {m : MethodId} {args : Array Value} {below : List Frame} {meth : Method} {c : Code} {G : GG} {A : Nat → Prop} (C : Cx p s m args meth c G A cX1_differences 5 RX1 wsX1_differences (some .int)) (n : Nat) {k7 : Wd → Nat → Nat → Int32 → Int32 → Int32 → Option Int32} {z : Int32} (H7 : ∀ (w : Wd) (b0 : Nat) (b1 : Nat) (b2 : Int32) (b3 : Int32) (b4 : Int32), k7 w b0 b1 b2 b3 b4 = some z → V p l e { frames := 0, cells := 0, slots := 0, locals := 0 } s m args below meth c G A 5 7 [(0, .ref b0), (1, .ref b1), (2, .int b2), (3, .int b3), (4, .int b4)] [] w (some (.int z)) w) : ∀ (w : Wd) (a0 : Nat) (a1 : Nat) (a2 : Int32) (a3 : Int32) (a4 : Int32), m_X1_differences_p46 n k7 w a0 a1 a2 a3 a4 = some z → V p l e { frames := 0, cells := 0, slots := 0, locals := 0 } s m args below meth c G A 5 46 [(0, .ref a0), (1, .ref a1), (2, .int a2), (3, .int a3), (4, .int a4)] [] w (some (.int z)) w := by
  intro w a0 a1 a2 a3 a4 h
  unfold m_X1_differences_p46 at h
  refine v_iload_n C 3 dX1_differences_46 rfl rfl ?_
  refine v_aload_n C 1 dX1_differences_47 rfl rfl ?_
  obtain ⟨x1, e_x1, h⟩ := bnd h
  refine v_getf C (ci := 1) (k := 3) rfl inX1_differences_X1 (by decide) fX1_differences_18 dX1_differences_48 (gfI_e e_x1) ?_
  refine v_icmp_ge C (tgt := 73) dX1_differences_51 (by decide) (fun q => ?_) (fun q => ?_)
  · have h := ite_t q h
    refine v_iinc C (k := 4) (v := (a4 + 1)) (lv' := [(4, .int (a4 + 1)), (0, .ref a0), (1, .ref a1), (2, .int a2), (3, .int a3)]) dX1_differences_73 rfl rfl (by decide) rfl ?_
    refine v_goto C (tgt := 7) dX1_differences_76 (by decide) ?_
    refine v_sub [1, 2, 3, 4, 0] rfl ?_
    exact H7 _ _ _ _ _ _ h
  · have h := ite_f q h
    refine v_aload_n C 1 dX1_differences_54 rfl rfl ?_
    obtain ⟨q2, e_q2, h⟩ := bnd h
    refine v_getf C (ci := 1) (k := 2) rfl inX1_differences_X1 (by decide) fX1_differences_15 dX1_differences_55 (gfR_e e_q2) ?_
    refine v_iload_n C 3 dX1_differences_58 rfl rfl ?_
    obtain ⟨x3, e_x3, h⟩ := bnd h
    refine v_iald C dX1_differences_59 e_x3 ?_
    refine v_aload_n C 0 dX1_differences_60 rfl rfl ?_
    obtain ⟨q4, e_q4, h⟩ := bnd h
    refine v_getf C (ci := 1) (k := 2) rfl inX1_differences_X1 (by decide) fX1_differences_15 dX1_differences_61 (gfR_e e_q4) ?_
    refine v_iload C 4 dX1_differences_64 rfl ?_
    refine v_at (pc' := 66) rfl ?_
    obtain ⟨x5, e_x5, h⟩ := bnd h
    refine v_iald C dX1_differences_66 e_x5 ?_
    refine v_icmp_ne C (tgt := 73) dX1_differences_67 (by decide) (fun q => ?_) (fun q => ?_)
    · have h := ite_f q h
      refine v_iinc C (k := 4) (v := (a4 + 1)) (lv' := [(4, .int (a4 + 1)), (0, .ref a0), (1, .ref a1), (2, .int a2), (3, .int a3)]) dX1_differences_73 rfl rfl (by decide) rfl ?_
      refine v_goto C (tgt := 7) dX1_differences_76 (by decide) ?_
      refine v_sub [1, 2, 3, 4, 0] rfl ?_
      exact H7 _ _ _ _ _ _ h
    · have h := ite_t q h
      refine v_iinc C (k := 2) (v := (a2 + 1)) (lv' := [(2, .int (a2 + 1)), (0, .ref a0), (1, .ref a1), (3, .int a3), (4, .int a4)]) dX1_differences_70 rfl rfl (by decide) rfl ?_
      refine v_iinc C (k := 4) (v := (a4 + 1)) (lv' := [(4, .int (a4 + 1)), (2, .int (a2 + 1)), (0, .ref a0), (1, .ref a1), (3, .int a3)]) dX1_differences_73 rfl rfl (by decide) rfl ?_
      refine v_goto C (tgt := 7) dX1_differences_76 (by decide) ?_
      refine v_sub [2, 3, 1, 4, 0] rfl ?_
      exact H7 _ _ _ _ _ _ h
set_option maxRecDepth 100000 in
set_option maxHeartbeats 4000000 in
theorem r_X1_differences_p16 {p : Program} {l : Launch} {e : Env} {s : State} {m : MethodId} {args : Array Value} {below : List Frame} {meth : Method} {c : Code} {G : GG} {A : Nat → Prop} (C : Cx p s m args meth c G A cX1_differences 5 RX1 wsX1_differences (some .int)) (n : Nat) {k7 : Wd → Nat → Nat → Int32 → Int32 → Int32 → Option Int32} {z : Int32} (H7 : ∀ (w : Wd) (b0 : Nat) (b1 : Nat) (b2 : Int32) (b3 : Int32) (b4 : Int32), k7 w b0 b1 b2 b3 b4 = some z → V p l e { frames := 0, cells := 0, slots := 0, locals := 0 } s m args below meth c G A 5 7 [(0, .ref b0), (1, .ref b1), (2, .int b2), (3, .int b3), (4, .int b4)] [] w (some (.int z)) w) : ∀ (t : Nat), ∀ (w : Wd) (a0 : Nat) (a1 : Nat) (a2 : Int32) (a3 : Int32) (a4 : Int32), m_X1_differences_p16 n k7 t w a0 a1 a2 a3 a4 = some z → V p l e { frames := 0, cells := 0, slots := 0, locals := 0 } s m args below meth c G A 5 16 [(0, .ref a0), (1, .ref a1), (2, .int a2), (3, .int a3), (4, .int a4)] [] w (some (.int z)) w := by
  intro t
  induction t with
  | zero =>
    intro w a0 a1 a2 a3 a4 h
    rw [m_X1_differences_p16] at h
    cases h
  | succ t ih =>
    intro w a0 a1 a2 a3 a4 h
    rw [m_X1_differences_p16] at h
    refine v_iload_n C 3 dX1_differences_16 rfl rfl ?_
    refine v_aload_n C 1 dX1_differences_17 rfl rfl ?_
    obtain ⟨x1, e_x1, h⟩ := bnd h
    refine v_getf C (ci := 1) (k := 3) rfl inX1_differences_X1 (by decide) fX1_differences_18 dX1_differences_18 (gfI_e e_x1) ?_
    refine v_icmp_ge C (tgt := 46) dX1_differences_21 (by decide) (fun q => ?_) (fun q => ?_)
    · have h := ite_t q h
      exact r_X1_differences_p46 C n H7 _ _ _ _ _ _ h
    · have h := ite_f q h
      refine v_aload_n C 1 dX1_differences_24 rfl rfl ?_
      obtain ⟨q2, e_q2, h⟩ := bnd h
      refine v_getf C (ci := 1) (k := 2) rfl inX1_differences_X1 (by decide) fX1_differences_15 dX1_differences_25 (gfR_e e_q2) ?_
      refine v_iload_n C 3 dX1_differences_28 rfl rfl ?_
      obtain ⟨x3, e_x3, h⟩ := bnd h
      refine v_iald C dX1_differences_29 e_x3 ?_
      refine v_aload_n C 0 dX1_differences_30 rfl rfl ?_
      obtain ⟨q4, e_q4, h⟩ := bnd h
      refine v_getf C (ci := 1) (k := 2) rfl inX1_differences_X1 (by decide) fX1_differences_15 dX1_differences_31 (gfR_e e_q4) ?_
      refine v_iload C 4 dX1_differences_34 rfl ?_
      refine v_at (pc' := 36) rfl ?_
      obtain ⟨x5, e_x5, h⟩ := bnd h
      refine v_iald C dX1_differences_36 e_x5 ?_
      refine v_icmp_ge C (tgt := 46) dX1_differences_37 (by decide) (fun q => ?_) (fun q => ?_)
      · have h := ite_t q h
        exact r_X1_differences_p46 C n H7 _ _ _ _ _ _ h
      · have h := ite_f q h
        refine v_iinc C (k := 3) (v := (a3 + 1)) (lv' := [(3, .int (a3 + 1)), (0, .ref a0), (1, .ref a1), (2, .int a2), (4, .int a4)]) dX1_differences_40 rfl rfl (by decide) rfl ?_
        refine v_goto C (tgt := 16) dX1_differences_43 (by decide) ?_
        refine v_sub [1, 2, 3, 0, 4] rfl ?_
        exact ih _ _ _ _ _ _ h
set_option maxRecDepth 100000 in
set_option maxHeartbeats 4000000 in
theorem r_X1_differences_p79 {p : Program} {l : Launch} {e : Env} {s : State} {m : MethodId} {args : Array Value} {below : List Frame} {meth : Method} {c : Code} {G : GG} {A : Nat → Prop} (C : Cx p s m args meth c G A cX1_differences 5 RX1 wsX1_differences (some .int)) (n : Nat) {z : Int32} : ∀ (w : Wd) (a0 : Nat) (a1 : Nat) (a2 : Int32), m_X1_differences_p79 n w a0 a1 a2 = some z → V p l e { frames := 0, cells := 0, slots := 0, locals := 0 } s m args below meth c G A 5 79 [(0, .ref a0), (1, .ref a1), (2, .int a2)] [] w (some (.int z)) w := by
  intro w a0 a1 a2 h
  unfold m_X1_differences_p79 at h
  refine v_aload_n C 0 dX1_differences_79 rfl rfl ?_
  obtain ⟨x1, e_x1, h⟩ := bnd h
  refine v_getf C (ci := 1) (k := 3) rfl inX1_differences_X1 (by decide) fX1_differences_18 dX1_differences_80 (gfI_e e_x1) ?_
  refine v_aload_n C 1 dX1_differences_83 rfl rfl ?_
  obtain ⟨x2, e_x2, h⟩ := bnd h
  refine v_getf C (ci := 1) (k := 3) rfl inX1_differences_X1 (by decide) fX1_differences_18 dX1_differences_84 (gfI_e e_x2) ?_
  refine v_iadd C dX1_differences_87 ?_
  refine v_iconst C (v := 2) dX1_differences_88 (by decide) ?_
  refine v_iload_n C 2 dX1_differences_89 rfl rfl ?_
  refine v_at (pc' := 90) rfl ?_
  refine v_imul C dX1_differences_90 ?_
  refine v_isub C dX1_differences_91 ?_
  obtain rfl := Option.some.inj h
  exact v_iret C dX1_differences_92
set_option maxRecDepth 100000 in
set_option maxHeartbeats 4000000 in
theorem r_X1_differences_p7 {p : Program} {l : Launch} {e : Env} {s : State} {m : MethodId} {args : Array Value} {below : List Frame} {meth : Method} {c : Code} {G : GG} {A : Nat → Prop} (C : Cx p s m args meth c G A cX1_differences 5 RX1 wsX1_differences (some .int)) (n : Nat) {z : Int32} : ∀ (t : Nat), ∀ (w : Wd) (a0 : Nat) (a1 : Nat) (a2 : Int32) (a3 : Int32) (a4 : Int32), m_X1_differences_p7 n t w a0 a1 a2 a3 a4 = some z → V p l e { frames := 0, cells := 0, slots := 0, locals := 0 } s m args below meth c G A 5 7 [(0, .ref a0), (1, .ref a1), (2, .int a2), (3, .int a3), (4, .int a4)] [] w (some (.int z)) w := by
  intro t
  induction t with
  | zero =>
    intro w a0 a1 a2 a3 a4 h
    rw [m_X1_differences_p7] at h
    cases h
  | succ t ih =>
    intro w a0 a1 a2 a3 a4 h
    rw [m_X1_differences_p7] at h
    refine v_iload C 4 dX1_differences_7 rfl ?_
    refine v_aload_n C 0 dX1_differences_9 rfl rfl ?_
    obtain ⟨x1, e_x1, h⟩ := bnd h
    refine v_getf C (ci := 1) (k := 3) rfl inX1_differences_X1 (by decide) fX1_differences_18 dX1_differences_10 (gfI_e e_x1) ?_
    refine v_icmp_ge C (tgt := 79) dX1_differences_13 (by decide) (fun q => ?_) (fun q => ?_)
    · have h := ite_t q h
      refine v_sub [0, 1, 2] rfl ?_
      exact r_X1_differences_p79 C n _ _ _ _ h
    · have h := ite_f q h
      exact r_X1_differences_p16 C n ih n _ _ _ _ _ _ h
set_option maxRecDepth 100000 in
set_option maxHeartbeats 4000000 in
theorem r_X1_differences {l : Launch} {G : GG} {A : Nat → Prop} {n : Nat} {w : Wd} {this : Nat} {a1 : Nat} {z : Int32} (h : m_X1_differences n w this a1 = some z) : Con l yX1_differences wsX1_differences { frames := 0, cells := 0, slots := 0, locals := 0 } G A [.ref this, .ref a1] w (some (.int z)) w := by
  refine Con.of (own := RX1) (cc := cX1_differences) (maxL := 5) (ret := (some .int)) rfl (by decide) rfl (Nat.le_of_ble_eq_true rfl) ?_
  intro p e s m args below meth c C
  show V p l e { frames := 0, cells := 0, slots := 0, locals := 0 } s m args below meth c G A 5 0 [(0, .ref this), (1, .ref a1)] [] w (some (.int z)) w
  unfold m_X1_differences at h
  refine v_iconst C (v := 0) dX1_differences_0 (by decide) ?_
  refine v_istore_n C (lv' := [(2, .int 0), (0, .ref this), (1, .ref a1)]) dX1_differences_1 rfl (by decide) rfl ?_
  refine v_iconst C (v := 0) dX1_differences_2 (by decide) ?_
  refine v_istore_n C (lv' := [(3, .int 0), (2, .int 0), (0, .ref this), (1, .ref a1)]) dX1_differences_3 rfl (by decide) rfl ?_
  refine v_iconst C (v := 0) dX1_differences_4 (by decide) ?_
  refine v_istore C (lv' := [(4, .int 0), (3, .int 0), (2, .int 0), (0, .ref this), (1, .ref a1)]) dX1_differences_5 (by decide) rfl ?_
  refine v_sub [3, 4, 2, 1, 0] rfl ?_
  exact r_X1_differences_p7 C n n _ _ _ _ _ _ h
theorem fX0_differences_11 : Cond.fieldLink RX0 11 (TX0 0).1 (TX0 0).2.1 (TX0 0).2.2.1 ∈ wsX0_differences := by decide +kernel
theorem inX0_differences_X0 : ∀ x ∈ u_ws RX0 TX0 2, x ∈ wsX0_differences := by decide +kernel
theorem hV_X1_differences : yX1_differences.cls = RX1 ∧ yX1_differences.cls ≠ "java/lang/invoke/MethodHandle" ∧ yX1_differences.cls ≠ "java/lang/invoke/VarHandle" ∧ (parseMethodDescriptor yX1_differences.desc).map (fun d => d.parameters.length) = some 1 := by decide +kernel
set_option maxRecDepth 100000 in
set_option maxHeartbeats 4000000 in
theorem r_X0_differences_p4 {p : Program} {l : Launch} {e : Env} {s : State} {m : MethodId} {args : Array Value} {below : List Frame} {meth : Method} {c : Code} {G : GG} {A : Nat → Prop} (C : Cx p s m args meth c G A cX0_differences 4 RX0 wsX0_differences (some .int)) (n : Nat) {z : Int32} : ∀ (t : Nat), ∀ (w : Wd) (a0 : Nat) (a1 : Nat) (a2 : Int32) (a3 : Int32), m_X0_differences_p4 n t w a0 a1 a2 a3 = some z → V p l e { frames := 1, cells := 0, slots := 0, locals := 24 } s m args below meth c G A 4 4 [(0, .ref a0), (1, .ref a1), (2, .int a2), (3, .int a3)] [] w (some (.int z)) w := by
  intro t
  induction t with
  | zero =>
    intro w a0 a1 a2 a3 h
    rw [m_X0_differences_p4] at h
    cases h
  | succ t ih =>
    intro w a0 a1 a2 a3 h
    rw [m_X0_differences_p4] at h
    refine v_iload_n C 3 dX0_differences_4 rfl rfl ?_
    refine v_iconst C (v := 5) dX0_differences_5 (by decide) ?_
    refine v_icmp_ge C (tgt := 33) dX0_differences_6 (by decide) (fun q => ?_) (fun q => ?_)
    · have h := ite_t q h
      refine v_iload_n C 2 dX0_differences_33 rfl rfl ?_
      obtain rfl := Option.some.inj h
      exact v_iret C dX0_differences_34
    · have h := ite_f q h
      refine v_iload_n C 2 dX0_differences_9 rfl rfl ?_
      refine v_aload_n C 0 dX0_differences_10 rfl rfl ?_
      obtain ⟨q1, e_q1, h⟩ := bnd h
      refine v_getf C (ci := 0) (k := 0) rfl inX0_differences_X0 (by decide) fX0_differences_11 dX0_differences_11 (gfR_e e_q1) ?_
      refine v_iload_n C 3 dX0_differences_14 rfl rfl ?_
      obtain ⟨q2, e_q2, h⟩ := bnd h
      refine v_aald3 C dX0_differences_15 e_q2 ?_
      refine v_aload_n C 1 dX0_differences_16 rfl rfl ?_
      obtain ⟨q3, e_q3, h⟩ := bnd h
      refine v_getf C (ci := 0) (k := 0) rfl inX0_differences_X0 (by decide) fX0_differences_11 dX0_differences_17 (gfR_e e_q3) ?_
      refine v_at (pc' := 20) rfl ?_
      refine v_iload_n C 3 dX0_differences_20 rfl rfl ?_
      obtain ⟨q4, e_q4, h⟩ := bnd h
      refine v_aald3 C dX0_differences_21 e_q4 ?_
      obtain ⟨u5, e_u5, h⟩ := bnd h
      obtain ⟨x6, e_x6, h⟩ := bnd h
      refine v_callVi C (ci := 1) (av := [.ref q4]) (rest := [.int a2]) rfl gX0_differences_X1_differences rfl ⟨rfl, rfl⟩ hV_X1_differences ⟨(Nat.le_of_ble_eq_true rfl), (Nat.le_of_ble_eq_true rfl)⟩ e_u5 (r_X1_differences (A := A) e_x6) rfl rfl (Nat.le_of_ble_eq_true rfl) dX0_differences_22 ?_
      refine v_iadd C dX0_differences_25 ?_
      refine v_istore_n C (lv' := [(2, .int (a2 + x6)), (0, .ref a0), (1, .ref a1), (3, .int a3)]) dX0_differences_26 rfl (by decide) rfl ?_
      refine v_iinc C (k := 3) (v := (a3 + 1)) (lv' := [(3, .int (a3 + 1)), (2, .int (a2 + x6)), (0, .ref a0), (1, .ref a1)]) dX0_differences_27 rfl rfl (by decide) rfl ?_
      refine v_goto C (tgt := 4) dX0_differences_30 (by decide) ?_
      refine v_sub [2, 3, 1, 0] rfl ?_
      exact ih _ _ _ _ _ h
set_option maxRecDepth 100000 in
set_option maxHeartbeats 4000000 in
theorem r_X0_differences {l : Launch} {G : GG} {A : Nat → Prop} {n : Nat} {w : Wd} {this : Nat} {a1 : Nat} {z : Int32} (h : m_X0_differences n w this a1 = some z) : Con l yX0_differences wsX0_differences { frames := 1, cells := 0, slots := 0, locals := 24 } G A [.ref this, .ref a1] w (some (.int z)) w := by
  refine Con.of (own := RX0) (cc := cX0_differences) (maxL := 4) (ret := (some .int)) rfl (by decide) rfl (Nat.le_of_ble_eq_true rfl) ?_
  intro p e s m args below meth c C
  show V p l e { frames := 1, cells := 0, slots := 0, locals := 24 } s m args below meth c G A 4 0 [(0, .ref this), (1, .ref a1)] [] w (some (.int z)) w
  unfold m_X0_differences at h
  refine v_iconst C (v := 0) dX0_differences_0 (by decide) ?_
  refine v_istore_n C (lv' := [(2, .int 0), (0, .ref this), (1, .ref a1)]) dX0_differences_1 rfl (by decide) rfl ?_
  refine v_iconst C (v := 0) dX0_differences_2 (by decide) ?_
  refine v_istore_n C (lv' := [(3, .int 0), (2, .int 0), (0, .ref this), (1, .ref a1)]) dX0_differences_3 rfl (by decide) rfl ?_
  refine v_sub [2, 3, 1, 0] rfl ?_
  exact r_X0_differences_p4 C n n _ _ _ _ _ h
theorem fX0_greatestLevel_11 : Cond.fieldLink RX0 11 (TX0 0).1 (TX0 0).2.1 (TX0 0).2.2.1 ∈ wsX0_greatestLevel := by decide +kernel
theorem inX0_greatestLevel_X0 : ∀ x ∈ u_ws RX0 TX0 2, x ∈ wsX0_greatestLevel := by decide +kernel
theorem fX0_greatestLevel_66 : Cond.fieldLink RX0 66 (TX1 1).1 (TX1 1).2.1 (TX1 1).2.2.1 ∈ wsX0_greatestLevel := by decide +kernel
theorem inX0_greatestLevel_X1 : ∀ x ∈ u_ws RX1 TX1 4, x ∈ wsX0_greatestLevel := by decide +kernel
set_option maxRecDepth 100000 in
set_option maxHeartbeats 4000000 in
theorem r_X0_greatestLevel_p4 {p : Program} {l : Launch} {e : Env} {s : State} {m : MethodId} {args : Array Value} {below : List Frame} {meth : Method} {c : Code} {G : GG} {A : Nat → Prop} (C : Cx p s m args meth c G A cX0_greatestLevel 3 RX0 wsX0_greatestLevel (some .int)) (n : Nat) {z : Int32} : ∀ (t : Nat), ∀ (w : Wd) (a0 : Nat) (a1 : Int32) (a2 : Int32), m_X0_greatestLevel_p4 n t w a0 a1 a2 = some z → V p l e { frames := 0, cells := 0, slots := 0, locals := 0 } s m args below meth c G A 3 4 [(0, .ref a0), (1, .int a1), (2, .int a2)] [] w (some (.int z)) w := by
  intro t
  induction t with
  | zero =>
    intro w a0 a1 a2 h
    rw [m_X0_greatestLevel_p4] at h
    cases h
  | succ t ih =>
    intro w a0 a1 a2 h
    rw [m_X0_greatestLevel_p4] at h
    refine v_iload_n C 2 dX0_greatestLevel_4 rfl rfl ?_
    refine v_iconst C (v := 5) dX0_greatestLevel_5 (by decide) ?_
    refine v_icmp_ge C (tgt := 33) dX0_greatestLevel_6 (by decide) (fun q => ?_) (fun q => ?_)
    · have h := ite_t q h
      refine v_iload_n C 1 dX0_greatestLevel_33 rfl rfl ?_
      obtain rfl := Option.some.inj h
      exact v_iret C dX0_greatestLevel_34
    · have h := ite_f q h
      refine v_aload_n C 0 dX0_greatestLevel_9 rfl rfl ?_
      obtain ⟨q1, e_q1, h⟩ := bnd h
      refine v_getf C (ci := 0) (k := 0) rfl inX0_greatestLevel_X0 (by decide) fX0_greatestLevel_11 dX0_greatestLevel_10 (gfR_e e_q1) ?_
      refine v_iload_n C 2 dX0_greatestLevel_13 rfl rfl ?_
      obtain ⟨q2, e_q2, h⟩ := bnd h
      refine v_aald3 C dX0_greatestLevel_14 e_q2 ?_
      obtain ⟨x3, e_x3, h⟩ := bnd h
      refine v_getf C (ci := 1) (k := 1) rfl inX0_greatestLevel_X1 (by decide) fX0_greatestLevel_66 dX0_greatestLevel_15 (gfI_e e_x3) ?_
      refine v_if_le C (tgt := 25) dX0_greatestLevel_18 (by decide) (fun q => ?_) (fun q => ?_)
      · have h := ite_t q h
        refine v_iload_n C 1 dX0_greatestLevel_25 rfl rfl ?_
        refine v_istore_n C (lv' := [(1, .int a1), (0, .ref a0), (2, .int a2)]) dX0_greatestLevel_26 rfl (by decide) rfl ?_
        refine v_iinc C (k := 2) (v := (a2 + 1)) (lv' := [(2, .int (a2 + 1)), (1, .int a1), (0, .ref a0)]) dX0_greatestLevel_27 rfl rfl (by decide) rfl ?_
        refine v_goto C (tgt := 4) dX0_greatestLevel_30 (by decide) ?_
        refine v_sub [2, 1, 0] rfl ?_
        exact ih _ _ _ _ h
      · have h := ite_f q h
        refine v_iload_n C 2 dX0_greatestLevel_21 rfl rfl ?_
        refine v_goto C (tgt := 26) dX0_greatestLevel_22 (by decide) ?_
        refine v_istore_n C (lv' := [(1, .int a2), (0, .ref a0), (2, .int a2)]) dX0_greatestLevel_26 rfl (by decide) rfl ?_
        refine v_iinc C (k := 2) (v := (a2 + 1)) (lv' := [(2, .int (a2 + 1)), (1, .int a2), (0, .ref a0)]) dX0_greatestLevel_27 rfl rfl (by decide) rfl ?_
        refine v_goto C (tgt := 4) dX0_greatestLevel_30 (by decide) ?_
        refine v_sub [2, 1, 0] rfl ?_
        exact ih _ _ _ _ h
set_option maxRecDepth 100000 in
set_option maxHeartbeats 4000000 in
theorem r_X0_greatestLevel {l : Launch} {G : GG} {A : Nat → Prop} {n : Nat} {w : Wd} {this : Nat} {z : Int32} (h : m_X0_greatestLevel n w this = some z) : Con l yX0_greatestLevel wsX0_greatestLevel { frames := 0, cells := 0, slots := 0, locals := 0 } G A [.ref this] w (some (.int z)) w := by
  refine Con.of (own := RX0) (cc := cX0_greatestLevel) (maxL := 3) (ret := (some .int)) rfl (by decide) rfl (Nat.le_of_ble_eq_true rfl) ?_
  intro p e s m args below meth c C
  show V p l e { frames := 0, cells := 0, slots := 0, locals := 0 } s m args below meth c G A 3 0 [(0, .ref this)] [] w (some (.int z)) w
  unfold m_X0_greatestLevel at h
  refine v_iconst C (v := 0) dX0_greatestLevel_0 (by decide) ?_
  refine v_istore_n C (lv' := [(1, .int 0), (0, .ref this)]) dX0_greatestLevel_1 rfl (by decide) rfl ?_
  refine v_iconst C (v := 0) dX0_greatestLevel_2 (by decide) ?_
  refine v_istore_n C (lv' := [(2, .int 0), (1, .int 0), (0, .ref this)]) dX0_greatestLevel_3 rfl (by decide) rfl ?_
  refine v_sub [2, 1, 0] rfl ?_
  exact r_X0_greatestLevel_p4 C n n _ _ _ _ h
theorem fX1_indexOf_18 : Cond.fieldLink RX1 18 (TX1 3).1 (TX1 3).2.1 (TX1 3).2.2.1 ∈ wsX1_indexOf := by decide +kernel
theorem inX1_indexOf_X1 : ∀ x ∈ u_ws RX1 TX1 4, x ∈ wsX1_indexOf := by decide +kernel
theorem fX1_indexOf_15 : Cond.fieldLink RX1 15 (TX1 2).1 (TX1 2).2.1 (TX1 2).2.2.1 ∈ wsX1_indexOf := by decide +kernel
set_option maxRecDepth 100000 in
set_option maxHeartbeats 4000000 in
theorem r_X1_indexOf_p2 {p : Program} {l : Launch} {e : Env} {s : State} {m : MethodId} {args : Array Value} {below : List Frame} {meth : Method} {c : Code} {G : GG} {A : Nat → Prop} (C : Cx p s m args meth c G A cX1_indexOf 3 RX1 wsX1_indexOf (some .int)) (n : Nat) {z : Int32} : ∀ (t : Nat), ∀ (w : Wd) (a0 : Nat) (a1 : Int32) (a2 : Int32), m_X1_indexOf_p2 n t w a0 a1 a2 = some z → V p l e { frames := 0, cells := 0, slots := 0, locals := 0 } s m args below meth c G A 3 2 [(0, .ref a0), (1, .int a1), (2, .int a2)] [] w (some (.int z)) w := by
  intro t
  induction t with
  | zero =>
    intro w a0 a1 a2 h
    rw [m_X1_indexOf_p2] at h
    cases h
  | succ t ih =>
    intro w a0 a1 a2 h
    rw [m_X1_indexOf_p2] at h
    refine v_iload_n C 2 dX1_indexOf_2 rfl rfl ?_
    refine v_aload_n C 0 dX1_indexOf_3 rfl rfl ?_
    obtain ⟨x1, e_x1, h⟩ := bnd h
    refine v_getf C (ci := 1) (k := 3) rfl inX1_indexOf_X1 (by decide) fX1_indexOf_18 dX1_indexOf_4 (gfI_e e_x1) ?_
    refine v_iconst C (v := 1) dX1_indexOf_7 (by decide) ?_
    refine v_isub C dX1_indexOf_8 ?_
    refine v_icmp_ge C (tgt := 28) dX1_indexOf_9 (by decide) (fun q => ?_) (fun q => ?_)
    · have h := ite_t q h
      refine v_iload_n C 2 dX1_indexOf_28 rfl rfl ?_
      obtain rfl := Option.some.inj h
      exact v_iret C dX1_indexOf_29
    · have h := ite_f q h
      refine v_aload_n C 0 dX1_indexOf_12 rfl rfl ?_
      obtain ⟨q2, e_q2, h⟩ := bnd h
      refine v_getf C (ci := 1) (k := 2) rfl inX1_indexOf_X1 (by decide) fX1_indexOf_15 dX1_indexOf_13 (gfR_e e_q2) ?_
      refine v_iload_n C 2 dX1_indexOf_16 rfl rfl ?_
      obtain ⟨x3, e_x3, h⟩ := bnd h
      refine v_iald C dX1_indexOf_17 e_x3 ?_
      refine v_iload_n C 1 dX1_indexOf_18 rfl rfl ?_
      refine v_icmp_ge C (tgt := 28) dX1_indexOf_19 (by decide) (fun q => ?_) (fun q => ?_)
      · have h := ite_t q h
        refine v_iload_n C 2 dX1_indexOf_28 rfl rfl ?_
        obtain rfl := Option.some.inj h
        exact v_iret C dX1_indexOf_29
      · have h := ite_f q h
        refine v_iinc C (k := 2) (v := (a2 + 1)) (lv' := [(2, .int (a2 + 1)), (0, .ref a0), (1, .int a1)]) dX1_indexOf_22 rfl rfl (by decide) rfl ?_
        refine v_goto C (tgt := 2) dX1_indexOf_25 (by decide) ?_
        refine v_sub [1, 2, 0] rfl ?_
        exact ih _ _ _ _ h
set_option maxRecDepth 100000 in
set_option maxHeartbeats 4000000 in
theorem r_X1_indexOf {l : Launch} {G : GG} {A : Nat → Prop} {n : Nat} {w : Wd} {this : Nat} {a1 : Int32} {z : Int32} (h : m_X1_indexOf n w this a1 = some z) : Con l yX1_indexOf wsX1_indexOf { frames := 0, cells := 0, slots := 0, locals := 0 } G A [.ref this, .int a1] w (some (.int z)) w := by
  refine Con.of (own := RX1) (cc := cX1_indexOf) (maxL := 3) (ret := (some .int)) rfl (by decide) rfl (Nat.le_of_ble_eq_true rfl) ?_
  intro p e s m args below meth c C
  show V p l e { frames := 0, cells := 0, slots := 0, locals := 0 } s m args below meth c G A 3 0 [(0, .ref this), (1, .int a1)] [] w (some (.int z)) w
  unfold m_X1_indexOf at h
  refine v_iconst C (v := 0) dX1_indexOf_0 (by decide) ?_
  refine v_istore_n C (lv' := [(2, .int 0), (0, .ref this), (1, .int a1)]) dX1_indexOf_1 rfl (by decide) rfl ?_
  refine v_sub [1, 2, 0] rfl ?_
  exact r_X1_indexOf_p2 C n n _ _ _ _ h
set_option maxRecDepth 100000 in
set_option maxHeartbeats 4000000 in
theorem r_X3_corner {l : Launch} {G : GG} {A : Nat → Prop} {w : Wd} {a0 : Int32} {z : Int32} (h : m_X3_corner a0 = z) : Con l yX3_corner wsX3_corner { frames := 0, cells := 0, slots := 0, locals := 0 } G A [.int a0] w (some (.int z)) w := by
  refine Con.of (own := RX3) (cc := cX3_corner) (maxL := 1) (ret := (some .int)) rfl (by decide) rfl (Nat.le_of_ble_eq_true rfl) ?_
  intro p e s m args below meth c C
  show V p l e { frames := 0, cells := 0, slots := 0, locals := 0 } s m args below meth c G A 1 0 [(0, .int a0)] [] w (some (.int z)) w
  unfold m_X3_corner at h
  refine v_iload_n C 0 dX3_corner_0 rfl rfl ?_
  refine v_bipush C (v := 8) dX3_corner_1 (by decide) ?_
  refine v_idiv C dX3_corner_3 (by decide) ?_
  subst h
  exact v_iret C dX3_corner_4
set_option maxRecDepth 100000 in
set_option maxHeartbeats 4000000 in
theorem r_X3_exponent {l : Launch} {G : GG} {A : Nat → Prop} {w : Wd} {a0 : Int32} {z : Int32} (h : m_X3_exponent a0 = z) : Con l yX3_exponent wsX3_exponent { frames := 0, cells := 0, slots := 0, locals := 0 } G A [.int a0] w (some (.int z)) w := by
  refine Con.of (own := RX3) (cc := cX3_exponent) (maxL := 1) (ret := (some .int)) rfl (by decide) rfl (Nat.le_of_ble_eq_true rfl) ?_
  intro p e s m args below meth c C
  show V p l e { frames := 0, cells := 0, slots := 0, locals := 0 } s m args below meth c G A 1 0 [(0, .int a0)] [] w (some (.int z)) w
  unfold m_X3_exponent at h
  refine v_bipush C (v := 6) dX3_exponent_0 (by decide) ?_
  refine v_iload_n C 0 dX3_exponent_2 rfl rfl ?_
  refine v_bipush C (v := 8) dX3_exponent_3 (by decide) ?_
  refine v_irem C dX3_exponent_5 (by decide) ?_
  refine v_isub C dX3_exponent_6 ?_
  subst h
  exact v_iret C dX3_exponent_7
theorem hS_X3_corner : yX3_corner.cls ≠ "java/lang/invoke/MethodHandle" ∧ yX3_corner.cls ≠ "java/lang/invoke/VarHandle" ∧ (parseMethodDescriptor yX3_corner.desc).map (fun d => d.parameters.length) = some 1 := by decide +kernel
theorem hS_X3_exponent : yX3_exponent.cls ≠ "java/lang/invoke/MethodHandle" ∧ yX3_exponent.cls ≠ "java/lang/invoke/VarHandle" ∧ (parseMethodDescriptor yX3_exponent.desc).map (fun d => d.parameters.length) = some 1 := by decide +kernel
theorem z_X3_holds (a0 : Int32) (a1 : Int32) : bo (m_X3_holds a0 a1) := by
  unfold m_X3_holds
  repeat' (first | (refine bo_ite ?_ ?_) | exact bo_0 | exact bo_1 | exact z_X3_corner .. | exact z_X3_exponent ..)
set_option maxRecDepth 100000 in
set_option maxHeartbeats 4000000 in
theorem r_X3_holds {l : Launch} {G : GG} {A : Nat → Prop} {w : Wd} {a0 : Int32} {a1 : Int32} {z : Int32} (h : m_X3_holds a0 a1 = z) : Con l yX3_holds wsX3_holds { frames := 1, cells := 0, slots := 0, locals := 20 } G A [.int a0, .int a1] w (some (.int z)) w := by
  refine Con.of (own := RX3) (cc := cX3_holds) (maxL := 2) (ret := (some .boolean)) rfl (by decide) rfl (Nat.le_of_ble_eq_true rfl) ?_
  intro p e s m args below meth c C
  show V p l e { frames := 1, cells := 0, slots := 0, locals := 20 } s m args below meth c G A 2 0 [(0, .int a0), (1, .int a1)] [] w (some (.int z)) w
  unfold m_X3_holds at h
  refine v_iload_n C 1 dX3_holds_0 rfl rfl ?_
  refine v_iload_n C 0 dX3_holds_1 rfl rfl ?_
  refine v_callSi C (av := [.int a0]) (rest := [.int a1]) gX3_holds_X3_corner rfl ⟨rfl, rfl⟩ hS_X3_corner ⟨(Nat.le_of_ble_eq_true rfl), (Nat.le_of_ble_eq_true rfl)⟩ (r_X3_corner (A := A) rfl) rfl rfl (Nat.le_of_ble_eq_true rfl) dX3_holds_2 ?_
  refine v_ixor C dX3_holds_5 ?_
  refine v_iconst C (v := 2) dX3_holds_6 (by decide) ?_
  refine v_iload_n C 0 dX3_holds_7 rfl rfl ?_
  refine v_callSi C (av := [.int a0]) (rest := [.int 2, .int (a1 ^^^ (m_X3_corner a0))]) gX3_holds_X3_exponent rfl ⟨rfl, rfl⟩ hS_X3_exponent ⟨(Nat.le_of_ble_eq_true rfl), (Nat.le_of_ble_eq_true rfl)⟩ (r_X3_exponent (A := A) rfl) rfl rfl (Nat.le_of_ble_eq_true rfl) dX3_holds_8 ?_
  refine v_at (pc' := 11) rfl ?_
  refine v_imul C dX3_holds_11 ?_
  refine v_ishr C dX3_holds_12 ?_
  refine v_if_ne C (tgt := 20) dX3_holds_13 (by decide) (fun q => ?_) (fun q => ?_)
  · have h := ite_f q h
    refine v_iconst C (v := 0) dX3_holds_20 (by decide) ?_
    subst h
    exact v_zret C dX3_holds_21 bo_0
  · have h := ite_t q h
    refine v_iconst C (v := 1) dX3_holds_16 (by decide) ?_
    refine v_goto C (tgt := 21) dX3_holds_17 (by decide) ?_
    subst h
    exact v_zret C dX3_holds_21 bo_1
theorem fX1_greatestNodeAround_18 : Cond.fieldLink RX1 18 (TX1 3).1 (TX1 3).2.1 (TX1 3).2.2.1 ∈ wsX1_greatestNodeAround := by decide +kernel
theorem inX1_greatestNodeAround_X1 : ∀ x ∈ u_ws RX1 TX1 4, x ∈ wsX1_greatestNodeAround := by decide +kernel
theorem fX1_greatestNodeAround_15 : Cond.fieldLink RX1 15 (TX1 2).1 (TX1 2).2.1 (TX1 2).2.2.1 ∈ wsX1_greatestNodeAround := by decide +kernel
theorem hS_X3_holds : yX3_holds.cls ≠ "java/lang/invoke/MethodHandle" ∧ yX3_holds.cls ≠ "java/lang/invoke/VarHandle" ∧ (parseMethodDescriptor yX3_holds.desc).map (fun d => d.parameters.length) = some 2 := by decide +kernel
set_option maxRecDepth 100000 in
set_option maxHeartbeats 4000000 in
theorem r_X1_greatestNodeAround_p4 {p : Program} {l : Launch} {e : Env} {s : State} {m : MethodId} {args : Array Value} {below : List Frame} {meth : Method} {c : Code} {G : GG} {A : Nat → Prop} (C : Cx p s m args meth c G A cX1_greatestNodeAround 4 RX1 wsX1_greatestNodeAround (some .int)) (n : Nat) {z : Int32} : ∀ (t : Nat), ∀ (w : Wd) (a0 : Nat) (a1 : Int32) (a3 : Int32), m_X1_greatestNodeAround_p4 n t w a0 a1 a3 = some z → V p l e { frames := 2, cells := 0, slots := 0, locals := 41 } s m args below meth c G A 4 4 [(0, .ref a0), (1, .int a1), (3, .int a3)] [] w (some (.int z)) w := by
  intro t
  induction t with
  | zero =>
    intro w a0 a1 a3 h
    rw [m_X1_greatestNodeAround_p4] at h
    cases h
  | succ t ih =>
    intro w a0 a1 a3 h
    rw [m_X1_greatestNodeAround_p4] at h
    refine v_iload_n C 2 dX1_greatestNodeAround_4 rfl rfl ?_
    refine v_aload_n C 0 dX1_greatestNodeAround_5 rfl rfl ?_
    obtain ⟨x1, e_x1, h⟩ := bnd h
    refine v_getf C (ci := 1) (k := 3) rfl inX1_greatestNodeAround_X1 (by decide) fX1_greatestNodeAround_18 dX1_greatestNodeAround_6 (gfI_e e_x1) ?_
    refine v_icmp_ge C (tgt := 33) dX1_greatestNodeAround_9 (by decide) (fun q => ?_) (fun q => ?_)
    · have h := ite_t q h
      refine v_iconst C (v := (-1)) dX1_greatestNodeAround_33 (by decide) ?_
      obtain rfl := Option.some.inj h
      exact v_iret C dX1_greatestNodeAround_34
    · have h := ite_f q h
      refine v_aload_n C 0 dX1_greatestNodeAround_12 rfl rfl ?_
      obtain ⟨q2, e_q2, h⟩ := bnd h
      refine v_getf C (ci := 1) (k := 2) rfl inX1_greatestNodeAround_X1 (by decide) fX1_greatestNodeAround_15 dX1_greatestNodeAround_13 (gfR_e e_q2) ?_
      refine v_iload_n C 2 dX1_greatestNodeAround_16 rfl rfl ?_
      obtain ⟨x3, e_x3, h⟩ := bnd h
      refine v_iald C dX1_greatestNodeAround_17 e_x3 ?_
      refine v_iload_n C 1 dX1_greatestNodeAround_18 rfl rfl ?_
      refine v_callSi C (av := [.int x3, .int a1]) (rest := []) gX1_greatestNodeAround_X3_holds rfl ⟨rfl, rfl⟩ hS_X3_holds ⟨(Nat.le_of_ble_eq_true rfl), (Nat.le_of_ble_eq_true rfl)⟩ (r_X3_holds (A := A) rfl) rfl rfl (Nat.le_of_ble_eq_true rfl) dX1_greatestNodeAround_19 ?_
      refine v_if_eq C (tgt := 27) dX1_greatestNodeAround_22 (by decide) (fun q => ?_) (fun q => ?_)
      · have h := ite_t q h
        refine v_iinc C (k := 2) (v := (a3 + 1)) (lv' := [(3, .int (a3 + 1)), (0, .ref a0), (1, .int a1)]) dX1_greatestNodeAround_27 rfl rfl (by decide) rfl ?_
        refine v_goto C (tgt := 4) dX1_greatestNodeAround_30 (by decide) ?_
        refine v_sub [1, 2, 0] rfl ?_
        exact ih _ _ _ _ h
      · have h := ite_f q h
        refine v_iload_n C 2 dX1_greatestNodeAround_25 rfl rfl ?_
        obtain rfl := Option.some.inj h
        exact v_iret C dX1_greatestNodeAround_26
set_option maxRecDepth 100000 in
set_option maxHeartbeats 4000000 in
theorem r_X1_greatestNodeAround {l : Launch} {G : GG} {A : Nat → Prop} {n : Nat} {w : Wd} {this : Nat} {a1 : Int32} {a2 : Int32} {z : Int32} (h : m_X1_greatestNodeAround n w this a1 a2 = some z) : Con l yX1_greatestNodeAround wsX1_greatestNodeAround { frames := 2, cells := 0, slots := 0, locals := 41 } G A [.ref this, .int a1, .int a2] w (some (.int z)) w := by
  refine Con.of (own := RX1) (cc := cX1_greatestNodeAround) (maxL := 4) (ret := (some .int)) rfl (by decide) rfl (Nat.le_of_ble_eq_true rfl) ?_
  intro p e s m args below meth c C
  show V p l e { frames := 2, cells := 0, slots := 0, locals := 41 } s m args below meth c G A 4 0 [(0, .ref this), (1, .int a1), (2, .int a2)] [] w (some (.int z)) w
  unfold m_X1_greatestNodeAround at h
  refine v_iload_n C 2 dX1_greatestNodeAround_0 rfl rfl ?_
  refine v_iconst C (v := 1) dX1_greatestNodeAround_1 (by decide) ?_
  refine v_iadd C dX1_greatestNodeAround_2 ?_
  refine v_istore_n C (lv' := [(3, .int (a2 + 1)), (0, .ref this), (1, .int a1), (2, .int a2)]) dX1_greatestNodeAround_3 rfl (by decide) rfl ?_
  refine v_sub [1, 2, 0] rfl ?_
  exact r_X1_greatestNodeAround_p4 C n n _ _ _ _ h
set_option maxRecDepth 100000 in
set_option maxHeartbeats 4000000 in
theorem r_X3_quadrant {l : Launch} {G : GG} {A : Nat → Prop} {w : Wd} {a0 : Int32} {a1 : Int32} {z : Int32} (h : m_X3_quadrant a0 a1 = z) : Con l yX3_quadrant wsX3_quadrant { frames := 1, cells := 0, slots := 0, locals := 20 } G A [.int a0, .int a1] w (some (.int z)) w := by
  refine Con.of (own := RX3) (cc := cX3_quadrant) (maxL := 2) (ret := (some .int)) rfl (by decide) rfl (Nat.le_of_ble_eq_true rfl) ?_
  intro p e s m args below meth c C
  show V p l e { frames := 1, cells := 0, slots := 0, locals := 20 } s m args below meth c G A 2 0 [(0, .int a0), (1, .int a1)] [] w (some (.int z)) w
  unfold m_X3_quadrant at h
  refine v_iload_n C 1 dX3_quadrant_0 rfl rfl ?_
  refine v_iconst C (v := 2) dX3_quadrant_1 (by decide) ?_
  refine v_iload_n C 0 dX3_quadrant_2 rfl rfl ?_
  refine v_callSi C (av := [.int a0]) (rest := [.int 2, .int a1]) gX3_quadrant_X3_exponent rfl ⟨rfl, rfl⟩ hS_X3_exponent ⟨(Nat.le_of_ble_eq_true rfl), (Nat.le_of_ble_eq_true rfl)⟩ (r_X3_exponent (A := A) rfl) rfl rfl (Nat.le_of_ble_eq_true rfl) dX3_quadrant_3 ?_
  refine v_imul C dX3_quadrant_6 ?_
  refine v_iconst C (v := 2) dX3_quadrant_7 (by decide) ?_
  refine v_isub C dX3_quadrant_8 ?_
  refine v_at (pc' := 9) rfl ?_
  refine v_ishr C dX3_quadrant_9 ?_
  refine v_iconst C (v := 3) dX3_quadrant_10 (by decide) ?_
  refine v_iand C dX3_quadrant_11 ?_
  subst h
  exact v_iret C dX3_quadrant_12
set_option maxRecDepth 100000 in
set_option maxHeartbeats 4000000 in
theorem r_X3_gather {l : Launch} {G : GG} {A : Nat → Prop} {w : Wd} {a0 : Int32} {z : Int32} (h : m_X3_gather a0 = z) : Con l yX3_gather wsX3_gather { frames := 0, cells := 0, slots := 0, locals := 0 } G A [.int a0] w (some (.int z)) w := by
  refine Con.of (own := RX3) (cc := cX3_gather) (maxL := 2) (ret := (some .int)) rfl (by decide) rfl (Nat.le_of_ble_eq_true rfl) ?_
  intro p e s m args below meth c C
  show V p l e { frames := 0, cells := 0, slots := 0, locals := 0 } s m args below meth c G A 2 0 [(0, .int a0)] [] w (some (.int z)) w
  unfold m_X3_gather at h
  refine v_iload_n C 0 dX3_gather_0 rfl rfl ?_
  refine v_sipush C (v := 21845) dX3_gather_1 (by decide) ?_
  refine v_iand C dX3_gather_4 ?_
  refine v_istore_n C (lv' := [(1, .int (a0 &&& 21845)), (0, .int a0)]) dX3_gather_5 rfl (by decide) rfl ?_
  refine v_iload_n C 0 dX3_gather_6 rfl rfl ?_
  refine v_iload_n C 0 dX3_gather_7 rfl rfl ?_
  refine v_iconst C (v := 1) dX3_gather_8 (by decide) ?_
  refine v_at (pc' := 9) rfl ?_
  refine v_ishr C dX3_gather_9 ?_
  refine v_ior C dX3_gather_10 ?_
  refine v_sipush C (v := 13107) dX3_gather_11 (by decide) ?_
  refine v_iand C dX3_gather_14 ?_
  refine v_istore_n C (lv' := [(1, .int (((a0 &&& 21845) ||| ((a0 &&& 21845) >>> (1 &&& 31 : Int32))) &&& 13107)), (0, .int a0)]) dX3_gather_15 rfl (by decide) rfl ?_
  refine v_iload_n C 0 dX3_gather_16 rfl rfl ?_
  refine v_iload_n C 0 dX3_gather_17 rfl rfl ?_
  refine v_iconst C (v := 2) dX3_gather_18 (by decide) ?_
  refine v_at (pc' := 19) rfl ?_
  refine v_ishr C dX3_gather_19 ?_
  refine v_ior C dX3_gather_20 ?_
  refine v_sipush C (v := 3855) dX3_gather_21 (by decide) ?_
  refine v_iand C dX3_gather_24 ?_
  obtain ⟨y1, e_y1, h⟩ := nmb h
  refine v_topI e_y1 ?_
  refine v_istore_n C (lv' := [(1, .int y1), (0, .int a0)]) dX3_gather_25 rfl (by decide) rfl ?_
  refine v_iload_n C 0 dX3_gather_26 rfl rfl ?_
  refine v_iload_n C 0 dX3_gather_27 rfl rfl ?_
  refine v_iconst C (v := 4) dX3_gather_28 (by decide) ?_
  refine v_at (pc' := 29) rfl ?_
  refine v_ishr C dX3_gather_29 ?_
  refine v_ior C dX3_gather_30 ?_
  refine v_sipush C (v := 255) dX3_gather_31 (by decide) ?_
  refine v_iand C dX3_gather_34 ?_
  subst h
  exact v_iret C dX3_gather_35
theorem hS_X3_gather : yX3_gather.cls ≠ "java/lang/invoke/MethodHandle" ∧ yX3_gather.cls ≠ "java/lang/invoke/VarHandle" ∧ (parseMethodDescriptor yX3_gather.desc).map (fun d => d.parameters.length) = some 1 := by decide +kernel
set_option maxRecDepth 100000 in
set_option maxHeartbeats 4000000 in
theorem r_X3_xOf {l : Launch} {G : GG} {A : Nat → Prop} {w : Wd} {a0 : Int32} {z : Int32} (h : m_X3_xOf a0 = z) : Con l yX3_xOf wsX3_xOf { frames := 1, cells := 0, slots := 0, locals := 21 } G A [.int a0] w (some (.int z)) w := by
  refine Con.of (own := RX3) (cc := cX3_xOf) (maxL := 1) (ret := (some .int)) rfl (by decide) rfl (Nat.le_of_ble_eq_true rfl) ?_
  intro p e s m args below meth c C
  show V p l e { frames := 1, cells := 0, slots := 0, locals := 21 } s m args below meth c G A 1 0 [(0, .int a0)] [] w (some (.int z)) w
  unfold m_X3_xOf at h
  refine v_iload_n C 0 dX3_xOf_0 rfl rfl ?_
  refine v_callSi C (av := [.int a0]) (rest := []) gX3_xOf_X3_gather rfl ⟨rfl, rfl⟩ hS_X3_gather ⟨(Nat.le_of_ble_eq_true rfl), (Nat.le_of_ble_eq_true rfl)⟩ (r_X3_gather (A := A) rfl) rfl rfl (Nat.le_of_ble_eq_true rfl) dX3_xOf_1 ?_
  subst h
  exact v_iret C dX3_xOf_4
set_option maxRecDepth 100000 in
set_option maxHeartbeats 4000000 in
theorem r_X3_yOf {l : Launch} {G : GG} {A : Nat → Prop} {w : Wd} {a0 : Int32} {z : Int32} (h : m_X3_yOf a0 = z) : Con l yX3_yOf wsX3_yOf { frames := 1, cells := 0, slots := 0, locals := 21 } G A [.int a0] w (some (.int z)) w := by
  refine Con.of (own := RX3) (cc := cX3_yOf) (maxL := 1) (ret := (some .int)) rfl (by decide) rfl (Nat.le_of_ble_eq_true rfl) ?_
  intro p e s m args below meth c C
  show V p l e { frames := 1, cells := 0, slots := 0, locals := 21 } s m args below meth c G A 1 0 [(0, .int a0)] [] w (some (.int z)) w
  unfold m_X3_yOf at h
  refine v_iload_n C 0 dX3_yOf_0 rfl rfl ?_
  refine v_iconst C (v := 1) dX3_yOf_1 (by decide) ?_
  refine v_ishr C dX3_yOf_2 ?_
  refine v_callSi C (av := [.int (a0 >>> (1 &&& 31 : Int32))]) (rest := []) gX3_yOf_X3_gather rfl ⟨rfl, rfl⟩ hS_X3_gather ⟨(Nat.le_of_ble_eq_true rfl), (Nat.le_of_ble_eq_true rfl)⟩ (r_X3_gather (A := A) rfl) rfl rfl (Nat.le_of_ble_eq_true rfl) dX3_yOf_3 ?_
  subst h
  exact v_iret C dX3_yOf_6
theorem hV_X1_greatestNodeAround : yX1_greatestNodeAround.cls = RX1 ∧ yX1_greatestNodeAround.cls ≠ "java/lang/invoke/MethodHandle" ∧ yX1_greatestNodeAround.cls ≠ "java/lang/invoke/VarHandle" ∧ (parseMethodDescriptor yX1_greatestNodeAround.desc).map (fun d => d.parameters.length) = some 2 := by decide +kernel
theorem hS_X3_yOf : yX3_yOf.cls ≠ "java/lang/invoke/MethodHandle" ∧ yX3_yOf.cls ≠ "java/lang/invoke/VarHandle" ∧ (parseMethodDescriptor yX3_yOf.desc).map (fun d => d.parameters.length) = some 1 := by decide +kernel
theorem hS_X3_xOf : yX3_xOf.cls ≠ "java/lang/invoke/MethodHandle" ∧ yX3_xOf.cls ≠ "java/lang/invoke/VarHandle" ∧ (parseMethodDescriptor yX3_xOf.desc).map (fun d => d.parameters.length) = some 1 := by decide +kernel
theorem fX1_childOf_22 : Cond.fieldLink RX1 22 (TX1 1).1 (TX1 1).2.1 (TX1 1).2.2.1 ∈ wsX1_childOf := by decide +kernel
theorem inX1_childOf_X1 : ∀ x ∈ u_ws RX1 TX1 4, x ∈ wsX1_childOf := by decide +kernel
theorem fX1_childOf_9 : Cond.fieldLink RX1 9 (TX1 0).1 (TX1 0).2.1 (TX1 0).2.2.1 ∈ wsX1_childOf := by decide +kernel
theorem hS_X3_quadrant : yX3_quadrant.cls ≠ "java/lang/invoke/MethodHandle" ∧ yX3_quadrant.cls ≠ "java/lang/invoke/VarHandle" ∧ (parseMethodDescriptor yX3_quadrant.desc).map (fun d => d.parameters.length) = some 2 := by decide +kernel
theorem fX1_childOf_15 : Cond.fieldLink RX1 15 (TX1 2).1 (TX1 2).2.1 (TX1 2).2.2.1 ∈ wsX1_childOf := by decide +kernel
set_option maxRecDepth 100000 in
set_option maxHeartbeats 4000000 in
theorem r_X1_childOf_p89 {p : Program} {l : Launch} {e : Env} {s : State} {m : MethodId} {args : Array Value} {below : List Frame} {meth : Method} {c : Code} {G : GG} {A : Nat → Prop} (C : Cx p s m args meth c G A cX1_childOf 7 RX1 wsX1_childOf (some .int)) (n : Nat) {z : Int32} : ∀ (w : Wd) (a0 : Nat) (a1 : Int32) (a4 : Int32) (a5 : Int32), m_X1_childOf_p89 n w a0 a1 a4 a5 = some z → V p l e { frames := 3, cells := 0, slots := 0, locals := 64 } s m args below meth c G A 7 89 [(0, .ref a0), (1, .int a1), (4, .int a4), (5, .int a5)] [] w (some (.int z)) w := by
  intro w a0 a1 a4 a5 h
  unfold m_X1_childOf_p89 at h
  refine v_iload C 2 dX1_childOf_89 rfl ?_
  refine v_iload C 3 dX1_childOf_91 rfl ?_
  refine v_icmp_ne C (tgt := 125) dX1_childOf_93 (by decide) (fun q => ?_) (fun q => ?_)
  · have h := ite_f q h
    refine v_aload_n C 0 dX1_childOf_125 rfl rfl ?_
    refine v_iload C 2 dX1_childOf_126 rfl ?_
    refine v_iload_n C 1 dX1_childOf_128 rfl rfl ?_
    obtain ⟨u1, e_u1, h⟩ := bnd h
    obtain ⟨x2, e_x2, h⟩ := bnd h
    refine v_callVi C (ci := 1) (av := [.int a4, .int a1]) (rest := []) rfl gX1_childOf_X1_greatestNodeAround rfl ⟨rfl, rfl⟩ hV_X1_greatestNodeAround ⟨(Nat.le_of_ble_eq_true rfl), (Nat.le_of_ble_eq_true rfl)⟩ e_u1 (r_X1_greatestNodeAround (A := A) e_x2) rfl rfl (Nat.le_of_ble_eq_true rfl) dX1_childOf_129 ?_
    obtain rfl := Option.some.inj h
    exact v_iret C dX1_childOf_132
  · have h := ite_t q h
    refine v_iload C 2 dX1_childOf_96 rfl ?_
    refine v_iconst C (v := (-1)) dX1_childOf_98 (by decide) ?_
    refine v_icmp_ne C (tgt := 106) dX1_childOf_99 (by decide) (fun q => ?_) (fun q => ?_)
    · have h := ite_f q h
      refine v_sipush C (v := 1000) dX1_childOf_106 (by decide) ?_
      refine v_bipush C (v := 64) dX1_childOf_109 (by decide) ?_
      refine v_iload C 2 dX1_childOf_111 rfl ?_
      refine v_callSi C (av := [.int a4]) (rest := [.int 64, .int 1000]) gX1_childOf_X3_yOf rfl ⟨rfl, rfl⟩ hS_X3_yOf ⟨(Nat.le_of_ble_eq_true rfl), (Nat.le_of_ble_eq_true rfl)⟩ (r_X3_yOf (A := A) rfl) rfl rfl (Nat.le_of_ble_eq_true rfl) dX1_childOf_113 ?_
      refine v_imul C dX1_childOf_116 ?_
      refine v_iadd C dX1_childOf_117 ?_
      refine v_iload C 2 dX1_childOf_118 rfl ?_
      refine v_at (pc' := 120) rfl ?_
      refine v_callSi C (av := [.int a4]) (rest := [.int (1000 + (64 * (m_X3_yOf a4)))]) gX1_childOf_X3_xOf rfl ⟨rfl, rfl⟩ hS_X3_xOf ⟨(Nat.le_of_ble_eq_true rfl), (Nat.le_of_ble_eq_true rfl)⟩ (r_X3_xOf (A := A) rfl) rfl rfl (Nat.le_of_ble_eq_true rfl) dX1_childOf_120 ?_
      refine v_iadd C dX1_childOf_123 ?_
      obtain rfl := Option.some.inj h
      exact v_iret C dX1_childOf_124
    · have h := ite_t q h
      refine v_iconst C (v := (-1)) dX1_childOf_102 (by decide) ?_
      refine v_goto C (tgt := 124) dX1_childOf_103 (by decide) ?_
      obtain rfl := Option.some.inj h
      exact v_iret C dX1_childOf_124
set_option maxRecDepth 100000 in
set_option maxHeartbeats 4000000 in
theorem r_X1_childOf_p16 {p : Program} {l : Launch} {e : Env} {s : State} {m : MethodId} {args : Array Value} {below : List Frame} {meth : Method} {c : Code} {G : GG} {A : Nat → Prop} (C : Cx p s m args meth c G A cX1_childOf 7 RX1 wsX1_childOf (some .int)) (n : Nat) {z : Int32} : ∀ (t : Nat), ∀ (w : Wd) (a0 : Nat) (a1 : Int32) (a2 : Int32) (a3 : Int32) (a4 : Int32) (a5 : Int32) (a6 : Int32), m_X1_childOf_p16 n t w a0 a1 a2 a3 a4 a5 a6 = some z → V p l e { frames := 3, cells := 0, slots := 0, locals := 64 } s m args below meth c G A 7 16 [(0, .ref a0), (1, .int a1), (2, .int a2), (3, .int a3), (4, .int a4), (5, .int a5), (6, .int a6)] [] w (some (.int z)) w := by
  intro t
  induction t with
  | zero =>
    intro w a0 a1 a2 a3 a4 a5 a6 h
    rw [m_X1_childOf_p16] at h
    cases h
  | succ t ih =>
    intro w a0 a1 a2 a3 a4 a5 a6 h
    rw [m_X1_childOf_p16] at h
    refine v_iload C 6 dX1_childOf_16 rfl ?_
    refine v_aload_n C 0 dX1_childOf_18 rfl rfl ?_
    obtain ⟨x1, e_x1, h⟩ := bnd h
    refine v_getf C (ci := 1) (k := 1) rfl inX1_childOf_X1 (by decide) fX1_childOf_22 dX1_childOf_19 (gfI_e e_x1) ?_
    refine v_icmp_ge C (tgt := 89) dX1_childOf_22 (by decide) (fun q => ?_) (fun q => ?_)
    · have h := ite_t q h
      refine v_sub [0, 1, 4, 5] rfl ?_
      exact r_X1_childOf_p89 C n _ _ _ _ _ h
    · have h := ite_f q h
      refine v_iload_n C 3 dX1_childOf_25 rfl rfl ?_
      refine v_aload_n C 0 dX1_childOf_26 rfl rfl ?_
      obtain ⟨q2, e_q2, h⟩ := bnd h
      refine v_getf C (ci := 1) (k := 0) rfl inX1_childOf_X1 (by decide) fX1_childOf_9 dX1_childOf_27 (gfR_e e_q2) ?_
      refine v_iload C 6 dX1_childOf_30 rfl ?_
      obtain ⟨x3, e_x3, h⟩ := bnd h
      refine v_iald C dX1_childOf_32 e_x3 ?_
      refine v_callSi C (av := [.int a3, .int x3]) (rest := []) gX1_childOf_X3_holds rfl ⟨rfl, rfl⟩ hS_X3_holds ⟨(Nat.le_of_ble_eq_true rfl), (Nat.le_of_ble_eq_true rfl)⟩ (r_X3_holds (A := A) rfl) rfl rfl (Nat.le_of_ble_eq_true rfl) dX1_childOf_33 ?_
      refine v_if_eq C (tgt := 83) dX1_childOf_36 (by decide) (fun q => ?_) (fun q => ?_)
      · have h := ite_t q h
        refine v_iinc C (k := 6) (v := (a6 + 1)) (lv' := [(6, .int (a6 + 1)), (0, .ref a0), (1, .int a1), (2, .int a2), (3, .int a3), (4, .int a4), (5, .int a5)]) dX1_childOf_83 rfl rfl (by decide) rfl ?_
        refine v_goto C (tgt := 16) dX1_childOf_86 (by decide) ?_
        refine v_sub [1, 2, 3, 4, 5, 6, 0] rfl ?_
        exact ih _ _ _ _ _ _ _ _ h
      · have h := ite_f q h
        refine v_iload_n C 3 dX1_childOf_39 rfl rfl ?_
        refine v_aload_n C 0 dX1_childOf_40 rfl rfl ?_
        obtain ⟨q4, e_q4, h⟩ := bnd h
        refine v_getf C (ci := 1) (k := 0) rfl inX1_childOf_X1 (by decide) fX1_childOf_9 dX1_childOf_41 (gfR_e e_q4) ?_
        refine v_iload C 6 dX1_childOf_44 rfl ?_
        obtain ⟨x5, e_x5, h⟩ := bnd h
        refine v_iald C dX1_childOf_46 e_x5 ?_
        refine v_callSi C (av := [.int a3, .int x5]) (rest := []) gX1_childOf_X3_quadrant rfl ⟨rfl, rfl⟩ hS_X3_quadrant ⟨(Nat.le_of_ble_eq_true rfl), (Nat.le_of_ble_eq_true rfl)⟩ (r_X3_quadrant (A := A) rfl) rfl rfl (Nat.le_of_ble_eq_true rfl) dX1_childOf_47 ?_
        refine v_iload_n C 2 dX1_childOf_50 rfl rfl ?_
        refine v_at (pc' := 51) rfl ?_
        refine v_icmp_ne C (tgt := 83) dX1_childOf_51 (by decide) (fun q => ?_) (fun q => ?_)
        · have h := ite_f q h
          refine v_iinc C (k := 6) (v := (a6 + 1)) (lv' := [(6, .int (a6 + 1)), (0, .ref a0), (1, .int a1), (2, .int a2), (3, .int a3), (4, .int a4), (5, .int a5)]) dX1_childOf_83 rfl rfl (by decide) rfl ?_
          refine v_goto C (tgt := 16) dX1_childOf_86 (by decide) ?_
          refine v_sub [1, 2, 3, 4, 5, 6, 0] rfl ?_
          exact ih _ _ _ _ _ _ _ _ h
        · have h := ite_t q h
          refine v_iload C 4 dX1_childOf_54 rfl ?_
          refine v_iconst C (v := (-1)) dX1_childOf_56 (by decide) ?_
          refine v_icmp_ne C (tgt := 70) dX1_childOf_57 (by decide) (fun q => ?_) (fun q => ?_)
          · have h := ite_f q h
            refine v_iload C 4 dX1_childOf_70 rfl ?_
            refine v_istore C (lv' := [(4, .int a4), (0, .ref a0), (1, .int a1), (2, .int a2), (3, .int a3), (5, .int a5), (6, .int a6)]) dX1_childOf_72 (by decide) rfl ?_
            refine v_aload_n C 1 dX1_childOf_74 rfl rfl ?_
            obtain ⟨q6, e_q6, h⟩ := bnd h
            refine v_getf C (ci := 1) (k := 0) rfl inX1_childOf_X1 (by decide) fX1_childOf_9 dX1_childOf_75 (gfR_e e_q6) ?_
            refine v_iload C 6 dX1_childOf_78 rfl ?_
            obtain ⟨x7, e_x7, h⟩ := bnd h
            refine v_iald C dX1_childOf_80 e_x7 ?_
            refine v_istore C (lv' := [(5, .int x7), (4, .int a4), (0, .ref a0), (1, .int a1), (2, .int a2), (3, .int a3), (6, .int a6)]) dX1_childOf_81 (by decide) rfl ?_
            refine v_at (pc' := 83) rfl ?_
            refine v_iinc C (k := 6) (v := (a6 + 1)) (lv' := [(6, .int (a6 + 1)), (5, .int x7), (4, .int a4), (0, .ref a0), (1, .int a1), (2, .int a2), (3, .int a3)]) dX1_childOf_83 rfl rfl (by decide) rfl ?_
            refine v_goto C (tgt := 16) dX1_childOf_86 (by decide) ?_
            refine v_sub [3, 4, 5, 6, 2, 1, 0] rfl ?_
            exact ih _ _ _ _ _ _ _ _ h
          · have h := ite_t q h
            refine v_aload_n C 0 dX1_childOf_60 rfl rfl ?_
            obtain ⟨q8, e_q8, h⟩ := bnd h
            refine v_getf C (ci := 1) (k := 0) rfl inX1_childOf_X1 (by decide) fX1_childOf_9 dX1_childOf_61 (gfR_e e_q8) ?_
            refine v_iload C 6 dX1_childOf_64 rfl ?_
            obtain ⟨x9, e_x9, h⟩ := bnd h
            refine v_iald C dX1_childOf_66 e_x9 ?_
            refine v_goto C (tgt := 72) dX1_childOf_67 (by decide) ?_
            refine v_istore C (lv' := [(4, .int x9), (0, .ref a0), (1, .int a1), (2, .int a2), (3, .int a3), (5, .int a5), (6, .int a6)]) dX1_childOf_72 (by decide) rfl ?_
            refine v_aload_n C 1 dX1_childOf_74 rfl rfl ?_
            refine v_at (pc' := 75) rfl ?_
            obtain ⟨q10, e_q10, h⟩ := bnd h
            refine v_getf C (ci := 1) (k := 0) rfl inX1_childOf_X1 (by decide) fX1_childOf_9 dX1_childOf_75 (gfR_e e_q10) ?_
            refine v_iload C 6 dX1_childOf_78 rfl ?_
            obtain ⟨x11, e_x11, h⟩ := bnd h
            refine v_iald C dX1_childOf_80 e_x11 ?_
            refine v_istore C (lv' := [(5, .int x11), (4, .int x9), (0, .ref a0), (1, .int a1), (2, .int a2), (3, .int a3), (6, .int a6)]) dX1_childOf_81 (by decide) rfl ?_
            refine v_iinc C (k := 6) (v := (a6 + 1)) (lv' := [(6, .int (a6 + 1)), (5, .int x11), (4, .int x9), (0, .ref a0), (1, .int a1), (2, .int a2), (3, .int a3)]) dX1_childOf_83 rfl rfl (by decide) rfl ?_
            refine v_goto C (tgt := 16) dX1_childOf_86 (by decide) ?_
            refine v_sub [3, 4, 5, 6, 2, 1, 0] rfl ?_
            exact ih _ _ _ _ _ _ _ _ h
set_option maxRecDepth 100000 in
set_option maxHeartbeats 4000000 in
theorem r_X1_childOf {l : Launch} {G : GG} {A : Nat → Prop} {n : Nat} {w : Wd} {this : Nat} {a1 : Int32} {a2 : Int32} {z : Int32} (h : m_X1_childOf n w this a1 a2 = some z) : Con l yX1_childOf wsX1_childOf { frames := 3, cells := 0, slots := 0, locals := 64 } G A [.ref this, .int a1, .int a2] w (some (.int z)) w := by
  refine Con.of (own := RX1) (cc := cX1_childOf) (maxL := 7) (ret := (some .int)) rfl (by decide) rfl (Nat.le_of_ble_eq_true rfl) ?_
  intro p e s m args below meth c C
  show V p l e { frames := 3, cells := 0, slots := 0, locals := 64 } s m args below meth c G A 7 0 [(0, .ref this), (1, .int a1), (2, .int a2)] [] w (some (.int z)) w
  unfold m_X1_childOf at h
  refine v_aload_n C 0 dX1_childOf_0 rfl rfl ?_
  obtain ⟨q1, e_q1, h⟩ := bnd h
  refine v_getf C (ci := 1) (k := 2) rfl inX1_childOf_X1 (by decide) fX1_childOf_15 dX1_childOf_1 (gfR_e e_q1) ?_
  refine v_iload_n C 1 dX1_childOf_4 rfl rfl ?_
  obtain ⟨x2, e_x2, h⟩ := bnd h
  refine v_iald C dX1_childOf_5 e_x2 ?_
  refine v_istore_n C (lv' := [(3, .int x2), (0, .ref this), (1, .int a1), (2, .int a2)]) dX1_childOf_6 rfl (by decide) rfl ?_
  refine v_iconst C (v := (-1)) dX1_childOf_7 (by decide) ?_
  refine v_istore C (lv' := [(4, .int (-1)), (3, .int x2), (0, .ref this), (1, .int a1), (2, .int a2)]) dX1_childOf_8 (by decide) rfl ?_
  refine v_at (pc' := 10) rfl ?_
  refine v_iconst C (v := (-1)) dX1_childOf_10 (by decide) ?_
  refine v_istore C (lv' := [(5, .int (-1)), (4, .int (-1)), (3, .int x2), (0, .ref this), (1, .int a1), (2, .int a2)]) dX1_childOf_11 (by decide) rfl ?_
  refine v_iconst C (v := 0) dX1_childOf_13 (by decide) ?_
  refine v_istore C (lv' := [(6, .int 0), (5, .int (-1)), (4, .int (-1)), (3, .int x2), (0, .ref this), (1, .int a1), (2, .int a2)]) dX1_childOf_14 (by decide) rfl ?_
  refine v_sub [4, 5, 6, 3, 2, 1, 0] rfl ?_
  exact r_X1_childOf_p16 C n n _ _ _ _ _ _ _ _ h
theorem fX1_stepTowards_15 : Cond.fieldLink RX1 15 (TX1 2).1 (TX1 2).2.1 (TX1 2).2.2.1 ∈ wsX1_stepTowards := by decide +kernel
theorem inX1_stepTowards_X1 : ∀ x ∈ u_ws RX1 TX1 4, x ∈ wsX1_stepTowards := by decide +kernel
theorem hV_X1_childOf : yX1_childOf.cls = RX1 ∧ yX1_childOf.cls ≠ "java/lang/invoke/MethodHandle" ∧ yX1_childOf.cls ≠ "java/lang/invoke/VarHandle" ∧ (parseMethodDescriptor yX1_childOf.desc).map (fun d => d.parameters.length) = some 2 := by decide +kernel
set_option maxRecDepth 100000 in
set_option maxHeartbeats 4000000 in
theorem r_X1_stepTowards {l : Launch} {G : GG} {A : Nat → Prop} {n : Nat} {w : Wd} {this : Nat} {a1 : Int32} {a2 : Int32} {z : Int32} (h : m_X1_stepTowards n w this a1 a2 = some z) : Con l yX1_stepTowards wsX1_stepTowards { frames := 4, cells := 0, slots := 0, locals := 90 } G A [.ref this, .int a1, .int a2] w (some (.int z)) w := by
  refine Con.of (own := RX1) (cc := cX1_stepTowards) (maxL := 4) (ret := (some .int)) rfl (by decide) rfl (Nat.le_of_ble_eq_true rfl) ?_
  intro p e s m args below meth c C
  show V p l e { frames := 4, cells := 0, slots := 0, locals := 90 } s m args below meth c G A 4 0 [(0, .ref this), (1, .int a1), (2, .int a2)] [] w (some (.int z)) w
  unfold m_X1_stepTowards at h
  refine v_aload_n C 0 dX1_stepTowards_0 rfl rfl ?_
  refine v_iload_n C 1 dX1_stepTowards_1 rfl rfl ?_
  refine v_aload_n C 0 dX1_stepTowards_2 rfl rfl ?_
  obtain ⟨q1, e_q1, h⟩ := bnd h
  refine v_getf C (ci := 1) (k := 2) rfl inX1_stepTowards_X1 (by decide) fX1_stepTowards_15 dX1_stepTowards_3 (gfR_e e_q1) ?_
  refine v_iload_n C 1 dX1_stepTowards_6 rfl rfl ?_
  obtain ⟨x2, e_x2, h⟩ := bnd h
  refine v_iald C dX1_stepTowards_7 e_x2 ?_
  refine v_iload_n C 2 dX1_stepTowards_8 rfl rfl ?_
  refine v_at (pc' := 9) rfl ?_
  refine v_callSi C (av := [.int x2, .int a2]) (rest := [.int a1, .ref this]) gX1_stepTowards_X3_quadrant rfl ⟨rfl, rfl⟩ hS_X3_quadrant ⟨(Nat.le_of_ble_eq_true rfl), (Nat.le_of_ble_eq_true rfl)⟩ (r_X3_quadrant (A := A) rfl) rfl rfl (Nat.le_of_ble_eq_true rfl) dX1_stepTowards_9 ?_
  obtain ⟨u3, e_u3, h⟩ := bnd h
  obtain ⟨x4, e_x4, h⟩ := bnd h
  refine v_callVi C (ci := 1) (av := [.int a1, .int (m_X3_quadrant x2 a2)]) (rest := []) rfl gX1_stepTowards_X1_childOf rfl ⟨rfl, rfl⟩ hV_X1_childOf ⟨(Nat.le_of_ble_eq_true rfl), (Nat.le_of_ble_eq_true rfl)⟩ e_u3 (r_X1_childOf (A := A) e_x4) rfl rfl (Nat.le_of_ble_eq_true rfl) dX1_stepTowards_12 ?_
  refine v_istore_n C (lv' := [(3, .int x4), (0, .ref this), (1, .int a1), (2, .int a2)]) dX1_stepTowards_15 rfl (by decide) rfl ?_
  refine v_iload_n C 0 dX1_stepTowards_16 rfl rfl ?_
  refine v_iconst C (v := (-1)) dX1_stepTowards_17 (by decide) ?_
  refine v_icmp_eq C (tgt := 28) dX1_stepTowards_18 (by decide) (fun q => ?_) (fun q => ?_)
  · have h := ite_t q h
    refine v_iconst C (v := (-1)) dX1_stepTowards_28 (by decide) ?_
    obtain rfl := Option.some.inj h
    exact v_iret C dX1_stepTowards_29
  · have h := ite_f q h
    refine v_iload_n C 0 dX1_stepTowards_21 rfl rfl ?_
    refine v_sipush C (v := 1000) dX1_stepTowards_22 (by decide) ?_
    refine v_icmp_lt C (tgt := 30) dX1_stepTowards_25 (by decide) (fun q => ?_) (fun q => ?_)
    · have h := ite_t q h
      refine v_aload_n C 1 dX1_stepTowards_30 rfl rfl ?_
      obtain ⟨q5, e_q5, h⟩ := bnd h
      refine v_getf C (ci := 1) (k := 2) rfl inX1_stepTowards_X1 (by decide) fX1_stepTowards_15 dX1_stepTowards_31 (gfR_e e_q5) ?_
      refine v_iload_n C 0 dX1_stepTowards_34 rfl rfl ?_
      obtain ⟨x6, e_x6, h⟩ := bnd h
      refine v_iald C dX1_stepTowards_35 e_x6 ?_
      refine v_iload_n C 3 dX1_stepTowards_36 rfl rfl ?_
      refine v_callSi C (av := [.int x6, .int a2]) (rest := []) gX1_stepTowards_X3_holds rfl ⟨rfl, rfl⟩ hS_X3_holds ⟨(Nat.le_of_ble_eq_true rfl), (Nat.le_of_ble_eq_true rfl)⟩ (r_X3_holds (A := A) rfl) rfl rfl (Nat.le_of_ble_eq_true rfl) dX1_stepTowards_37 ?_
      refine v_if_eq C (tgt := 47) dX1_stepTowards_40 (by decide) (fun q => ?_) (fun q => ?_)
      · have h := ite_t q h
        refine v_iconst C (v := (-1)) dX1_stepTowards_47 (by decide) ?_
        obtain rfl := Option.some.inj h
        exact v_iret C dX1_stepTowards_48
      · have h := ite_f q h
        refine v_iload_n C 0 dX1_stepTowards_43 rfl rfl ?_
        refine v_goto C (tgt := 48) dX1_stepTowards_44 (by decide) ?_
        obtain rfl := Option.some.inj h
        exact v_iret C dX1_stepTowards_48
    · have h := ite_f q h
      refine v_iconst C (v := (-1)) dX1_stepTowards_28 (by decide) ?_
      obtain rfl := Option.some.inj h
      exact v_iret C dX1_stepTowards_29
theorem fX0_find_11 : Cond.fieldLink RX0 11 (TX0 0).1 (TX0 0).2.1 (TX0 0).2.2.1 ∈ wsX0_find := by decide +kernel
theorem inX0_find_X0 : ∀ x ∈ u_ws RX0 TX0 2, x ∈ wsX0_find := by decide +kernel
theorem fX0_find_77 : Cond.fieldLink RX0 77 (TX1 2).1 (TX1 2).2.1 (TX1 2).2.2.1 ∈ wsX0_find := by decide +kernel
theorem inX0_find_X1 : ∀ x ∈ u_ws RX1 TX1 4, x ∈ wsX0_find := by decide +kernel
theorem hV_X1_indexOf : yX1_indexOf.cls = RX1 ∧ yX1_indexOf.cls ≠ "java/lang/invoke/MethodHandle" ∧ yX1_indexOf.cls ≠ "java/lang/invoke/VarHandle" ∧ (parseMethodDescriptor yX1_indexOf.desc).map (fun d => d.parameters.length) = some 1 := by decide +kernel
theorem hV_X1_stepTowards : yX1_stepTowards.cls = RX1 ∧ yX1_stepTowards.cls ≠ "java/lang/invoke/MethodHandle" ∧ yX1_stepTowards.cls ≠ "java/lang/invoke/VarHandle" ∧ (parseMethodDescriptor yX1_stepTowards.desc).map (fun d => d.parameters.length) = some 2 := by decide +kernel
theorem hV_X0_greatestLevel : yX0_greatestLevel.cls = RX0 ∧ yX0_greatestLevel.cls ≠ "java/lang/invoke/MethodHandle" ∧ yX0_greatestLevel.cls ≠ "java/lang/invoke/VarHandle" ∧ (parseMethodDescriptor yX0_greatestLevel.desc).map (fun d => d.parameters.length) = some 0 := by decide +kernel
set_option maxRecDepth 100000 in
set_option maxHeartbeats 4000000 in
theorem r_X0_find_p91 {p : Program} {l : Launch} {e : Env} {s : State} {m : MethodId} {args : Array Value} {below : List Frame} {meth : Method} {c : Code} {G : GG} {A : Nat → Prop} (C : Cx p s m args meth c G A cX0_find 11 RX0 wsX0_find (some .int)) (n : Nat) {k27 : Wd → Nat → Int32 → Int32 → Int32 → Int32 → Option Int32} {z : Int32} (H27 : ∀ (w : Wd) (b0 : Nat) (b4 : Int32) (b5 : Int32) (b6 : Int32) (b7 : Int32), k27 w b0 b4 b5 b6 b7 = some z → V p l e { frames := 5, cells := 0, slots := 0, locals := 113 } s m args below meth c G A 11 27 [(0, .ref b0), (4, .int b4), (5, .int b5), (6, .int b6), (7, .int b7)] [] w (some (.int z)) w) : ∀ (w : Wd) (a0 : Nat) (a4 : Int32) (a5 : Int32) (a6 : Int32) (a7 : Int32) (a8 : Nat), m_X0_find_p91 n k27 w a0 a4 a5 a6 a7 a8 = some z → V p l e { frames := 5, cells := 0, slots := 0, locals := 113 } s m args below meth c G A 11 91 [(0, .ref a0), (4, .int a4), (5, .int a5), (6, .int a6), (7, .int a7), (8, .ref a8)] [] w (some (.int z)) w := by
  intro w a0 a4 a5 a6 a7 a8 h
  unfold m_X0_find_p91 at h
  refine v_iload C 4 dX0_find_91 rfl ?_
  refine v_if_le C (tgt := 121) dX0_find_93 (by decide) (fun q => ?_) (fun q => ?_)
  · have h := ite_t q h
    refine v_iinc C (k := 4) (v := (a7 + (-1))) (lv' := [(7, .int (a7 + (-1))), (0, .ref a0), (4, .int a4), (5, .int a5), (6, .int a6), (8, .ref a8)]) dX0_find_121 rfl rfl (by decide) rfl ?_
    refine v_goto C (tgt := 27) dX0_find_124 (by decide) ?_
    refine v_sub [1, 2, 3, 4, 0] rfl ?_
    exact H27 _ _ _ _ _ _ h
  · have h := ite_f q h
    refine v_aload_n C 0 dX0_find_96 rfl rfl ?_
    obtain ⟨q1, e_q1, h⟩ := bnd h
    refine v_getf C (ci := 0) (k := 0) rfl inX0_find_X0 (by decide) fX0_find_11 dX0_find_97 (gfR_e e_q1) ?_
    refine v_iload C 4 dX0_find_100 rfl ?_
    refine v_iconst C (v := 1) dX0_find_102 (by decide) ?_
    refine v_isub C dX0_find_103 ?_
    obtain ⟨q2, e_q2, h⟩ := bnd h
    refine v_aald3 C dX0_find_104 e_q2 ?_
    refine v_aload C 5 dX0_find_105 rfl ?_
    refine v_at (pc' := 107) rfl ?_
    obtain ⟨q3, e_q3, h⟩ := bnd h
    refine v_getf C (ci := 1) (k := 2) rfl inX0_find_X1 (by decide) fX0_find_77 dX0_find_107 (gfR_e e_q3) ?_
    refine v_iload C 3 dX0_find_110 rfl ?_
    obtain ⟨x4, e_x4, h⟩ := bnd h
    refine v_iald C dX0_find_112 e_x4 ?_
    obtain ⟨u5, e_u5, h⟩ := bnd h
    obtain ⟨x6, e_x6, h⟩ := bnd h
    refine v_callVi C (ci := 1) (av := [.int x4]) (rest := []) rfl gX0_find_X1_indexOf rfl ⟨rfl, rfl⟩ hV_X1_indexOf ⟨(Nat.le_of_ble_eq_true rfl), (Nat.le_of_ble_eq_true rfl)⟩ e_u5 (r_X1_indexOf (A := A) e_x6) rfl rfl (Nat.le_of_ble_eq_true rfl) dX0_find_113 ?_
    refine v_istore C (lv' := [(6, .int x6), (0, .ref a0), (4, .int a4), (5, .int a5), (7, .int a7), (8, .ref a8)]) dX0_find_116 (by decide) rfl ?_
    refine v_iinc C (k := 3) (v := (a5 + 1)) (lv' := [(5, .int (a5 + 1)), (6, .int x6), (0, .ref a0), (4, .int a4), (7, .int a7), (8, .ref a8)]) dX0_find_118 rfl rfl (by decide) rfl ?_
    refine v_iinc C (k := 4) (v := (a7 + (-1))) (lv' := [(7, .int (a7 + (-1))), (5, .int (a5 + 1)), (6, .int x6), (0, .ref a0), (4, .int a4), (8, .ref a8)]) dX0_find_121 rfl rfl (by decide) rfl ?_
    refine v_goto C (tgt := 27) dX0_find_124 (by decide) ?_
    refine v_sub [3, 4, 1, 2, 0] rfl ?_
    exact H27 _ _ _ _ _ _ h
set_option maxRecDepth 100000 in
set_option maxHeartbeats 4000000 in
theorem r_X0_find_p55 {p : Program} {l : Launch} {e : Env} {s : State} {m : MethodId} {args : Array Value} {below : List Frame} {meth : Method} {c : Code} {G : GG} {A : Nat → Prop} (C : Cx p s m args meth c G A cX0_find 11 RX0 wsX0_find (some .int)) (n : Nat) {k27 : Wd → Nat → Int32 → Int32 → Int32 → Int32 → Option Int32} {z : Int32} (H27 : ∀ (w : Wd) (b0 : Nat) (b4 : Int32) (b5 : Int32) (b6 : Int32) (b7 : Int32), k27 w b0 b4 b5 b6 b7 = some z → V p l e { frames := 5, cells := 0, slots := 0, locals := 113 } s m args below meth c G A 11 27 [(0, .ref b0), (4, .int b4), (5, .int b5), (6, .int b6), (7, .int b7)] [] w (some (.int z)) w) : ∀ (t : Nat), ∀ (w : Wd) (a0 : Nat) (a4 : Int32) (a5 : Int32) (a6 : Int32) (a7 : Int32) (a8 : Nat) (a9 : Int32) (a10 : Int32), m_X0_find_p55 n k27 t w a0 a4 a5 a6 a7 a8 a9 a10 = some z → V p l e { frames := 5, cells := 0, slots := 0, locals := 113 } s m args below meth c G A 11 55 [(0, .ref a0), (4, .int a4), (5, .int a5), (6, .int a6), (7, .int a7), (8, .ref a8), (9, .int a9), (10, .int a10)] [] w (some (.int z)) w := by
  intro t
  induction t with
  | zero =>
    intro w a0 a4 a5 a6 a7 a8 a9 a10 h
    rw [m_X0_find_p55] at h
    cases h
  | succ t ih =>
    intro w a0 a4 a5 a6 a7 a8 a9 a10 h
    rw [m_X0_find_p55] at h
    refine v_iload C 7 dX0_find_55 rfl ?_
    refine v_iconst C (v := 5) dX0_find_57 (by decide) ?_
    refine v_icmp_ge C (tgt := 91) dX0_find_58 (by decide) (fun q => ?_) (fun q => ?_)
    · have h := ite_t q h
      refine v_sub [0, 1, 2, 3, 4, 5] rfl ?_
      exact r_X0_find_p91 C n H27 _ _ _ _ _ _ _ h
    · have h := ite_f q h
      refine v_iload C 6 dX0_find_61 rfl ?_
      refine v_iconst C (v := (-1)) dX0_find_63 (by decide) ?_
      refine v_icmp_eq C (tgt := 91) dX0_find_64 (by decide) (fun q => ?_) (fun q => ?_)
      · have h := ite_t q h
        refine v_sub [0, 1, 2, 3, 4, 5] rfl ?_
        exact r_X0_find_p91 C n H27 _ _ _ _ _ _ _ h
      · have h := ite_f q h
        refine v_iload C 6 dX0_find_67 rfl ?_
        refine v_istore C (lv' := [(6, .int a9), (0, .ref a0), (4, .int a4), (5, .int a5), (7, .int a7), (8, .ref a8), (9, .int a9), (10, .int a10)]) dX0_find_69 (by decide) rfl ?_
        refine v_iinc C (k := 3) (v := (a5 + 1)) (lv' := [(5, .int (a5 + 1)), (6, .int a9), (0, .ref a0), (4, .int a4), (7, .int a7), (8, .ref a8), (9, .int a9), (10, .int a10)]) dX0_find_71 rfl rfl (by decide) rfl ?_
        refine v_aload C 5 dX0_find_74 rfl ?_
        refine v_iload C 1 dX0_find_76 rfl ?_
        refine v_iload C 3 dX0_find_78 rfl ?_
        obtain ⟨u1, e_u1, h⟩ := bnd h
        obtain ⟨x2, e_x2, h⟩ := bnd h
        refine v_callVi C (ci := 1) (av := [.int a9, .int a4]) (rest := []) rfl gX0_find_X1_stepTowards rfl ⟨rfl, rfl⟩ hV_X1_stepTowards ⟨(Nat.le_of_ble_eq_true rfl), (Nat.le_of_ble_eq_true rfl)⟩ e_u1 (r_X1_stepTowards (A := A) e_x2) rfl rfl (Nat.le_of_ble_eq_true rfl) dX0_find_80 ?_
        refine v_at (pc' := 83) rfl ?_
        refine v_istore C (lv' := [(9, .int x2), (5, .int (a5 + 1)), (6, .int a9), (0, .ref a0), (4, .int a4), (7, .int a7), (8, .ref a8), (10, .int a10)]) dX0_find_83 (by decide) rfl ?_
        refine v_iinc C (k := 7) (v := (a10 + 1)) (lv' := [(10, .int (a10 + 1)), (9, .int x2), (5, .int (a5 + 1)), (6, .int a9), (0, .ref a0), (4, .int a4), (7, .int a7), (8, .ref a8)]) dX0_find_85 rfl rfl (by decide) rfl ?_
        refine v_goto C (tgt := 55) dX0_find_88 (by decide) ?_
        refine v_sub [4, 5, 2, 3, 6, 7, 1, 0] rfl ?_
        exact ih _ _ _ _ _ _ _ _ _ h
set_option maxRecDepth 100000 in
set_option maxHeartbeats 4000000 in
theorem r_X0_find_p127 {p : Program} {l : Launch} {e : Env} {s : State} {m : MethodId} {args : Array Value} {below : List Frame} {meth : Method} {c : Code} {G : GG} {A : Nat → Prop} (C : Cx p s m args meth c G A cX0_find 11 RX0 wsX0_find (some .int)) (n : Nat) {z : Int32} : ∀ (w : Wd) (a5 : Int32) (a6 : Int32), m_X0_find_p127 n w a5 a6 = some z → V p l e { frames := 5, cells := 0, slots := 0, locals := 113 } s m args below meth c G A 11 127 [(5, .int a5), (6, .int a6)] [] w (some (.int z)) w := by
  intro w a5 a6 h
  unfold m_X0_find_p127 at h
  refine v_iload C 0 dX0_find_127 rfl ?_
  refine v_bipush C (v := 32) dX0_find_129 (by decide) ?_
  refine v_imul C dX0_find_131 ?_
  refine v_iload C 1 dX0_find_132 rfl ?_
  refine v_iadd C dX0_find_134 ?_
  obtain rfl := Option.some.inj h
  exact v_iret C dX0_find_135
set_option maxRecDepth 100000 in
set_option maxHeartbeats 4000000 in
theorem r_X0_find_p27 {p : Program} {l : Launch} {e : Env} {s : State} {m : MethodId} {args : Array Value} {below : List Frame} {meth : Method} {c : Code} {G : GG} {A : Nat → Prop} (C : Cx p s m args meth c G A cX0_find 11 RX0 wsX0_find (some .int)) (n : Nat) {z : Int32} : ∀ (t : Nat), ∀ (w : Wd) (a0 : Nat) (a4 : Int32) (a5 : Int32) (a6 : Int32) (a7 : Int32), m_X0_find_p27 n t w a0 a4 a5 a6 a7 = some z → V p l e { frames := 5, cells := 0, slots := 0, locals := 113 } s m args below meth c G A 11 27 [(0, .ref a0), (4, .int a4), (5, .int a5), (6, .int a6), (7, .int a7)] [] w (some (.int z)) w := by
  intro t
  induction t with
  | zero =>
    intro w a0 a4 a5 a6 a7 h
    rw [m_X0_find_p27] at h
    cases h
  | succ t ih =>
    intro w a0 a4 a5 a6 a7 h
    rw [m_X0_find_p27] at h
    refine v_iload C 4 dX0_find_27 rfl ?_
    refine v_if_lt C (tgt := 127) dX0_find_29 (by decide) (fun q => ?_) (fun q => ?_)
    · have h := ite_t q h
      refine v_sub [2, 3] rfl ?_
      exact r_X0_find_p127 C n _ _ _ h
    · have h := ite_f q h
      refine v_aload_n C 0 dX0_find_32 rfl rfl ?_
      obtain ⟨q1, e_q1, h⟩ := bnd h
      refine v_getf C (ci := 0) (k := 0) rfl inX0_find_X0 (by decide) fX0_find_11 dX0_find_33 (gfR_e e_q1) ?_
      refine v_iload C 4 dX0_find_36 rfl ?_
      obtain ⟨q2, e_q2, h⟩ := bnd h
      refine v_aald3 C dX0_find_38 e_q2 ?_
      refine v_astore C (lv' := [(8, .ref q2), (0, .ref a0), (4, .int a4), (5, .int a5), (6, .int a6), (7, .int a7)]) dX0_find_39 (by decide) rfl ?_
      refine v_aload C 0 dX0_find_41 rfl ?_
      refine v_iload C 4 dX0_find_43 rfl ?_
      refine v_at (pc' := 45) rfl ?_
      refine v_iload C 2 dX0_find_45 rfl ?_
      obtain ⟨u3, e_u3, h⟩ := bnd h
      obtain ⟨x4, e_x4, h⟩ := bnd h
      refine v_callVi C (ci := 1) (av := [.int a6, .int a4]) (rest := []) rfl gX0_find_X1_stepTowards rfl ⟨rfl, rfl⟩ hV_X1_stepTowards ⟨(Nat.le_of_ble_eq_true rfl), (Nat.le_of_ble_eq_true rfl)⟩ e_u3 (r_X1_stepTowards (A := A) e_x4) rfl rfl (Nat.le_of_ble_eq_true rfl) dX0_find_47 ?_
      refine v_istore C (lv' := [(9, .int x4), (8, .ref q2), (0, .ref a0), (4, .int a4), (5, .int a5), (6, .int a6), (7, .int a7)]) dX0_find_50 (by decide) rfl ?_
      refine v_iconst C (v := 0) dX0_find_52 (by decide) ?_
      refine v_istore C (lv' := [(10, .int 0), (9, .int x4), (8, .ref q2), (0, .ref a0), (4, .int a4), (5, .int a5), (6, .int a6), (7, .int a7)]) dX0_find_53 (by decide) rfl ?_
      refine v_sub [3, 4, 5, 6, 7, 2, 1, 0] rfl ?_
      exact r_X0_find_p55 C n ih n _ _ _ _ _ _ _ _ _ h
set_option maxRecDepth 100000 in
set_option maxHeartbeats 4000000 in
theorem r_X0_find {l : Launch} {G : GG} {A : Nat → Prop} {n : Nat} {w : Wd} {this : Nat} {a1 : Int32} {a2 : Int32} {a3 : Int32} {z : Int32} (h : m_X0_find n w this a1 a2 a3 = some z) : Con l yX0_find wsX0_find { frames := 5, cells := 0, slots := 0, locals := 113 } G A [.ref this, .int a1, .int a2, .int a3] w (some (.int z)) w := by
  refine Con.of (own := RX0) (cc := cX0_find) (maxL := 11) (ret := (some .int)) rfl (by decide) rfl (Nat.le_of_ble_eq_true rfl) ?_
  intro p e s m args below meth c C
  show V p l e { frames := 5, cells := 0, slots := 0, locals := 113 } s m args below meth c G A 11 0 [(0, .ref this), (1, .int a1), (2, .int a2), (3, .int a3)] [] w (some (.int z)) w
  unfold m_X0_find at h
  refine v_iload_n C 1 dX0_find_0 rfl rfl ?_
  refine v_iload_n C 2 dX0_find_1 rfl rfl ?_
  refine v_callSi C (av := [.int a1, .int a2]) (rest := []) gX0_find_X3_code rfl ⟨rfl, rfl⟩ hS_X3_code ⟨(Nat.le_of_ble_eq_true rfl), (Nat.le_of_ble_eq_true rfl)⟩ (r_X3_code (A := A) rfl) rfl rfl (Nat.le_of_ble_eq_true rfl) dX0_find_2 ?_
  refine v_istore C (lv' := [(4, .int (m_X3_code a1 a2)), (0, .ref this), (1, .int a1), (2, .int a2), (3, .int a3)]) dX0_find_5 (by decide) rfl ?_
  refine v_iconst C (v := 0) dX0_find_7 (by decide) ?_
  refine v_istore C (lv' := [(5, .int 0), (4, .int (m_X3_code a1 a2)), (0, .ref this), (1, .int a1), (2, .int a2), (3, .int a3)]) dX0_find_8 (by decide) rfl ?_
  refine v_iconst C (v := 0) dX0_find_10 (by decide) ?_
  refine v_at (pc' := 11) rfl ?_
  refine v_istore C (lv' := [(6, .int 0), (5, .int 0), (4, .int (m_X3_code a1 a2)), (0, .ref this), (1, .int a1), (2, .int a2), (3, .int a3)]) dX0_find_11 (by decide) rfl ?_
  refine v_iload_n C 6 dX0_find_13 rfl rfl ?_
  refine v_if_eq C (tgt := 24) dX0_find_14 (by decide) (fun q => ?_) (fun q => ?_)
  · have h := ite_t q h
    refine v_iconst C (v := 0) dX0_find_24 (by decide) ?_
    refine v_istore C (lv' := [(7, .int 0), (6, .int 0), (5, .int 0), (4, .int (m_X3_code a1 a2)), (0, .ref this), (1, .int a1), (2, .int a2), (3, .int a3)]) dX0_find_25 (by decide) rfl ?_
    refine v_sub [4, 3, 2, 1, 0] rfl ?_
    exact r_X0_find_p27 C n n _ _ _ _ _ _ h
  · have h := ite_f q h
    refine v_aload_n C 3 dX0_find_17 rfl rfl ?_
    obtain ⟨u1, e_u1, h⟩ := bnd h
    obtain ⟨x2, e_x2, h⟩ := bnd h
    refine v_callVi C (ci := 0) (av := []) (rest := []) rfl gX0_find_X0_greatestLevel rfl ⟨rfl, rfl⟩ hV_X0_greatestLevel ⟨(Nat.le_of_ble_eq_true rfl), (Nat.le_of_ble_eq_true rfl)⟩ e_u1 (r_X0_greatestLevel (A := A) e_x2) rfl rfl (Nat.le_of_ble_eq_true rfl) dX0_find_18 ?_
    refine v_goto C (tgt := 25) dX0_find_21 (by decide) ?_
    refine v_istore C (lv' := [(7, .int x2), (6, .int 0), (5, .int 0), (4, .int (m_X3_code a1 a2)), (0, .ref this), (1, .int a1), (2, .int a2), (3, .int a3)]) dX0_find_25 (by decide) rfl ?_
    refine v_sub [4, 3, 2, 1, 0] rfl ?_
    exact r_X0_find_p27 C n n _ _ _ _ _ _ h
theorem fX1_depthOf_15 : Cond.fieldLink RX1 15 (TX1 2).1 (TX1 2).2.1 (TX1 2).2.2.1 ∈ wsX1_depthOf := by decide +kernel
theorem inX1_depthOf_X1 : ∀ x ∈ u_ws RX1 TX1 4, x ∈ wsX1_depthOf := by decide +kernel
set_option maxRecDepth 100000 in
set_option maxHeartbeats 4000000 in
theorem r_X1_depthOf_p4 {p : Program} {l : Launch} {e : Env} {s : State} {m : MethodId} {args : Array Value} {below : List Frame} {meth : Method} {c : Code} {G : GG} {A : Nat → Prop} (C : Cx p s m args meth c G A cX1_depthOf 4 RX1 wsX1_depthOf (some .int)) (n : Nat) {z : Int32} : ∀ (t : Nat), ∀ (w : Wd) (a0 : Nat) (a1 : Int32) (a2 : Int32) (a3 : Int32), m_X1_depthOf_p4 n t w a0 a1 a2 a3 = some z → V p l e { frames := 2, cells := 0, slots := 0, locals := 41 } s m args below meth c G A 4 4 [(0, .ref a0), (1, .int a1), (2, .int a2), (3, .int a3)] [] w (some (.int z)) w := by
  intro t
  induction t with
  | zero =>
    intro w a0 a1 a2 a3 h
    rw [m_X1_depthOf_p4] at h
    cases h
  | succ t ih =>
    intro w a0 a1 a2 a3 h
    rw [m_X1_depthOf_p4] at h
    refine v_iload_n C 3 dX1_depthOf_4 rfl rfl ?_
    refine v_iload_n C 1 dX1_depthOf_5 rfl rfl ?_
    refine v_icmp_ge C (tgt := 39) dX1_depthOf_6 (by decide) (fun q => ?_) (fun q => ?_)
    · have h := ite_t q h
      refine v_iload_n C 2 dX1_depthOf_39 rfl rfl ?_
      obtain rfl := Option.some.inj h
      exact v_iret C dX1_depthOf_40
    · have h := ite_f q h
      refine v_aload_n C 0 dX1_depthOf_9 rfl rfl ?_
      obtain ⟨q1, e_q1, h⟩ := bnd h
      refine v_getf C (ci := 1) (k := 2) rfl inX1_depthOf_X1 (by decide) fX1_depthOf_15 dX1_depthOf_10 (gfR_e e_q1) ?_
      refine v_iload_n C 3 dX1_depthOf_13 rfl rfl ?_
      obtain ⟨x2, e_x2, h⟩ := bnd h
      refine v_iald C dX1_depthOf_14 e_x2 ?_
      refine v_aload_n C 0 dX1_depthOf_15 rfl rfl ?_
      obtain ⟨q3, e_q3, h⟩ := bnd h
      refine v_getf C (ci := 1) (k := 2) rfl inX1_depthOf_X1 (by decide) fX1_depthOf_15 dX1_depthOf_16 (gfR_e e_q3) ?_
      refine v_iload_n C 1 dX1_depthOf_19 rfl rfl ?_
      refine v_at (pc' := 20) rfl ?_
      obtain ⟨x4, e_x4, h⟩ := bnd h
      refine v_iald C dX1_depthOf_20 e_x4 ?_
      refine v_callSi C (av := [.int x4]) (rest := [.int x2]) gX1_depthOf_X3_corner rfl ⟨rfl, rfl⟩ hS_X3_corner ⟨(Nat.le_of_ble_eq_true rfl), (Nat.le_of_ble_eq_true rfl)⟩ (r_X3_corner (A := A) rfl) rfl rfl (Nat.le_of_ble_eq_true rfl) dX1_depthOf_21 ?_
      refine v_callSi C (av := [.int x2, .int (m_X3_corner x4)]) (rest := []) gX1_depthOf_X3_holds rfl ⟨rfl, rfl⟩ hS_X3_holds ⟨(Nat.le_of_ble_eq_true rfl), (Nat.le_of_ble_eq_true rfl)⟩ (r_X3_holds (A := A) rfl) rfl rfl (Nat.le_of_ble_eq_true rfl) dX1_depthOf_24 ?_
      refine v_if_eq C (tgt := 33) dX1_depthOf_27 (by decide) (fun q => ?_) (fun q => ?_)
      · have h := ite_t q h
        refine v_iinc C (k := 3) (v := (a3 + 1)) (lv' := [(3, .int (a3 + 1)), (0, .ref a0), (1, .int a1), (2, .int a2)]) dX1_depthOf_33 rfl rfl (by decide) rfl ?_
        refine v_goto C (tgt := 4) dX1_depthOf_36 (by decide) ?_
        refine v_sub [1, 2, 3, 0] rfl ?_
        exact ih _ _ _ _ _ h
      · have h := ite_f q h
        refine v_iinc C (k := 2) (v := (a2 + 1)) (lv' := [(2, .int (a2 + 1)), (0, .ref a0), (1, .int a1), (3, .int a3)]) dX1_depthOf_30 rfl rfl (by decide) rfl ?_
        refine v_iinc C (k := 3) (v := (a3 + 1)) (lv' := [(3, .int (a3 + 1)), (2, .int (a2 + 1)), (0, .ref a0), (1, .int a1)]) dX1_depthOf_33 rfl rfl (by decide) rfl ?_
        refine v_goto C (tgt := 4) dX1_depthOf_36 (by decide) ?_
        refine v_sub [2, 3, 1, 0] rfl ?_
        exact ih _ _ _ _ _ h
set_option maxRecDepth 100000 in
set_option maxHeartbeats 4000000 in
theorem r_X1_depthOf {l : Launch} {G : GG} {A : Nat → Prop} {n : Nat} {w : Wd} {this : Nat} {a1 : Int32} {z : Int32} (h : m_X1_depthOf n w this a1 = some z) : Con l yX1_depthOf wsX1_depthOf { frames := 2, cells := 0, slots := 0, locals := 41 } G A [.ref this, .int a1] w (some (.int z)) w := by
  refine Con.of (own := RX1) (cc := cX1_depthOf) (maxL := 4) (ret := (some .int)) rfl (by decide) rfl (Nat.le_of_ble_eq_true rfl) ?_
  intro p e s m args below meth c C
  show V p l e { frames := 2, cells := 0, slots := 0, locals := 41 } s m args below meth c G A 4 0 [(0, .ref this), (1, .int a1)] [] w (some (.int z)) w
  unfold m_X1_depthOf at h
  refine v_iconst C (v := 0) dX1_depthOf_0 (by decide) ?_
  refine v_istore_n C (lv' := [(2, .int 0), (0, .ref this), (1, .int a1)]) dX1_depthOf_1 rfl (by decide) rfl ?_
  refine v_iconst C (v := 0) dX1_depthOf_2 (by decide) ?_
  refine v_istore_n C (lv' := [(3, .int 0), (2, .int 0), (0, .ref this), (1, .int a1)]) dX1_depthOf_3 rfl (by decide) rfl ?_
  refine v_sub [2, 3, 1, 0] rfl ?_
  exact r_X1_depthOf_p4 C n n _ _ _ _ _ h
theorem fX1_greatestDepth_18 : Cond.fieldLink RX1 18 (TX1 3).1 (TX1 3).2.1 (TX1 3).2.2.1 ∈ wsX1_greatestDepth := by decide +kernel
theorem inX1_greatestDepth_X1 : ∀ x ∈ u_ws RX1 TX1 4, x ∈ wsX1_greatestDepth := by decide +kernel
theorem hV_X1_depthOf : yX1_depthOf.cls = RX1 ∧ yX1_depthOf.cls ≠ "java/lang/invoke/MethodHandle" ∧ yX1_depthOf.cls ≠ "java/lang/invoke/VarHandle" ∧ (parseMethodDescriptor yX1_depthOf.desc).map (fun d => d.parameters.length) = some 1 := by decide +kernel
theorem mlX1_greatestDepth_52 : Cond.methodLink RX1 52 Lib.Math.max.name ∈ wsX1_greatestDepth := by decide +kernel
theorem msX1_greatestDepth_max : Cond.static Lib.Math.max.name ∈ wsX1_greatestDepth := by decide +kernel
theorem miX1_greatestDepth : Cond.initialized "java/lang/Math" ∈ wsX1_greatestDepth := by decide +kernel
theorem mcX1_greatestDepth_max : Cond.code Lib.Math.max.name Lib.Math.max.code 2 (some .int) ∈ wsX1_greatestDepth := by decide +kernel
set_option maxRecDepth 100000 in
set_option maxHeartbeats 4000000 in
theorem r_X1_greatestDepth_p4 {p : Program} {l : Launch} {e : Env} {s : State} {m : MethodId} {args : Array Value} {below : List Frame} {meth : Method} {c : Code} {G : GG} {A : Nat → Prop} (C : Cx p s m args meth c G A cX1_greatestDepth 3 RX1 wsX1_greatestDepth (some .int)) (n : Nat) {z : Int32} : ∀ (t : Nat), ∀ (w : Wd) (a0 : Nat) (a1 : Int32) (a2 : Int32), m_X1_greatestDepth_p4 n t w a0 a1 a2 = some z → V p l e { frames := 3, cells := 0, slots := 0, locals := 64 } s m args below meth c G A 3 4 [(0, .ref a0), (1, .int a1), (2, .int a2)] [] w (some (.int z)) w := by
  intro t
  induction t with
  | zero =>
    intro w a0 a1 a2 h
    rw [m_X1_greatestDepth_p4] at h
    cases h
  | succ t ih =>
    intro w a0 a1 a2 h
    rw [m_X1_greatestDepth_p4] at h
    refine v_iload_n C 2 dX1_greatestDepth_4 rfl rfl ?_
    refine v_aload_n C 0 dX1_greatestDepth_5 rfl rfl ?_
    obtain ⟨x1, e_x1, h⟩ := bnd h
    refine v_getf C (ci := 1) (k := 3) rfl inX1_greatestDepth_X1 (by decide) fX1_greatestDepth_18 dX1_greatestDepth_6 (gfI_e e_x1) ?_
    refine v_icmp_ge C (tgt := 28) dX1_greatestDepth_9 (by decide) (fun q => ?_) (fun q => ?_)
    · have h := ite_t q h
      refine v_iload_n C 1 dX1_greatestDepth_28 rfl rfl ?_
      obtain rfl := Option.some.inj h
      exact v_iret C dX1_greatestDepth_29
    · have h := ite_f q h
      refine v_iload_n C 1 dX1_greatestDepth_12 rfl rfl ?_
      refine v_aload_n C 0 dX1_greatestDepth_13 rfl rfl ?_
      refine v_iload_n C 2 dX1_greatestDepth_14 rfl rfl ?_
      obtain ⟨u2, e_u2, h⟩ := bnd h
      obtain ⟨x3, e_x3, h⟩ := bnd h
      refine v_callVi C (ci := 1) (av := [.int a2]) (rest := [.int a1]) rfl gX1_greatestDepth_X1_depthOf rfl ⟨rfl, rfl⟩ hV_X1_depthOf ⟨(Nat.le_of_ble_eq_true rfl), (Nat.le_of_ble_eq_true rfl)⟩ e_u2 (r_X1_depthOf (A := A) e_x3) rfl rfl (Nat.le_of_ble_eq_true rfl) dX1_greatestDepth_15 ?_
      refine v_max C mlX1_greatestDepth_52 msX1_greatestDepth_max miX1_greatestDepth mcX1_greatestDepth_max (Nat.le_of_ble_eq_true rfl) (Nat.le_of_ble_eq_true rfl) dX1_greatestDepth_18 ?_
      refine v_istore_n C (lv' := [(1, .int (mxI a1 x3)), (0, .ref a0), (2, .int a2)]) dX1_greatestDepth_21 rfl (by decide) rfl ?_
      refine v_iinc C (k := 2) (v := (a2 + 1)) (lv' := [(2, .int (a2 + 1)), (1, .int (mxI a1 x3)), (0, .ref a0)]) dX1_greatestDepth_22 rfl rfl (by decide) rfl ?_
      refine v_at (pc' := 25) rfl ?_
      refine v_goto C (tgt := 4) dX1_greatestDepth_25 (by decide) ?_
      refine v_sub [2, 1, 0] rfl ?_
      exact ih _ _ _ _ h
set_option maxRecDepth 100000 in
set_option maxHeartbeats 4000000 in
theorem r_X1_greatestDepth {l : Launch} {G : GG} {A : Nat → Prop} {n : Nat} {w : Wd} {this : Nat} {z : Int32} (h : m_X1_greatestDepth n w this = some z) : Con l yX1_greatestDepth wsX1_greatestDepth { frames := 3, cells := 0, slots := 0, locals := 64 } G A [.ref this] w (some (.int z)) w := by
  refine Con.of (own := RX1) (cc := cX1_greatestDepth) (maxL := 3) (ret := (some .int)) rfl (by decide) rfl (Nat.le_of_ble_eq_true rfl) ?_
  intro p e s m args below meth c C
  show V p l e { frames := 3, cells := 0, slots := 0, locals := 64 } s m args below meth c G A 3 0 [(0, .ref this)] [] w (some (.int z)) w
  unfold m_X1_greatestDepth at h
  refine v_iconst C (v := 0) dX1_greatestDepth_0 (by decide) ?_
  refine v_istore_n C (lv' := [(1, .int 0), (0, .ref this)]) dX1_greatestDepth_1 rfl (by decide) rfl ?_
  refine v_iconst C (v := 0) dX1_greatestDepth_2 (by decide) ?_
  refine v_istore_n C (lv' := [(2, .int 0), (1, .int 0), (0, .ref this)]) dX1_greatestDepth_3 rfl (by decide) rfl ?_
  refine v_sub [2, 1, 0] rfl ?_
  exact r_X1_greatestDepth_p4 C n n _ _ _ _ h
theorem fX1_pointsIn_22 : Cond.fieldLink RX1 22 (TX1 1).1 (TX1 1).2.1 (TX1 1).2.2.1 ∈ wsX1_pointsIn := by decide +kernel
theorem inX1_pointsIn_X1 : ∀ x ∈ u_ws RX1 TX1 4, x ∈ wsX1_pointsIn := by decide +kernel
theorem fX1_pointsIn_9 : Cond.fieldLink RX1 9 (TX1 0).1 (TX1 0).2.1 (TX1 0).2.2.1 ∈ wsX1_pointsIn := by decide +kernel
set_option maxRecDepth 100000 in
set_option maxHeartbeats 4000000 in
theorem r_X1_pointsIn_p4 {p : Program} {l : Launch} {e : Env} {s : State} {m : MethodId} {args : Array Value} {below : List Frame} {meth : Method} {c : Code} {G : GG} {A : Nat → Prop} (C : Cx p s m args meth c G A cX1_pointsIn 4 RX1 wsX1_pointsIn (some .int)) (n : Nat) {z : Int32} : ∀ (t : Nat), ∀ (w : Wd) (a0 : Nat) (a1 : Int32) (a2 : Int32) (a3 : Int32), m_X1_pointsIn_p4 n t w a0 a1 a2 a3 = some z → V p l e { frames := 2, cells := 0, slots := 0, locals := 41 } s m args below meth c G A 4 4 [(0, .ref a0), (1, .int a1), (2, .int a2), (3, .int a3)] [] w (some (.int z)) w := by
  intro t
  induction t with
  | zero =>
    intro w a0 a1 a2 a3 h
    rw [m_X1_pointsIn_p4] at h
    cases h
  | succ t ih =>
    intro w a0 a1 a2 a3 h
    rw [m_X1_pointsIn_p4] at h
    refine v_iload_n C 3 dX1_pointsIn_4 rfl rfl ?_
    refine v_aload_n C 0 dX1_pointsIn_5 rfl rfl ?_
    obtain ⟨x1, e_x1, h⟩ := bnd h
    refine v_getf C (ci := 1) (k := 1) rfl inX1_pointsIn_X1 (by decide) fX1_pointsIn_22 dX1_pointsIn_6 (gfI_e e_x1) ?_
    refine v_icmp_ge C (tgt := 34) dX1_pointsIn_9 (by decide) (fun q => ?_) (fun q => ?_)
    · have h := ite_t q h
      refine v_iload_n C 2 dX1_pointsIn_34 rfl rfl ?_
      obtain rfl := Option.some.inj h
      exact v_iret C dX1_pointsIn_35
    · have h := ite_f q h
      refine v_iload_n C 1 dX1_pointsIn_12 rfl rfl ?_
      refine v_aload_n C 0 dX1_pointsIn_13 rfl rfl ?_
      obtain ⟨q2, e_q2, h⟩ := bnd h
      refine v_getf C (ci := 1) (k := 0) rfl inX1_pointsIn_X1 (by decide) fX1_pointsIn_9 dX1_pointsIn_14 (gfR_e e_q2) ?_
      refine v_iload_n C 3 dX1_pointsIn_17 rfl rfl ?_
      obtain ⟨x3, e_x3, h⟩ := bnd h
      refine v_iald C dX1_pointsIn_18 e_x3 ?_
      refine v_callSi C (av := [.int a1, .int x3]) (rest := []) gX1_pointsIn_X3_holds rfl ⟨rfl, rfl⟩ hS_X3_holds ⟨(Nat.le_of_ble_eq_true rfl), (Nat.le_of_ble_eq_true rfl)⟩ (r_X3_holds (A := A) rfl) rfl rfl (Nat.le_of_ble_eq_true rfl) dX1_pointsIn_19 ?_
      refine v_if_eq C (tgt := 28) dX1_pointsIn_22 (by decide) (fun q => ?_) (fun q => ?_)
      · have h := ite_t q h
        refine v_iinc C (k := 3) (v := (a3 + 1)) (lv' := [(3, .int (a3 + 1)), (0, .ref a0), (1, .int a1), (2, .int a2)]) dX1_pointsIn_28 rfl rfl (by decide) rfl ?_
        refine v_goto C (tgt := 4) dX1_pointsIn_31 (by decide) ?_
        refine v_sub [1, 2, 3, 0] rfl ?_
        exact ih _ _ _ _ _ h
      · have h := ite_f q h
        refine v_iinc C (k := 2) (v := (a2 + 1)) (lv' := [(2, .int (a2 + 1)), (0, .ref a0), (1, .int a1), (3, .int a3)]) dX1_pointsIn_25 rfl rfl (by decide) rfl ?_
        refine v_iinc C (k := 3) (v := (a3 + 1)) (lv' := [(3, .int (a3 + 1)), (2, .int (a2 + 1)), (0, .ref a0), (1, .int a1)]) dX1_pointsIn_28 rfl rfl (by decide) rfl ?_
        refine v_goto C (tgt := 4) dX1_pointsIn_31 (by decide) ?_
        refine v_sub [2, 3, 1, 0] rfl ?_
        exact ih _ _ _ _ _ h
set_option maxRecDepth 100000 in
set_option maxHeartbeats 4000000 in
theorem r_X1_pointsIn {l : Launch} {G : GG} {A : Nat → Prop} {n : Nat} {w : Wd} {this : Nat} {a1 : Int32} {z : Int32} (h : m_X1_pointsIn n w this a1 = some z) : Con l yX1_pointsIn wsX1_pointsIn { frames := 2, cells := 0, slots := 0, locals := 41 } G A [.ref this, .int a1] w (some (.int z)) w := by
  refine Con.of (own := RX1) (cc := cX1_pointsIn) (maxL := 4) (ret := (some .int)) rfl (by decide) rfl (Nat.le_of_ble_eq_true rfl) ?_
  intro p e s m args below meth c C
  show V p l e { frames := 2, cells := 0, slots := 0, locals := 41 } s m args below meth c G A 4 0 [(0, .ref this), (1, .int a1)] [] w (some (.int z)) w
  unfold m_X1_pointsIn at h
  refine v_iconst C (v := 0) dX1_pointsIn_0 (by decide) ?_
  refine v_istore_n C (lv' := [(2, .int 0), (0, .ref this), (1, .int a1)]) dX1_pointsIn_1 rfl (by decide) rfl ?_
  refine v_iconst C (v := 0) dX1_pointsIn_2 (by decide) ?_
  refine v_istore_n C (lv' := [(3, .int 0), (2, .int 0), (0, .ref this), (1, .int a1)]) dX1_pointsIn_3 rfl (by decide) rfl ?_
  refine v_sub [2, 3, 1, 0] rfl ?_
  exact r_X1_pointsIn_p4 C n n _ _ _ _ _ h
theorem cJ6_bitCount_0f7a4_265 : Cond.constant RJ6 265 (1431655765) ∈ wsJ6_bitCount_0f7a4 := by decide +kernel
theorem cJ6_bitCount_0f7a4_266 : Cond.constant RJ6 266 (858993459) ∈ wsJ6_bitCount_0f7a4 := by decide +kernel
theorem cJ6_bitCount_0f7a4_267 : Cond.constant RJ6 267 (252645135) ∈ wsJ6_bitCount_0f7a4 := by decide +kernel
set_option maxRecDepth 100000 in
set_option maxHeartbeats 4000000 in
theorem r_J6_bitCount_0f7a4 {l : Launch} {G : GG} {A : Nat → Prop} {w : Wd} {a0 : Int32} {z : Int32} (h : m_J6_bitCount_0f7a4 a0 = z) : Con l yJ6_bitCount_0f7a4 wsJ6_bitCount_0f7a4 { frames := 0, cells := 0, slots := 0, locals := 0 } G A [.int a0] w (some (.int z)) w := by
  refine Con.of (own := RJ6) (cc := cJ6_bitCount_0f7a4) (maxL := 1) (ret := (some .int)) rfl (by decide) rfl (Nat.le_of_ble_eq_true rfl) ?_
  intro p e s m args below meth c C
  show V p l e { frames := 0, cells := 0, slots := 0, locals := 0 } s m args below meth c G A 1 0 [(0, .int a0)] [] w (some (.int z)) w
  unfold m_J6_bitCount_0f7a4 at h
  refine v_iload_n C 0 dJ6_bitCount_0f7a4_0 rfl rfl ?_
  refine v_iload_n C 0 dJ6_bitCount_0f7a4_1 rfl rfl ?_
  refine v_iconst C (v := 1) dJ6_bitCount_0f7a4_2 (by decide) ?_
  refine v_iushr C dJ6_bitCount_0f7a4_3 rfl ?_
  refine v_ldcw C dJ6_bitCount_0f7a4_4 cJ6_bitCount_0f7a4_265 ?_
  refine v_iand C dJ6_bitCount_0f7a4_7 ?_
  refine v_isub C dJ6_bitCount_0f7a4_8 ?_
  refine v_at (pc' := 9) rfl ?_
  obtain ⟨y1, e_y1, h⟩ := nmb h
  refine v_topI e_y1 ?_
  refine v_istore_n C (lv' := [(0, .int y1)]) dJ6_bitCount_0f7a4_9 rfl (by decide) rfl ?_
  refine v_iload_n C 0 dJ6_bitCount_0f7a4_10 rfl rfl ?_
  refine v_ldcw C dJ6_bitCount_0f7a4_11 cJ6_bitCount_0f7a4_266 ?_
  refine v_iand C dJ6_bitCount_0f7a4_14 ?_
  refine v_iload_n C 0 dJ6_bitCount_0f7a4_15 rfl rfl ?_
  refine v_iconst C (v := 2) dJ6_bitCount_0f7a4_16 (by decide) ?_
  refine v_iushr C dJ6_bitCount_0f7a4_17 rfl ?_
  refine v_ldcw C dJ6_bitCount_0f7a4_18 cJ6_bitCount_0f7a4_266 ?_
  refine v_at (pc' := 21) rfl ?_
  refine v_iand C dJ6_bitCount_0f7a4_21 ?_
  refine v_iadd C dJ6_bitCount_0f7a4_22 ?_
  obtain ⟨y2, e_y2, h⟩ := nmb h
  refine v_topI e_y2 ?_
  refine v_istore_n C (lv' := [(0, .int y2)]) dJ6_bitCount_0f7a4_23 rfl (by decide) rfl ?_
  refine v_iload_n C 0 dJ6_bitCount_0f7a4_24 rfl rfl ?_
  refine v_iload_n C 0 dJ6_bitCount_0f7a4_25 rfl rfl ?_
  refine v_iconst C (v := 4) dJ6_bitCount_0f7a4_26 (by decide) ?_
  refine v_iushr C dJ6_bitCount_0f7a4_27 rfl ?_
  refine v_iadd C dJ6_bitCount_0f7a4_28 ?_
  refine v_at (pc' := 29) rfl ?_
  refine v_ldcw C dJ6_bitCount_0f7a4_29 cJ6_bitCount_0f7a4_267 ?_
  refine v_iand C dJ6_bitCount_0f7a4_32 ?_
  obtain ⟨y3, e_y3, h⟩ := nmb h
  refine v_topI e_y3 ?_
  refine v_istore_n C (lv' := [(0, .int y3)]) dJ6_bitCount_0f7a4_33 rfl (by decide) rfl ?_
  refine v_iload_n C 0 dJ6_bitCount_0f7a4_34 rfl rfl ?_
  refine v_iload_n C 0 dJ6_bitCount_0f7a4_35 rfl rfl ?_
  refine v_bipush C (v := 8) dJ6_bitCount_0f7a4_36 (by decide) ?_
  refine v_iushr C dJ6_bitCount_0f7a4_38 rfl ?_
  refine v_iadd C dJ6_bitCount_0f7a4_39 ?_
  refine v_at (pc' := 40) rfl ?_
  obtain ⟨y4, e_y4, h⟩ := nmb h
  refine v_topI e_y4 ?_
  refine v_istore_n C (lv' := [(0, .int y4)]) dJ6_bitCount_0f7a4_40 rfl (by decide) rfl ?_
  refine v_iload_n C 0 dJ6_bitCount_0f7a4_41 rfl rfl ?_
  refine v_iload_n C 0 dJ6_bitCount_0f7a4_42 rfl rfl ?_
  refine v_bipush C (v := 16) dJ6_bitCount_0f7a4_43 (by decide) ?_
  refine v_iushr C dJ6_bitCount_0f7a4_45 rfl ?_
  refine v_iadd C dJ6_bitCount_0f7a4_46 ?_
  obtain ⟨y5, e_y5, h⟩ := nmb h
  refine v_topI e_y5 ?_
  refine v_istore_n C (lv' := [(0, .int y5)]) dJ6_bitCount_0f7a4_47 rfl (by decide) rfl ?_
  refine v_iload_n C 0 dJ6_bitCount_0f7a4_48 rfl rfl ?_
  refine v_at (pc' := 49) rfl ?_
  refine v_bipush C (v := 63) dJ6_bitCount_0f7a4_49 (by decide) ?_
  refine v_iand C dJ6_bitCount_0f7a4_51 ?_
  subst h
  exact v_iret C dJ6_bitCount_0f7a4_52
theorem hS_J6_bitCount_0f7a4 : yJ6_bitCount_0f7a4.cls ≠ "java/lang/invoke/MethodHandle" ∧ yJ6_bitCount_0f7a4.cls ≠ "java/lang/invoke/VarHandle" ∧ (parseMethodDescriptor yJ6_bitCount_0f7a4.desc).map (fun d => d.parameters.length) = some 1 := by decide +kernel
theorem fX1_quadrantsIn_22 : Cond.fieldLink RX1 22 (TX1 1).1 (TX1 1).2.1 (TX1 1).2.2.1 ∈ wsX1_quadrantsIn := by decide +kernel
theorem inX1_quadrantsIn_X1 : ∀ x ∈ u_ws RX1 TX1 4, x ∈ wsX1_quadrantsIn := by decide +kernel
theorem fX1_quadrantsIn_9 : Cond.fieldLink RX1 9 (TX1 0).1 (TX1 0).2.1 (TX1 0).2.2.1 ∈ wsX1_quadrantsIn := by decide +kernel
set_option maxRecDepth 100000 in
set_option maxHeartbeats 4000000 in
theorem r_X1_quadrantsIn_p46 {p : Program} {l : Launch} {e : Env} {s : State} {m : MethodId} {args : Array Value} {below : List Frame} {meth : Method} {c : Code} {G : GG} {A : Nat → Prop} (C : Cx p s m args meth c G A cX1_quadrantsIn 4 RX1 wsX1_quadrantsIn (some .int)) (n : Nat) {z : Int32} : ∀ (w : Wd) (a2 : Int32), m_X1_quadrantsIn_p46 n w a2 = some z → V p l e { frames := 2, cells := 0, slots := 0, locals := 41 } s m args below meth c G A 4 46 [(2, .int a2)] [] w (some (.int z)) w := by
  intro w a2 h
  unfold m_X1_quadrantsIn_p46 at h
  refine v_iload_n C 0 dX1_quadrantsIn_46 rfl rfl ?_
  refine v_callSi C (av := [.int a2]) (rest := []) gX1_quadrantsIn_J6_bitCount_0f7a4 rfl ⟨rfl, rfl⟩ hS_J6_bitCount_0f7a4 ⟨(Nat.le_of_ble_eq_true rfl), (Nat.le_of_ble_eq_true rfl)⟩ (r_J6_bitCount_0f7a4 (A := A) rfl) rfl rfl (Nat.le_of_ble_eq_true rfl) dX1_quadrantsIn_47 ?_
  obtain rfl := Option.some.inj h
  exact v_iret C dX1_quadrantsIn_50
set_option maxRecDepth 100000 in
set_option maxHeartbeats 4000000 in
theorem r_X1_quadrantsIn_p4 {p : Program} {l : Launch} {e : Env} {s : State} {m : MethodId} {args : Array Value} {below : List Frame} {meth : Method} {c : Code} {G : GG} {A : Nat → Prop} (C : Cx p s m args meth c G A cX1_quadrantsIn 4 RX1 wsX1_quadrantsIn (some .int)) (n : Nat) {z : Int32} : ∀ (t : Nat), ∀ (w : Wd) (a0 : Nat) (a1 : Int32) (a2 : Int32) (a3 : Int32), m_X1_quadrantsIn_p4 n t w a0 a1 a2 a3 = some z → V p l e { frames := 2, cells := 0, slots := 0, locals := 41 } s m args below meth c G A 4 4 [(0, .ref a0), (1, .int a1), (2, .int a2), (3, .int a3)] [] w (some (.int z)) w := by
  intro t
  induction t with
  | zero =>
    intro w a0 a1 a2 a3 h
    rw [m_X1_quadrantsIn_p4] at h
    cases h
  | succ t ih =>
    intro w a0 a1 a2 a3 h
    rw [m_X1_quadrantsIn_p4] at h
    refine v_iload_n C 3 dX1_quadrantsIn_4 rfl rfl ?_
    refine v_aload_n C 0 dX1_quadrantsIn_5 rfl rfl ?_
    obtain ⟨x1, e_x1, h⟩ := bnd h
    refine v_getf C (ci := 1) (k := 1) rfl inX1_quadrantsIn_X1 (by decide) fX1_quadrantsIn_22 dX1_quadrantsIn_6 (gfI_e e_x1) ?_
    refine v_icmp_ge C (tgt := 46) dX1_quadrantsIn_9 (by decide) (fun q => ?_) (fun q => ?_)
    · have h := ite_t q h
      refine v_sub [2] rfl ?_
      exact r_X1_quadrantsIn_p46 C n _ _ h
    · have h := ite_f q h
      refine v_iload_n C 1 dX1_quadrantsIn_12 rfl rfl ?_
      refine v_aload_n C 0 dX1_quadrantsIn_13 rfl rfl ?_
      obtain ⟨q2, e_q2, h⟩ := bnd h
      refine v_getf C (ci := 1) (k := 0) rfl inX1_quadrantsIn_X1 (by decide) fX1_quadrantsIn_9 dX1_quadrantsIn_14 (gfR_e e_q2) ?_
      refine v_iload_n C 3 dX1_quadrantsIn_17 rfl rfl ?_
      obtain ⟨x3, e_x3, h⟩ := bnd h
      refine v_iald C dX1_quadrantsIn_18 e_x3 ?_
      refine v_callSi C (av := [.int a1, .int x3]) (rest := []) gX1_quadrantsIn_X3_holds rfl ⟨rfl, rfl⟩ hS_X3_holds ⟨(Nat.le_of_ble_eq_true rfl), (Nat.le_of_ble_eq_true rfl)⟩ (r_X3_holds (A := A) rfl) rfl rfl (Nat.le_of_ble_eq_true rfl) dX1_quadrantsIn_19 ?_
      refine v_if_eq C (tgt := 40) dX1_quadrantsIn_22 (by decide) (fun q => ?_) (fun q => ?_)
      · have h := ite_t q h
        refine v_iinc C (k := 3) (v := (a3 + 1)) (lv' := [(3, .int (a3 + 1)), (0, .ref a0), (1, .int a1), (2, .int a2)]) dX1_quadrantsIn_40 rfl rfl (by decide) rfl ?_
        refine v_goto C (tgt := 4) dX1_quadrantsIn_43 (by decide) ?_
        refine v_sub [1, 2, 3, 0] rfl ?_
        exact ih _ _ _ _ _ h
      · have h := ite_f q h
        refine v_iload_n C 2 dX1_quadrantsIn_25 rfl rfl ?_
        refine v_iconst C (v := 1) dX1_quadrantsIn_26 (by decide) ?_
        refine v_iload_n C 1 dX1_quadrantsIn_27 rfl rfl ?_
        refine v_aload_n C 0 dX1_quadrantsIn_28 rfl rfl ?_
        obtain ⟨q4, e_q4, h⟩ := bnd h
        refine v_getf C (ci := 1) (k := 0) rfl inX1_quadrantsIn_X1 (by decide) fX1_quadrantsIn_9 dX1_quadrantsIn_29 (gfR_e e_q4) ?_
        refine v_iload_n C 3 dX1_quadrantsIn_32 rfl rfl ?_
        obtain ⟨x5, e_x5, h⟩ := bnd h
        refine v_iald C dX1_quadrantsIn_33 e_x5 ?_
        refine v_at (pc' := 34) rfl ?_
        refine v_callSi C (av := [.int a1, .int x5]) (rest := [.int 1, .int a2]) gX1_quadrantsIn_X3_quadrant rfl ⟨rfl, rfl⟩ hS_X3_quadrant ⟨(Nat.le_of_ble_eq_true rfl), (Nat.le_of_ble_eq_true rfl)⟩ (r_X3_quadrant (A := A) rfl) rfl rfl (Nat.le_of_ble_eq_true rfl) dX1_quadrantsIn_34 ?_
        refine v_ishl C dX1_quadrantsIn_37 ?_
        refine v_ior C dX1_quadrantsIn_38 ?_
        refine v_istore_n C (lv' := [(2, .int (a2 ||| (1 <<< ((m_X3_quadrant a1 x5) &&& 31 : Int32)))), (0, .ref a0), (1, .int a1), (3, .int a3)]) dX1_quadrantsIn_39 rfl (by decide) rfl ?_
        refine v_iinc C (k := 3) (v := (a3 + 1)) (lv' := [(3, .int (a3 + 1)), (2, .int (a2 ||| (1 <<< ((m_X3_quadrant a1 x5) &&& 31 : Int32)))), (0, .ref a0), (1, .int a1)]) dX1_quadrantsIn_40 rfl rfl (by decide) rfl ?_
        refine v_goto C (tgt := 4) dX1_quadrantsIn_43 (by decide) ?_
        refine v_sub [2, 3, 1, 0] rfl ?_
        exact ih _ _ _ _ _ h
set_option maxRecDepth 100000 in
set_option maxHeartbeats 4000000 in
theorem r_X1_quadrantsIn {l : Launch} {G : GG} {A : Nat → Prop} {n : Nat} {w : Wd} {this : Nat} {a1 : Int32} {z : Int32} (h : m_X1_quadrantsIn n w this a1 = some z) : Con l yX1_quadrantsIn wsX1_quadrantsIn { frames := 2, cells := 0, slots := 0, locals := 41 } G A [.ref this, .int a1] w (some (.int z)) w := by
  refine Con.of (own := RX1) (cc := cX1_quadrantsIn) (maxL := 4) (ret := (some .int)) rfl (by decide) rfl (Nat.le_of_ble_eq_true rfl) ?_
  intro p e s m args below meth c C
  show V p l e { frames := 2, cells := 0, slots := 0, locals := 41 } s m args below meth c G A 4 0 [(0, .ref this), (1, .int a1)] [] w (some (.int z)) w
  unfold m_X1_quadrantsIn at h
  refine v_iconst C (v := 0) dX1_quadrantsIn_0 (by decide) ?_
  refine v_istore_n C (lv' := [(2, .int 0), (0, .ref this), (1, .int a1)]) dX1_quadrantsIn_1 rfl (by decide) rfl ?_
  refine v_iconst C (v := 0) dX1_quadrantsIn_2 (by decide) ?_
  refine v_istore_n C (lv' := [(3, .int 0), (2, .int 0), (0, .ref this), (1, .int a1)]) dX1_quadrantsIn_3 rfl (by decide) rfl ?_
  refine v_sub [2, 3, 1, 0] rfl ?_
  exact r_X1_quadrantsIn_p4 C n n _ _ _ _ _ h
theorem fX1_positionChildren_18 : Cond.fieldLink RX1 18 (TX1 3).1 (TX1 3).2.1 (TX1 3).2.2.1 ∈ wsX1_positionChildren := by decide +kernel
theorem inX1_positionChildren_X1 : ∀ x ∈ u_ws RX1 TX1 4, x ∈ wsX1_positionChildren := by decide +kernel
set_option maxRecDepth 100000 in
set_option maxHeartbeats 4000000 in
theorem r_X1_positionChildren_p14 {p : Program} {l : Launch} {e : Env} {s : State} {m : MethodId} {args : Array Value} {below : List Frame} {meth : Method} {c : Code} {G : GG} {A : Nat → Prop} (C : Cx p s m args meth c G A cX1_positionChildren 4 RX1 wsX1_positionChildren (some .int)) (n : Nat) {k4 : Wd → Nat → Int32 → Int32 → Option Int32} {z : Int32} (H4 : ∀ (w : Wd) (b0 : Nat) (b1 : Int32) (b2 : Int32), k4 w b0 b1 b2 = some z → V p l e { frames := 4, cells := 0, slots := 0, locals := 90 } s m args below meth c G A 4 4 [(0, .ref b0), (1, .int b1), (2, .int b2)] [] w (some (.int z)) w) : ∀ (t : Nat), ∀ (w : Wd) (a0 : Nat) (a1 : Int32) (a2 : Int32) (a3 : Int32), m_X1_positionChildren_p14 n k4 t w a0 a1 a2 a3 = some z → V p l e { frames := 4, cells := 0, slots := 0, locals := 90 } s m args below meth c G A 4 14 [(0, .ref a0), (1, .int a1), (2, .int a2), (3, .int a3)] [] w (some (.int z)) w := by
  intro t
  induction t with
  | zero =>
    intro w a0 a1 a2 a3 h
    rw [m_X1_positionChildren_p14] at h
    cases h
  | succ t ih =>
    intro w a0 a1 a2 a3 h
    rw [m_X1_positionChildren_p14] at h
    refine v_iload_n C 3 dX1_positionChildren_14 rfl rfl ?_
    refine v_iconst C (v := 4) dX1_positionChildren_15 (by decide) ?_
    refine v_icmp_ge C (tgt := 40) dX1_positionChildren_16 (by decide) (fun q => ?_) (fun q => ?_)
    · have h := ite_t q h
      refine v_iinc C (k := 2) (v := (a2 + 1)) (lv' := [(2, .int (a2 + 1)), (0, .ref a0), (1, .int a1), (3, .int a3)]) dX1_positionChildren_40 rfl rfl (by decide) rfl ?_
      refine v_goto C (tgt := 4) dX1_positionChildren_43 (by decide) ?_
      refine v_sub [1, 2, 0] rfl ?_
      exact H4 _ _ _ _ h
    · have h := ite_f q h
      refine v_aload_n C 0 dX1_positionChildren_19 rfl rfl ?_
      refine v_iload_n C 2 dX1_positionChildren_20 rfl rfl ?_
      refine v_iload_n C 3 dX1_positionChildren_21 rfl rfl ?_
      obtain ⟨u1, e_u1, h⟩ := bnd h
      obtain ⟨x2, e_x2, h⟩ := bnd h
      refine v_callVi C (ci := 1) (av := [.int a2, .int a3]) (rest := []) rfl gX1_positionChildren_X1_childOf rfl ⟨rfl, rfl⟩ hV_X1_childOf ⟨(Nat.le_of_ble_eq_true rfl), (Nat.le_of_ble_eq_true rfl)⟩ e_u1 (r_X1_childOf (A := A) e_x2) rfl rfl (Nat.le_of_ble_eq_true rfl) dX1_positionChildren_22 ?_
      refine v_sipush C (v := 1000) dX1_positionChildren_25 (by decide) ?_
      refine v_icmp_lt C (tgt := 34) dX1_positionChildren_28 (by decide) (fun q => ?_) (fun q => ?_)
      · have h := ite_t q h
        refine v_iinc C (k := 3) (v := (a3 + 1)) (lv' := [(3, .int (a3 + 1)), (0, .ref a0), (1, .int a1), (2, .int a2)]) dX1_positionChildren_34 rfl rfl (by decide) rfl ?_
        refine v_goto C (tgt := 14) dX1_positionChildren_37 (by decide) ?_
        refine v_sub [1, 2, 3, 0] rfl ?_
        exact ih _ _ _ _ _ h
      · have h := ite_f q h
        refine v_iinc C (k := 1) (v := (a1 + 1)) (lv' := [(1, .int (a1 + 1)), (0, .ref a0), (2, .int a2), (3, .int a3)]) dX1_positionChildren_31 rfl rfl (by decide) rfl ?_
        refine v_iinc C (k := 3) (v := (a3 + 1)) (lv' := [(3, .int (a3 + 1)), (1, .int (a1 + 1)), (0, .ref a0), (2, .int a2)]) dX1_positionChildren_34 rfl rfl (by decide) rfl ?_
        refine v_goto C (tgt := 14) dX1_positionChildren_37 (by decide) ?_
        refine v_sub [2, 1, 3, 0] rfl ?_
        exact ih _ _ _ _ _ h
set_option maxRecDepth 100000 in
set_option maxHeartbeats 4000000 in
theorem r_X1_positionChildren_p4 {p : Program} {l : Launch} {e : Env} {s : State} {m : MethodId} {args : Array Value} {below : List Frame} {meth : Method} {c : Code} {G : GG} {A : Nat → Prop} (C : Cx p s m args meth c G A cX1_positionChildren 4 RX1 wsX1_positionChildren (some .int)) (n : Nat) {z : Int32} : ∀ (t : Nat), ∀ (w : Wd) (a0 : Nat) (a1 : Int32) (a2 : Int32), m_X1_positionChildren_p4 n t w a0 a1 a2 = some z → V p l e { frames := 4, cells := 0, slots := 0, locals := 90 } s m args below meth c G A 4 4 [(0, .ref a0), (1, .int a1), (2, .int a2)] [] w (some (.int z)) w := by
  intro t
  induction t with
  | zero =>
    intro w a0 a1 a2 h
    rw [m_X1_positionChildren_p4] at h
    cases h
  | succ t ih =>
    intro w a0 a1 a2 h
    rw [m_X1_positionChildren_p4] at h
    refine v_iload_n C 2 dX1_positionChildren_4 rfl rfl ?_
    refine v_aload_n C 0 dX1_positionChildren_5 rfl rfl ?_
    obtain ⟨x1, e_x1, h⟩ := bnd h
    refine v_getf C (ci := 1) (k := 3) rfl inX1_positionChildren_X1 (by decide) fX1_positionChildren_18 dX1_positionChildren_6 (gfI_e e_x1) ?_
    refine v_icmp_ge C (tgt := 46) dX1_positionChildren_9 (by decide) (fun q => ?_) (fun q => ?_)
    · have h := ite_t q h
      refine v_iload_n C 1 dX1_positionChildren_46 rfl rfl ?_
      obtain rfl := Option.some.inj h
      exact v_iret C dX1_positionChildren_47
    · have h := ite_f q h
      refine v_iconst C (v := 0) dX1_positionChildren_12 (by decide) ?_
      refine v_istore_n C (lv' := [(3, .int 0), (0, .ref a0), (1, .int a1), (2, .int a2)]) dX1_positionChildren_13 rfl (by decide) rfl ?_
      refine v_sub [1, 2, 3, 0] rfl ?_
      exact r_X1_positionChildren_p14 C n ih n _ _ _ _ _ h
set_option maxRecDepth 100000 in
set_option maxHeartbeats 4000000 in
theorem r_X1_positionChildren {l : Launch} {G : GG} {A : Nat → Prop} {n : Nat} {w : Wd} {this : Nat} {z : Int32} (h : m_X1_positionChildren n w this = some z) : Con l yX1_positionChildren wsX1_positionChildren { frames := 4, cells := 0, slots := 0, locals := 90 } G A [.ref this] w (some (.int z)) w := by
  refine Con.of (own := RX1) (cc := cX1_positionChildren) (maxL := 4) (ret := (some .int)) rfl (by decide) rfl (Nat.le_of_ble_eq_true rfl) ?_
  intro p e s m args below meth c C
  show V p l e { frames := 4, cells := 0, slots := 0, locals := 90 } s m args below meth c G A 4 0 [(0, .ref this)] [] w (some (.int z)) w
  unfold m_X1_positionChildren at h
  refine v_iconst C (v := 0) dX1_positionChildren_0 (by decide) ?_
  refine v_istore_n C (lv' := [(1, .int 0), (0, .ref this)]) dX1_positionChildren_1 rfl (by decide) rfl ?_
  refine v_iconst C (v := 0) dX1_positionChildren_2 (by decide) ?_
  refine v_istore_n C (lv' := [(2, .int 0), (1, .int 0), (0, .ref this)]) dX1_positionChildren_3 rfl (by decide) rfl ?_
  refine v_sub [2, 1, 0] rfl ?_
  exact r_X1_positionChildren_p4 C n n _ _ _ _ h
theorem fX1_differentPositions_22 : Cond.fieldLink RX1 22 (TX1 1).1 (TX1 1).2.1 (TX1 1).2.2.1 ∈ wsX1_differentPositions := by decide +kernel
theorem inX1_differentPositions_X1 : ∀ x ∈ u_ws RX1 TX1 4, x ∈ wsX1_differentPositions := by decide +kernel
theorem fX1_differentPositions_9 : Cond.fieldLink RX1 9 (TX1 0).1 (TX1 0).2.1 (TX1 0).2.2.1 ∈ wsX1_differentPositions := by decide +kernel
set_option maxRecDepth 100000 in
set_option maxHeartbeats 4000000 in
theorem r_X1_differentPositions_p4 {p : Program} {l : Launch} {e : Env} {s : State} {m : MethodId} {args : Array Value} {below : List Frame} {meth : Method} {c : Code} {G : GG} {A : Nat → Prop} (C : Cx p s m args meth c G A cX1_differentPositions 3 RX1 wsX1_differentPositions (some .int)) (n : Nat) {z : Int32} : ∀ (t : Nat), ∀ (w : Wd) (a0 : Nat) (a1 : Int32) (a2 : Int32), m_X1_differentPositions_p4 n t w a0 a1 a2 = some z → V p l e { frames := 0, cells := 0, slots := 0, locals := 0 } s m args below meth c G A 3 4 [(0, .ref a0), (1, .int a1), (2, .int a2)] [] w (some (.int z)) w := by
  intro t
  induction t with
  | zero =>
    intro w a0 a1 a2 h
    rw [m_X1_differentPositions_p4] at h
    cases h
  | succ t ih =>
    intro w a0 a1 a2 h
    rw [m_X1_differentPositions_p4] at h
    refine v_iload_n C 2 dX1_differentPositions_4 rfl rfl ?_
    refine v_aload_n C 0 dX1_differentPositions_5 rfl rfl ?_
    obtain ⟨x1, e_x1, h⟩ := bnd h
    refine v_getf C (ci := 1) (k := 1) rfl inX1_differentPositions_X1 (by decide) fX1_differentPositions_22 dX1_differentPositions_6 (gfI_e e_x1) ?_
    refine v_icmp_ge C (tgt := 42) dX1_differentPositions_9 (by decide) (fun q => ?_) (fun q => ?_)
    · have h := ite_t q h
      refine v_iload_n C 1 dX1_differentPositions_42 rfl rfl ?_
      obtain rfl := Option.some.inj h
      exact v_iret C dX1_differentPositions_43
    · have h := ite_f q h
      refine v_iload_n C 2 dX1_differentPositions_12 rfl rfl ?_
      refine v_if_eq C (tgt := 33) dX1_differentPositions_13 (by decide) (fun q => ?_) (fun q => ?_)
      · have h := ite_t q h
        refine v_iinc C (k := 1) (v := (a1 + 1)) (lv' := [(1, .int (a1 + 1)), (0, .ref a0), (2, .int a2)]) dX1_differentPositions_33 rfl rfl (by decide) rfl ?_
        refine v_iinc C (k := 2) (v := (a2 + 1)) (lv' := [(2, .int (a2 + 1)), (1, .int (a1 + 1)), (0, .ref a0)]) dX1_differentPositions_36 rfl rfl (by decide) rfl ?_
        refine v_goto C (tgt := 4) dX1_differentPositions_39 (by decide) ?_
        refine v_sub [2, 1, 0] rfl ?_
        exact ih _ _ _ _ h
      · have h := ite_f q h
        refine v_aload_n C 0 dX1_differentPositions_16 rfl rfl ?_
        obtain ⟨q2, e_q2, h⟩ := bnd h
        refine v_getf C (ci := 1) (k := 0) rfl inX1_differentPositions_X1 (by decide) fX1_differentPositions_9 dX1_differentPositions_17 (gfR_e e_q2) ?_
        refine v_iload_n C 2 dX1_differentPositions_20 rfl rfl ?_
        obtain ⟨x3, e_x3, h⟩ := bnd h
        refine v_iald C dX1_differentPositions_21 e_x3 ?_
        refine v_aload_n C 0 dX1_differentPositions_22 rfl rfl ?_
        obtain ⟨q4, e_q4, h⟩ := bnd h
        refine v_getf C (ci := 1) (k := 0) rfl inX1_differentPositions_X1 (by decide) fX1_differentPositions_9 dX1_differentPositions_23 (gfR_e e_q4) ?_
        refine v_iload_n C 2 dX1_differentPositions_26 rfl rfl ?_
        refine v_at (pc' := 27) rfl ?_
        refine v_iconst C (v := 1) dX1_differentPositions_27 (by decide) ?_
        refine v_isub C dX1_differentPositions_28 ?_
        obtain ⟨x5, e_x5, h⟩ := bnd h
        refine v_iald C dX1_differentPositions_29 e_x5 ?_
        refine v_icmp_eq C (tgt := 36) dX1_differentPositions_30 (by decide) (fun q => ?_) (fun q => ?_)
        · have h := ite_t q h
          refine v_iinc C (k := 2) (v := (a2 + 1)) (lv' := [(2, .int (a2 + 1)), (0, .ref a0), (1, .int a1)]) dX1_differentPositions_36 rfl rfl (by decide) rfl ?_
          refine v_goto C (tgt := 4) dX1_differentPositions_39 (by decide) ?_
          refine v_sub [1, 2, 0] rfl ?_
          exact ih _ _ _ _ h
        · have h := ite_f q h
          refine v_iinc C (k := 1) (v := (a1 + 1)) (lv' := [(1, .int (a1 + 1)), (0, .ref a0), (2, .int a2)]) dX1_differentPositions_33 rfl rfl (by decide) rfl ?_
          refine v_iinc C (k := 2) (v := (a2 + 1)) (lv' := [(2, .int (a2 + 1)), (1, .int (a1 + 1)), (0, .ref a0)]) dX1_differentPositions_36 rfl rfl (by decide) rfl ?_
          refine v_goto C (tgt := 4) dX1_differentPositions_39 (by decide) ?_
          refine v_sub [2, 1, 0] rfl ?_
          exact ih _ _ _ _ h
set_option maxRecDepth 100000 in
set_option maxHeartbeats 4000000 in
theorem r_X1_differentPositions {l : Launch} {G : GG} {A : Nat → Prop} {n : Nat} {w : Wd} {this : Nat} {z : Int32} (h : m_X1_differentPositions n w this = some z) : Con l yX1_differentPositions wsX1_differentPositions { frames := 0, cells := 0, slots := 0, locals := 0 } G A [.ref this] w (some (.int z)) w := by
  refine Con.of (own := RX1) (cc := cX1_differentPositions) (maxL := 3) (ret := (some .int)) rfl (by decide) rfl (Nat.le_of_ble_eq_true rfl) ?_
  intro p e s m args below meth c C
  show V p l e { frames := 0, cells := 0, slots := 0, locals := 0 } s m args below meth c G A 3 0 [(0, .ref this)] [] w (some (.int z)) w
  unfold m_X1_differentPositions at h
  refine v_iconst C (v := 0) dX1_differentPositions_0 (by decide) ?_
  refine v_istore_n C (lv' := [(1, .int 0), (0, .ref this)]) dX1_differentPositions_1 rfl (by decide) rfl ?_
  refine v_iconst C (v := 0) dX1_differentPositions_2 (by decide) ?_
  refine v_istore_n C (lv' := [(2, .int 0), (1, .int 0), (0, .ref this)]) dX1_differentPositions_3 rfl (by decide) rfl ?_
  refine v_sub [2, 1, 0] rfl ?_
  exact r_X1_differentPositions_p4 C n n _ _ _ _ h
set_option maxRecDepth 100000 in
set_option maxHeartbeats 4000000 in
theorem r_X3_size {l : Launch} {G : GG} {A : Nat → Prop} {w : Wd} {a0 : Int32} {z : Int32} (h : m_X3_size a0 = z) : Con l yX3_size wsX3_size { frames := 1, cells := 0, slots := 0, locals := 20 } G A [.int a0] w (some (.int z)) w := by
  refine Con.of (own := RX3) (cc := cX3_size) (maxL := 1) (ret := (some .int)) rfl (by decide) rfl (Nat.le_of_ble_eq_true rfl) ?_
  intro p e s m args below meth c C
  show V p l e { frames := 1, cells := 0, slots := 0, locals := 20 } s m args below meth c G A 1 0 [(0, .int a0)] [] w (some (.int z)) w
  unfold m_X3_size at h
  refine v_iconst C (v := 1) dX3_size_0 (by decide) ?_
  refine v_iload_n C 0 dX3_size_1 rfl rfl ?_
  refine v_callSi C (av := [.int a0]) (rest := [.int 1]) gX3_size_X3_exponent rfl ⟨rfl, rfl⟩ hS_X3_exponent ⟨(Nat.le_of_ble_eq_true rfl), (Nat.le_of_ble_eq_true rfl)⟩ (r_X3_exponent (A := A) rfl) rfl rfl (Nat.le_of_ble_eq_true rfl) dX3_size_2 ?_
  refine v_ishl C dX3_size_5 ?_
  subst h
  exact v_iret C dX3_size_6
set_option maxRecDepth 100000 in
set_option maxHeartbeats 4000000 in
theorem r_X6_distance {l : Launch} {G : GG} {A : Nat → Prop} {w : Wd} {a0 : Int32} {a1 : Int32} {a2 : Int32} {a3 : Int32} {z : Int32} (h : m_X6_distance a0 a1 a2 a3 = z) : Con l yX6_distance wsX6_distance { frames := 0, cells := 0, slots := 0, locals := 0 } G A [.int a0, .int a1, .int a2, .int a3] w (some (.int z)) w := by
  refine Con.of (own := RX6) (cc := cX6_distance) (maxL := 4) (ret := (some .int)) rfl (by decide) rfl (Nat.le_of_ble_eq_true rfl) ?_
  intro p e s m args below meth c C
  show V p l e { frames := 0, cells := 0, slots := 0, locals := 0 } s m args below meth c G A 4 0 [(0, .int a0), (1, .int a1), (2, .int a2), (3, .int a3)] [] w (some (.int z)) w
  unfold m_X6_distance at h
  refine v_iload_n C 0 dX6_distance_0 rfl rfl ?_
  refine v_iload_n C 2 dX6_distance_1 rfl rfl ?_
  refine v_isub C dX6_distance_2 ?_
  refine v_iload_n C 0 dX6_distance_3 rfl rfl ?_
  refine v_iload_n C 2 dX6_distance_4 rfl rfl ?_
  refine v_isub C dX6_distance_5 ?_
  refine v_imul C dX6_distance_6 ?_
  refine v_at (pc' := 7) rfl ?_
  refine v_iload_n C 1 dX6_distance_7 rfl rfl ?_
  refine v_iload_n C 3 dX6_distance_8 rfl rfl ?_
  refine v_isub C dX6_distance_9 ?_
  refine v_iload_n C 1 dX6_distance_10 rfl rfl ?_
  refine v_iload_n C 3 dX6_distance_11 rfl rfl ?_
  refine v_isub C dX6_distance_12 ?_
  refine v_imul C dX6_distance_13 ?_
  refine v_iadd C dX6_distance_14 ?_
  refine v_at (pc' := 15) rfl ?_
  subst h
  exact v_iret C dX6_distance_15
theorem hS_X3_size : yX3_size.cls ≠ "java/lang/invoke/MethodHandle" ∧ yX3_size.cls ≠ "java/lang/invoke/VarHandle" ∧ (parseMethodDescriptor yX3_size.desc).map (fun d => d.parameters.length) = some 1 := by decide +kernel
theorem mlX3_distanceTo_32 : Cond.methodLink RX3 32 Lib.Math.min.name ∈ wsX3_distanceTo := by decide +kernel
theorem msX3_distanceTo_min : Cond.static Lib.Math.min.name ∈ wsX3_distanceTo := by decide +kernel
theorem miX3_distanceTo : Cond.initialized "java/lang/Math" ∈ wsX3_distanceTo := by decide +kernel
theorem mcX3_distanceTo_min : Cond.code Lib.Math.min.name Lib.Math.min.code 2 (some .int) ∈ wsX3_distanceTo := by decide +kernel
theorem mlX3_distanceTo_38 : Cond.methodLink RX3 38 Lib.Math.max.name ∈ wsX3_distanceTo := by decide +kernel
theorem msX3_distanceTo_max : Cond.static Lib.Math.max.name ∈ wsX3_distanceTo := by decide +kernel
theorem mcX3_distanceTo_max : Cond.code Lib.Math.max.name Lib.Math.max.code 2 (some .int) ∈ wsX3_distanceTo := by decide +kernel
theorem hS_X6_distance : yX6_distance.cls ≠ "java/lang/invoke/MethodHandle" ∧ yX6_distance.cls ≠ "java/lang/invoke/VarHandle" ∧ (parseMethodDescriptor yX6_distance.desc).map (fun d => d.parameters.length) = some 4 := by decide +kernel
theorem niX3_distanceTo_X6_distance : Cond.initialized yX6_distance.cls ∈ wsX3_distanceTo := by decide +kernel
theorem nsX3_distanceTo_X6_distance : Cond.static yX6_distance ∈ wsX3_distanceTo := by decide +kernel
set_option maxRecDepth 100000 in
set_option maxHeartbeats 4000000 in
theorem r_X3_distanceTo {l : Launch} {G : GG} {A : Nat → Prop} {w : Wd} {a0 : Int32} {a1 : Int32} {a2 : Int32} {z : Int32} (h : m_X3_distanceTo a0 a1 a2 = z) : Con l yX3_distanceTo wsX3_distanceTo { frames := 2, cells := 0, slots := 0, locals := 41 } G A [.int a0, .int a1, .int a2] w (some (.int z)) w := by
  refine Con.of (own := RX3) (cc := cX3_distanceTo) (maxL := 8) (ret := (some .int)) rfl (by decide) rfl (Nat.le_of_ble_eq_true rfl) ?_
  intro p e s m args below meth c C
  show V p l e { frames := 2, cells := 0, slots := 0, locals := 41 } s m args below meth c G A 8 0 [(0, .int a0), (1, .int a1), (2, .int a2)] [] w (some (.int z)) w
  unfold m_X3_distanceTo at h
  refine v_iload_n C 0 dX3_distanceTo_0 rfl rfl ?_
  refine v_callSi C (av := [.int a0]) (rest := []) gX3_distanceTo_X3_corner rfl ⟨rfl, rfl⟩ hS_X3_corner ⟨(Nat.le_of_ble_eq_true rfl), (Nat.le_of_ble_eq_true rfl)⟩ (r_X3_corner (A := A) rfl) rfl rfl (Nat.le_of_ble_eq_true rfl) dX3_distanceTo_1 ?_
  refine v_callSi C (av := [.int (m_X3_corner a0)]) (rest := []) gX3_distanceTo_X3_xOf rfl ⟨rfl, rfl⟩ hS_X3_xOf ⟨(Nat.le_of_ble_eq_true rfl), (Nat.le_of_ble_eq_true rfl)⟩ (r_X3_xOf (A := A) rfl) rfl rfl (Nat.le_of_ble_eq_true rfl) dX3_distanceTo_4 ?_
  refine v_istore_n C (lv' := [(3, .int (m_X3_xOf (m_X3_corner a0))), (0, .int a0), (1, .int a1), (2, .int a2)]) dX3_distanceTo_7 rfl (by decide) rfl ?_
  refine v_iload_n C 1 dX3_distanceTo_8 rfl rfl ?_
  refine v_callSi C (av := [.int a0]) (rest := []) gX3_distanceTo_X3_corner rfl ⟨rfl, rfl⟩ hS_X3_corner ⟨(Nat.le_of_ble_eq_true rfl), (Nat.le_of_ble_eq_true rfl)⟩ (r_X3_corner (A := A) rfl) rfl rfl (Nat.le_of_ble_eq_true rfl) dX3_distanceTo_9 ?_
  refine v_callSi C (av := [.int (m_X3_corner a0)]) (rest := []) gX3_distanceTo_X3_yOf rfl ⟨rfl, rfl⟩ hS_X3_yOf ⟨(Nat.le_of_ble_eq_true rfl), (Nat.le_of_ble_eq_true rfl)⟩ (r_X3_yOf (A := A) rfl) rfl rfl (Nat.le_of_ble_eq_true rfl) dX3_distanceTo_12 ?_
  refine v_at (pc' := 15) rfl ?_
  refine v_istore C (lv' := [(4, .int (m_X3_yOf (m_X3_corner a0))), (3, .int (m_X3_xOf (m_X3_corner a0))), (0, .int a0), (1, .int a1), (2, .int a2)]) dX3_distanceTo_15 (by decide) rfl ?_
  refine v_iload_n C 2 dX3_distanceTo_17 rfl rfl ?_
  refine v_callSi C (av := [.int a0]) (rest := []) gX3_distanceTo_X3_size rfl ⟨rfl, rfl⟩ hS_X3_size ⟨(Nat.le_of_ble_eq_true rfl), (Nat.le_of_ble_eq_true rfl)⟩ (r_X3_size (A := A) rfl) rfl rfl (Nat.le_of_ble_eq_true rfl) dX3_distanceTo_18 ?_
  refine v_iconst C (v := 1) dX3_distanceTo_21 (by decide) ?_
  refine v_isub C dX3_distanceTo_22 ?_
  refine v_istore C (lv' := [(5, .int ((m_X3_size a0) - 1)), (4, .int (m_X3_yOf (m_X3_corner a0))), (3, .int (m_X3_xOf (m_X3_corner a0))), (0, .int a0), (1, .int a1), (2, .int a2)]) dX3_distanceTo_23 (by decide) rfl ?_
  refine v_iload_n C 2 dX3_distanceTo_25 rfl rfl ?_
  refine v_iload_n C 4 dX3_distanceTo_26 rfl rfl ?_
  refine v_at (pc' := 27) rfl ?_
  refine v_iload_n C 2 dX3_distanceTo_27 rfl rfl ?_
  refine v_iload C 0 dX3_distanceTo_28 rfl ?_
  refine v_iadd C dX3_distanceTo_30 ?_
  refine v_min C mlX3_distanceTo_32 msX3_distanceTo_min miX3_distanceTo mcX3_distanceTo_min (Nat.le_of_ble_eq_true rfl) (Nat.le_of_ble_eq_true rfl) dX3_distanceTo_31 ?_
  refine v_max C mlX3_distanceTo_38 msX3_distanceTo_max miX3_distanceTo mcX3_distanceTo_max (Nat.le_of_ble_eq_true rfl) (Nat.le_of_ble_eq_true rfl) dX3_distanceTo_34 ?_
  obtain ⟨y1, e_y1, h⟩ := nmb h
  refine v_topI e_y1 ?_
  refine v_istore C (lv' := [(6, .int y1), (5, .int ((m_X3_size a0) - 1)), (4, .int (m_X3_yOf (m_X3_corner a0))), (3, .int (m_X3_xOf (m_X3_corner a0))), (0, .int a0), (1, .int a1), (2, .int a2)]) dX3_distanceTo_37 (by decide) rfl ?_
  refine v_iload C 2 dX3_distanceTo_39 rfl ?_
  refine v_iload_n C 6 dX3_distanceTo_41 rfl rfl ?_
  refine v_at (pc' := 42) rfl ?_
  refine v_iload C 2 dX3_distanceTo_42 rfl ?_
  refine v_iload C 1 dX3_distanceTo_44 rfl ?_
  refine v_iadd C dX3_distanceTo_46 ?_
  refine v_min C mlX3_distanceTo_32 msX3_distanceTo_min miX3_distanceTo mcX3_distanceTo_min (Nat.le_of_ble_eq_true rfl) (Nat.le_of_ble_eq_true rfl) dX3_distanceTo_47 ?_
  refine v_max C mlX3_distanceTo_38 msX3_distanceTo_max miX3_distanceTo mcX3_distanceTo_max (Nat.le_of_ble_eq_true rfl) (Nat.le_of_ble_eq_true rfl) dX3_distanceTo_50 ?_
  obtain ⟨y2, e_y2, h⟩ := nmb h
  refine v_topI e_y2 ?_
  refine v_istore C (lv' := [(7, .int y2), (6, .int y1), (5, .int ((m_X3_size a0) - 1)), (4, .int (m_X3_yOf (m_X3_corner a0))), (3, .int (m_X3_xOf (m_X3_corner a0))), (0, .int a0), (1, .int a1), (2, .int a2)]) dX3_distanceTo_53 (by decide) rfl ?_
  refine v_iload_n C 6 dX3_distanceTo_55 rfl rfl ?_
  refine v_iload_n C 7 dX3_distanceTo_56 rfl rfl ?_
  refine v_at (pc' := 57) rfl ?_
  refine v_iload C 1 dX3_distanceTo_57 rfl ?_
  refine v_iload C 0 dX3_distanceTo_59 rfl ?_
  refine v_callNi C (av := [.int a1, .int a2, .int y1, .int y2]) (rest := []) gX3_distanceTo_X6_distance_n41 rfl C.2.2.2.2.2.1.2.1.2.2.1 niX3_distanceTo_X6_distance nsX3_distanceTo_X6_distance ⟨rfl, rfl⟩ hS_X6_distance ⟨(Nat.le_of_ble_eq_true rfl), (Nat.le_of_ble_eq_true rfl)⟩ (r_X6_distance (A := A) rfl) rfl rfl (Nat.le_of_ble_eq_true rfl) dX3_distanceTo_61 ?_
  subst h
  exact v_iret C dX3_distanceTo_64
theorem fX1_nodesWithin_18 : Cond.fieldLink RX1 18 (TX1 3).1 (TX1 3).2.1 (TX1 3).2.2.1 ∈ wsX1_nodesWithin := by decide +kernel
theorem inX1_nodesWithin_X1 : ∀ x ∈ u_ws RX1 TX1 4, x ∈ wsX1_nodesWithin := by decide +kernel
theorem fX1_nodesWithin_15 : Cond.fieldLink RX1 15 (TX1 2).1 (TX1 2).2.1 (TX1 2).2.2.1 ∈ wsX1_nodesWithin := by decide +kernel
theorem hS_X3_distanceTo : yX3_distanceTo.cls ≠ "java/lang/invoke/MethodHandle" ∧ yX3_distanceTo.cls ≠ "java/lang/invoke/VarHandle" ∧ (parseMethodDescriptor yX3_distanceTo.desc).map (fun d => d.parameters.length) = some 3 := by decide +kernel
set_option maxRecDepth 100000 in
set_option maxHeartbeats 4000000 in
theorem r_X1_nodesWithin_p6 {p : Program} {l : Launch} {e : Env} {s : State} {m : MethodId} {args : Array Value} {below : List Frame} {meth : Method} {c : Code} {G : GG} {A : Nat → Prop} (C : Cx p s m args meth c G A cX1_nodesWithin 6 RX1 wsX1_nodesWithin (some .int)) (n : Nat) {z : Int32} : ∀ (t : Nat), ∀ (w : Wd) (a0 : Nat) (a1 : Int32) (a2 : Int32) (a3 : Int32) (a4 : Int32) (a5 : Int32), m_X1_nodesWithin_p6 n t w a0 a1 a2 a3 a4 a5 = some z → V p l e { frames := 3, cells := 0, slots := 0, locals := 68 } s m args below meth c G A 6 6 [(0, .ref a0), (1, .int a1), (2, .int a2), (3, .int a3), (4, .int a4), (5, .int a5)] [] w (some (.int z)) w := by
  intro t
  induction t with
  | zero =>
    intro w a0 a1 a2 a3 a4 a5 h
    rw [m_X1_nodesWithin_p6] at h
    cases h
  | succ t ih =>
    intro w a0 a1 a2 a3 a4 a5 h
    rw [m_X1_nodesWithin_p6] at h
    refine v_iload C 5 dX1_nodesWithin_6 rfl ?_
    refine v_aload_n C 0 dX1_nodesWithin_8 rfl rfl ?_
    obtain ⟨x1, e_x1, h⟩ := bnd h
    refine v_getf C (ci := 1) (k := 3) rfl inX1_nodesWithin_X1 (by decide) fX1_nodesWithin_18 dX1_nodesWithin_9 (gfI_e e_x1) ?_
    refine v_icmp_ge C (tgt := 40) dX1_nodesWithin_12 (by decide) (fun q => ?_) (fun q => ?_)
    · have h := ite_t q h
      refine v_iload C 4 dX1_nodesWithin_40 rfl ?_
      obtain rfl := Option.some.inj h
      exact v_iret C dX1_nodesWithin_42
    · have h := ite_f q h
      refine v_aload_n C 0 dX1_nodesWithin_15 rfl rfl ?_
      obtain ⟨q2, e_q2, h⟩ := bnd h
      refine v_getf C (ci := 1) (k := 2) rfl inX1_nodesWithin_X1 (by decide) fX1_nodesWithin_15 dX1_nodesWithin_16 (gfR_e e_q2) ?_
      refine v_iload C 5 dX1_nodesWithin_19 rfl ?_
      obtain ⟨x3, e_x3, h⟩ := bnd h
      refine v_iald C dX1_nodesWithin_21 e_x3 ?_
      refine v_iload_n C 2 dX1_nodesWithin_22 rfl rfl ?_
      refine v_iload_n C 3 dX1_nodesWithin_23 rfl rfl ?_
      refine v_callSi C (av := [.int x3, .int a2, .int a3]) (rest := []) gX1_nodesWithin_X3_distanceTo rfl ⟨rfl, rfl⟩ hS_X3_distanceTo ⟨(Nat.le_of_ble_eq_true rfl), (Nat.le_of_ble_eq_true rfl)⟩ (r_X3_distanceTo (A := A) rfl) rfl rfl (Nat.le_of_ble_eq_true rfl) dX1_nodesWithin_24 ?_
      refine v_at (pc' := 27) rfl ?_
      refine v_iload_n C 1 dX1_nodesWithin_27 rfl rfl ?_
      refine v_icmp_gt C (tgt := 34) dX1_nodesWithin_28 (by decide) (fun q => ?_) (fun q => ?_)
      · have h := ite_t q h
        refine v_iinc C (k := 5) (v := (a5 + 1)) (lv' := [(5, .int (a5 + 1)), (0, .ref a0), (1, .int a1), (2, .int a2), (3, .int a3), (4, .int a4)]) dX1_nodesWithin_34 rfl rfl (by decide) rfl ?_
        refine v_goto C (tgt := 6) dX1_nodesWithin_37 (by decide) ?_
        refine v_sub [1, 2, 3, 4, 5, 0] rfl ?_
        exact ih _ _ _ _ _ _ _ h
      · have h := ite_f q h
        refine v_iinc C (k := 4) (v := (a4 + 1)) (lv' := [(4, .int (a4 + 1)), (0, .ref a0), (1, .int a1), (2, .int a2), (3, .int a3), (5, .int a5)]) dX1_nodesWithin_31 rfl rfl (by decide) rfl ?_
        refine v_iinc C (k := 5) (v := (a5 + 1)) (lv' := [(5, .int (a5 + 1)), (4, .int (a4 + 1)), (0, .ref a0), (1, .int a1), (2, .int a2), (3, .int a3)]) dX1_nodesWithin_34 rfl rfl (by decide) rfl ?_
        refine v_goto C (tgt := 6) dX1_nodesWithin_37 (by decide) ?_
        refine v_sub [2, 3, 4, 5, 1, 0] rfl ?_
        exact ih _ _ _ _ _ _ _ h
set_option maxRecDepth 100000 in
set_option maxHeartbeats 4000000 in
theorem r_X1_nodesWithin {l : Launch} {G : GG} {A : Nat → Prop} {n : Nat} {w : Wd} {this : Nat} {a1 : Int32} {a2 : Int32} {a3 : Int32} {z : Int32} (h : m_X1_nodesWithin n w this a1 a2 a3 = some z) : Con l yX1_nodesWithin wsX1_nodesWithin { frames := 3, cells := 0, slots := 0, locals := 68 } G A [.ref this, .int a1, .int a2, .int a3] w (some (.int z)) w := by
  refine Con.of (own := RX1) (cc := cX1_nodesWithin) (maxL := 6) (ret := (some .int)) rfl (by decide) rfl (Nat.le_of_ble_eq_true rfl) ?_
  intro p e s m args below meth c C
  show V p l e { frames := 3, cells := 0, slots := 0, locals := 68 } s m args below meth c G A 6 0 [(0, .ref this), (1, .int a1), (2, .int a2), (3, .int a3)] [] w (some (.int z)) w
  unfold m_X1_nodesWithin at h
  refine v_iconst C (v := 0) dX1_nodesWithin_0 (by decide) ?_
  refine v_istore C (lv' := [(4, .int 0), (0, .ref this), (1, .int a1), (2, .int a2), (3, .int a3)]) dX1_nodesWithin_1 (by decide) rfl ?_
  refine v_iconst C (v := 0) dX1_nodesWithin_3 (by decide) ?_
  refine v_istore C (lv' := [(5, .int 0), (4, .int 0), (0, .ref this), (1, .int a1), (2, .int a2), (3, .int a3)]) dX1_nodesWithin_4 (by decide) rfl ?_
  refine v_sub [2, 3, 4, 5, 1, 0] rfl ?_
  exact r_X1_nodesWithin_p6 C n n _ _ _ _ _ _ _ h
theorem fX2_append_18 : Cond.fieldLink RX2 18 (TX2 1).1 (TX2 1).2.1 (TX2 1).2.2.1 ∈ wsX2_append := by decide +kernel
theorem inX2_append_X2 : ∀ x ∈ u_ws RX2 TX2 6, x ∈ wsX2_append := by decide +kernel
theorem fX2_append_9 : Cond.fieldLink RX2 9 (TX2 0).1 (TX2 0).2.1 (TX2 0).2.2.1 ∈ wsX2_append := by decide +kernel
set_option maxRecDepth 100000 in
set_option maxHeartbeats 4000000 in
theorem r_X2_append {l : Launch} {G : GG} {A : Nat → Prop} {n : Nat} {w : Wd} {this : Nat} {a1 : Int32} {z : Wd} (h : m_X2_append n w this a1 = some z) : Con l yX2_append wsX2_append { frames := 0, cells := 0, slots := 0, locals := 0 } G A [.ref this, .int a1] w (none) z := by
  refine Con.of (own := RX2) (cc := cX2_append) (maxL := 2) (ret := none) rfl (by decide) rfl (Nat.le_of_ble_eq_true rfl) ?_
  intro p e s m args below meth c C
  show V p l e { frames := 0, cells := 0, slots := 0, locals := 0 } s m args below meth c G A 2 0 [(0, .ref this), (1, .int a1)] [] w (none) z
  unfold m_X2_append at h
  refine v_aload_n C 0 dX2_append_0 rfl rfl ?_
  obtain ⟨x1, e_x1, h⟩ := bnd h
  refine v_getf C (ci := 2) (k := 1) rfl inX2_append_X2 (by decide) fX2_append_18 dX2_append_1 (gfI_e e_x1) ?_
  refine v_bipush C (v := 120) dX2_append_4 (by decide) ?_
  refine v_icmp_ge C (tgt := 29) dX2_append_6 (by decide) (fun q => ?_) (fun q => ?_)
  · have h := ite_t q h
    obtain rfl := Option.some.inj h
    exact v_vret C dX2_append_29
  · have h := ite_f q h
    refine v_aload_n C 0 dX2_append_9 rfl rfl ?_
    obtain ⟨q2, e_q2, h⟩ := bnd h
    refine v_getf C (ci := 2) (k := 0) rfl inX2_append_X2 (by decide) fX2_append_9 dX2_append_10 (gfR_e e_q2) ?_
    refine v_aload_n C 0 dX2_append_13 rfl rfl ?_
    obtain ⟨x3, e_x3, h⟩ := bnd h
    refine v_getf C (ci := 2) (k := 1) rfl inX2_append_X2 (by decide) fX2_append_18 dX2_append_14 (gfI_e e_x3) ?_
    refine v_iload_n C 1 dX2_append_17 rfl rfl ?_
    obtain ⟨w4, e_w4, h⟩ := bnd h
    refine v_iast C dX2_append_18 e_w4 ?_
    refine v_aload_n C 0 dX2_append_19 rfl rfl ?_
    refine v_at (pc' := 20) rfl ?_
    refine v_dup C dX2_append_20 rfl ?_
    obtain ⟨x5, e_x5, h⟩ := bnd h
    refine v_getf C (ci := 2) (k := 1) rfl inX2_append_X2 (by decide) fX2_append_18 dX2_append_21 (gfI_e e_x5) ?_
    refine v_iconst C (v := 1) dX2_append_24 (by decide) ?_
    refine v_iadd C dX2_append_25 ?_
    obtain ⟨w6, e_w6, h⟩ := bnd h
    refine v_putf C (ci := 2) (k := 1) rfl inX2_append_X2 tyX2_ok nmX2 (by decide) fX2_append_18 rfl (tyX2_ok 1 (by decide)) rfl rfl dX2_append_26 e_w6 ?_
    obtain rfl := Option.some.inj h
    exact v_vret C dX2_append_29
theorem fX4_copy_37 : Cond.fieldLink RX4 37 (TX4 8).1 (TX4 8).2.1 (TX4 8).2.2.1 ∈ wsX4_copy := by decide +kernel
theorem inX4_copy_X4 : ∀ x ∈ u_ws RX4 TX4 9, x ∈ wsX4_copy := by decide +kernel
theorem fX4_copy_28 : Cond.fieldLink RX4 28 (TX4 5).1 (TX4 5).2.1 (TX4 5).2.2.1 ∈ wsX4_copy := by decide +kernel
theorem fX4_copy_31 : Cond.fieldLink RX4 31 (TX4 6).1 (TX4 6).2.1 (TX4 6).2.2.1 ∈ wsX4_copy := by decide +kernel
theorem fX4_copy_34 : Cond.fieldLink RX4 34 (TX4 7).1 (TX4 7).2.1 (TX4 7).2.2.1 ∈ wsX4_copy := by decide +kernel
theorem fX4_copy_9 : Cond.fieldLink RX4 9 (TX4 0).1 (TX4 0).2.1 (TX4 0).2.2.1 ∈ wsX4_copy := by decide +kernel
theorem fX4_copy_15 : Cond.fieldLink RX4 15 (TX4 1).1 (TX4 1).2.1 (TX4 1).2.2.1 ∈ wsX4_copy := by decide +kernel
theorem fX4_copy_19 : Cond.fieldLink RX4 19 (TX4 2).1 (TX4 2).2.1 (TX4 2).2.2.1 ∈ wsX4_copy := by decide +kernel
theorem fX4_copy_22 : Cond.fieldLink RX4 22 (TX4 3).1 (TX4 3).2.1 (TX4 3).2.2.1 ∈ wsX4_copy := by decide +kernel
theorem fX4_copy_25 : Cond.fieldLink RX4 25 (TX4 4).1 (TX4 4).2.1 (TX4 4).2.2.1 ∈ wsX4_copy := by decide +kernel
set_option maxRecDepth 100000 in
set_option maxHeartbeats 4000000 in
theorem r_X4_copy_p123 {p : Program} {l : Launch} {e : Env} {s : State} {m : MethodId} {args : Array Value} {below : List Frame} {meth : Method} {c : Code} {G : GG} {A : Nat → Prop} (C : Cx p s m args meth c G A cX4_copy 3 RX4 wsX4_copy none) (n : Nat) {z : Wd} : ∀ (w : Wd) (a0 : Nat) (a1 : Nat), m_X4_copy_p123 n w a0 a1 = some z → V p l e { frames := 0, cells := 0, slots := 0, locals := 0 } s m args below meth c G A 3 123 [(0, .ref a0), (1, .ref a1)] [] w (none) z := by
  intro w a0 a1 h
  unfold m_X4_copy_p123 at h
  refine v_aload_n C 0 dX4_copy_123 rfl rfl ?_
  refine v_aload_n C 1 dX4_copy_124 rfl rfl ?_
  obtain ⟨x1, e_x1, h⟩ := bnd h
  refine v_getf C (ci := 3) (k := 8) rfl inX4_copy_X4 (by decide) fX4_copy_37 dX4_copy_125 (gfI_e e_x1) ?_
  obtain ⟨w2, e_w2, h⟩ := bnd h
  refine v_putf C (ci := 3) (k := 8) rfl inX4_copy_X4 tyX4_ok nmX4 (by decide) fX4_copy_37 rfl (tyX4_ok 8 (by decide)) rfl rfl dX4_copy_128 e_w2 ?_
  obtain rfl := Option.some.inj h
  exact v_vret C dX4_copy_131
set_option maxRecDepth 100000 in
set_option maxHeartbeats 4000000 in
theorem r_X4_copy_p76 {p : Program} {l : Launch} {e : Env} {s : State} {m : MethodId} {args : Array Value} {below : List Frame} {meth : Method} {c : Code} {G : GG} {A : Nat → Prop} (C : Cx p s m args meth c G A cX4_copy 3 RX4 wsX4_copy none) (n : Nat) {z : Wd} : ∀ (t : Nat), ∀ (w : Wd) (a0 : Nat) (a1 : Nat) (a2 : Int32), m_X4_copy_p76 n t w a0 a1 a2 = some z → V p l e { frames := 0, cells := 0, slots := 0, locals := 0 } s m args below meth c G A 3 76 [(0, .ref a0), (1, .ref a1), (2, .int a2)] [] w (none) z := by
  intro t
  induction t with
  | zero =>
    intro w a0 a1 a2 h
    rw [m_X4_copy_p76] at h
    cases h
  | succ t ih =>
    intro w a0 a1 a2 h
    rw [m_X4_copy_p76] at h
    refine v_iload_n C 2 dX4_copy_76 rfl rfl ?_
    refine v_iconst C (v := 4) dX4_copy_77 (by decide) ?_
    refine v_icmp_ge C (tgt := 123) dX4_copy_78 (by decide) (fun q => ?_) (fun q => ?_)
    · have h := ite_t q h
      refine v_sub [0, 1] rfl ?_
      exact r_X4_copy_p123 C n _ _ _ h
    · have h := ite_f q h
      refine v_aload_n C 0 dX4_copy_81 rfl rfl ?_
      obtain ⟨q1, e_q1, h⟩ := bnd h
      refine v_getf C (ci := 3) (k := 5) rfl inX4_copy_X4 (by decide) fX4_copy_28 dX4_copy_82 (gfR_e e_q1) ?_
      refine v_iload_n C 2 dX4_copy_85 rfl rfl ?_
      refine v_aload_n C 1 dX4_copy_86 rfl rfl ?_
      obtain ⟨q2, e_q2, h⟩ := bnd h
      refine v_getf C (ci := 3) (k := 5) rfl inX4_copy_X4 (by decide) fX4_copy_28 dX4_copy_87 (gfR_e e_q2) ?_
      refine v_iload_n C 2 dX4_copy_90 rfl rfl ?_
      obtain ⟨x3, e_x3, h⟩ := bnd h
      refine v_iald C dX4_copy_91 e_x3 ?_
      refine v_at (pc' := 92) rfl ?_
      obtain ⟨w4, e_w4, h⟩ := bnd h
      refine v_iast C dX4_copy_92 e_w4 ?_
      refine v_aload_n C 0 dX4_copy_93 rfl rfl ?_
      obtain ⟨q5, e_q5, h⟩ := bnd h
      refine v_getf C (ci := 3) (k := 6) rfl inX4_copy_X4 (by decide) fX4_copy_31 dX4_copy_94 (gfR_e e_q5) ?_
      refine v_iload_n C 2 dX4_copy_97 rfl rfl ?_
      refine v_aload_n C 1 dX4_copy_98 rfl rfl ?_
      obtain ⟨q6, e_q6, h⟩ := bnd h
      refine v_getf C (ci := 3) (k := 6) rfl inX4_copy_X4 (by decide) fX4_copy_31 dX4_copy_99 (gfR_e e_q6) ?_
      refine v_iload_n C 2 dX4_copy_102 rfl rfl ?_
      obtain ⟨x7, e_x7, h⟩ := bnd h
      refine v_iald C dX4_copy_103 e_x7 ?_
      refine v_at (pc' := 104) rfl ?_
      obtain ⟨w8, e_w8, h⟩ := bnd h
      refine v_iast C dX4_copy_104 e_w8 ?_
      refine v_aload_n C 0 dX4_copy_105 rfl rfl ?_
      obtain ⟨q9, e_q9, h⟩ := bnd h
      refine v_getf C (ci := 3) (k := 7) rfl inX4_copy_X4 (by decide) fX4_copy_34 dX4_copy_106 (gfR_e e_q9) ?_
      refine v_iload_n C 2 dX4_copy_109 rfl rfl ?_
      refine v_aload_n C 1 dX4_copy_110 rfl rfl ?_
      obtain ⟨q10, e_q10, h⟩ := bnd h
      refine v_getf C (ci := 3) (k := 7) rfl inX4_copy_X4 (by decide) fX4_copy_34 dX4_copy_111 (gfR_e e_q10) ?_
      refine v_iload_n C 2 dX4_copy_114 rfl rfl ?_
      obtain ⟨x11, e_x11, h⟩ := bnd h
      refine v_iald C dX4_copy_115 e_x11 ?_
      refine v_at (pc' := 116) rfl ?_
      obtain ⟨w12, e_w12, h⟩ := bnd h
      refine v_iast C dX4_copy_116 e_w12 ?_
      refine v_iinc C (k := 2) (v := (a2 + 1)) (lv' := [(2, .int (a2 + 1)), (0, .ref a0), (1, .ref a1)]) dX4_copy_117 rfl rfl (by decide) rfl ?_
      refine v_goto C (tgt := 76) dX4_copy_120 (by decide) ?_
      refine v_sub [1, 2, 0] rfl ?_
      exact ih _ _ _ _ h
set_option maxRecDepth 100000 in
set_option maxHeartbeats 4000000 in
theorem r_X4_copy_p74 {p : Program} {l : Launch} {e : Env} {s : State} {m : MethodId} {args : Array Value} {below : List Frame} {meth : Method} {c : Code} {G : GG} {A : Nat → Prop} (C : Cx p s m args meth c G A cX4_copy 3 RX4 wsX4_copy none) (n : Nat) {z : Wd} : ∀ (w : Wd) (a0 : Nat) (a1 : Nat), m_X4_copy_p74 n w a0 a1 = some z → V p l e { frames := 0, cells := 0, slots := 0, locals := 0 } s m args below meth c G A 3 74 [(0, .ref a0), (1, .ref a1)] [] w (none) z := by
  intro w a0 a1 h
  unfold m_X4_copy_p74 at h
  refine v_iconst C (v := 0) dX4_copy_74 (by decide) ?_
  refine v_istore_n C (lv' := [(2, .int 0), (0, .ref a0), (1, .ref a1)]) dX4_copy_75 rfl (by decide) rfl ?_
  refine v_sub [1, 2, 0] rfl ?_
  exact r_X4_copy_p76 C n n _ _ _ _ h
set_option maxRecDepth 100000 in
set_option maxHeartbeats 4000000 in
theorem r_X4_copy_p2 {p : Program} {l : Launch} {e : Env} {s : State} {m : MethodId} {args : Array Value} {below : List Frame} {meth : Method} {c : Code} {G : GG} {A : Nat → Prop} (C : Cx p s m args meth c G A cX4_copy 3 RX4 wsX4_copy none) (n : Nat) {z : Wd} : ∀ (t : Nat), ∀ (w : Wd) (a0 : Nat) (a1 : Nat) (a2 : Int32), m_X4_copy_p2 n t w a0 a1 a2 = some z → V p l e { frames := 0, cells := 0, slots := 0, locals := 0 } s m args below meth c G A 3 2 [(0, .ref a0), (1, .ref a1), (2, .int a2)] [] w (none) z := by
  intro t
  induction t with
  | zero =>
    intro w a0 a1 a2 h
    rw [m_X4_copy_p2] at h
    cases h
  | succ t ih =>
    intro w a0 a1 a2 h
    rw [m_X4_copy_p2] at h
    refine v_iload_n C 2 dX4_copy_2 rfl rfl ?_
    refine v_bipush C (v := 24) dX4_copy_3 (by decide) ?_
    refine v_icmp_ge C (tgt := 74) dX4_copy_5 (by decide) (fun q => ?_) (fun q => ?_)
    · have h := ite_t q h
      refine v_sub [0, 1] rfl ?_
      exact r_X4_copy_p74 C n _ _ _ h
    · have h := ite_f q h
      refine v_aload_n C 0 dX4_copy_8 rfl rfl ?_
      obtain ⟨q1, e_q1, h⟩ := bnd h
      refine v_getf C (ci := 3) (k := 0) rfl inX4_copy_X4 (by decide) fX4_copy_9 dX4_copy_9 (gfR_e e_q1) ?_
      refine v_iload_n C 2 dX4_copy_12 rfl rfl ?_
      refine v_aload_n C 1 dX4_copy_13 rfl rfl ?_
      obtain ⟨q2, e_q2, h⟩ := bnd h
      refine v_getf C (ci := 3) (k := 0) rfl inX4_copy_X4 (by decide) fX4_copy_9 dX4_copy_14 (gfR_e e_q2) ?_
      refine v_iload_n C 2 dX4_copy_17 rfl rfl ?_
      obtain ⟨x3, e_x3, h⟩ := bnd h
      refine v_zald C dX4_copy_18 e_x3 ?_
      refine v_at (pc' := 19) rfl ?_
      obtain ⟨w4, e_w4, h⟩ := bnd h
      refine v_zast C dX4_copy_19 e_w4 ?_
      refine v_aload_n C 0 dX4_copy_20 rfl rfl ?_
      obtain ⟨q5, e_q5, h⟩ := bnd h
      refine v_getf C (ci := 3) (k := 1) rfl inX4_copy_X4 (by decide) fX4_copy_15 dX4_copy_21 (gfR_e e_q5) ?_
      refine v_iload_n C 2 dX4_copy_24 rfl rfl ?_
      refine v_aload_n C 1 dX4_copy_25 rfl rfl ?_
      obtain ⟨q6, e_q6, h⟩ := bnd h
      refine v_getf C (ci := 3) (k := 1) rfl inX4_copy_X4 (by decide) fX4_copy_15 dX4_copy_26 (gfR_e e_q6) ?_
      refine v_iload_n C 2 dX4_copy_29 rfl rfl ?_
      obtain ⟨x7, e_x7, h⟩ := bnd h
      refine v_iald C dX4_copy_30 e_x7 ?_
      refine v_at (pc' := 31) rfl ?_
      obtain ⟨w8, e_w8, h⟩ := bnd h
      refine v_iast C dX4_copy_31 e_w8 ?_
      refine v_aload_n C 0 dX4_copy_32 rfl rfl ?_
      obtain ⟨q9, e_q9, h⟩ := bnd h
      refine v_getf C (ci := 3) (k := 2) rfl inX4_copy_X4 (by decide) fX4_copy_19 dX4_copy_33 (gfR_e e_q9) ?_
      refine v_iload_n C 2 dX4_copy_36 rfl rfl ?_
      refine v_aload_n C 1 dX4_copy_37 rfl rfl ?_
      obtain ⟨q10, e_q10, h⟩ := bnd h
      refine v_getf C (ci := 3) (k := 2) rfl inX4_copy_X4 (by decide) fX4_copy_19 dX4_copy_38 (gfR_e e_q10) ?_
      refine v_iload_n C 2 dX4_copy_41 rfl rfl ?_
      obtain ⟨x11, e_x11, h⟩ := bnd h
      refine v_iald C dX4_copy_42 e_x11 ?_
      refine v_at (pc' := 43) rfl ?_
      obtain ⟨w12, e_w12, h⟩ := bnd h
      refine v_iast C dX4_copy_43 e_w12 ?_
      refine v_aload_n C 0 dX4_copy_44 rfl rfl ?_
      obtain ⟨q13, e_q13, h⟩ := bnd h
      refine v_getf C (ci := 3) (k := 3) rfl inX4_copy_X4 (by decide) fX4_copy_22 dX4_copy_45 (gfR_e e_q13) ?_
      refine v_iload_n C 2 dX4_copy_48 rfl rfl ?_
      refine v_aload_n C 1 dX4_copy_49 rfl rfl ?_
      obtain ⟨q14, e_q14, h⟩ := bnd h
      refine v_getf C (ci := 3) (k := 3) rfl inX4_copy_X4 (by decide) fX4_copy_22 dX4_copy_50 (gfR_e e_q14) ?_
      refine v_iload_n C 2 dX4_copy_53 rfl rfl ?_
      obtain ⟨x15, e_x15, h⟩ := bnd h
      refine v_iald C dX4_copy_54 e_x15 ?_
      refine v_at (pc' := 55) rfl ?_
      obtain ⟨w16, e_w16, h⟩ := bnd h
      refine v_iast C dX4_copy_55 e_w16 ?_
      refine v_aload_n C 0 dX4_copy_56 rfl rfl ?_
      obtain ⟨q17, e_q17, h⟩ := bnd h
      refine v_getf C (ci := 3) (k := 4) rfl inX4_copy_X4 (by decide) fX4_copy_25 dX4_copy_57 (gfR_e e_q17) ?_
      refine v_iload_n C 2 dX4_copy_60 rfl rfl ?_
      refine v_aload_n C 1 dX4_copy_61 rfl rfl ?_
      obtain ⟨q18, e_q18, h⟩ := bnd h
      refine v_getf C (ci := 3) (k := 4) rfl inX4_copy_X4 (by decide) fX4_copy_25 dX4_copy_62 (gfR_e e_q18) ?_
      refine v_iload_n C 2 dX4_copy_65 rfl rfl ?_
      obtain ⟨x19, e_x19, h⟩ := bnd h
      refine v_iald C dX4_copy_66 e_x19 ?_
      refine v_at (pc' := 67) rfl ?_
      obtain ⟨w20, e_w20, h⟩ := bnd h
      refine v_iast C dX4_copy_67 e_w20 ?_
      refine v_iinc C (k := 2) (v := (a2 + 1)) (lv' := [(2, .int (a2 + 1)), (0, .ref a0), (1, .ref a1)]) dX4_copy_68 rfl rfl (by decide) rfl ?_
      refine v_goto C (tgt := 2) dX4_copy_71 (by decide) ?_
      refine v_sub [1, 2, 0] rfl ?_
      exact ih _ _ _ _ h
set_option maxRecDepth 100000 in
set_option maxHeartbeats 4000000 in
theorem r_X4_copy {l : Launch} {G : GG} {A : Nat → Prop} {n : Nat} {w : Wd} {this : Nat} {a1 : Nat} {z : Wd} (h : m_X4_copy n w this a1 = some z) : Con l yX4_copy wsX4_copy { frames := 0, cells := 0, slots := 0, locals := 0 } G A [.ref this, .ref a1] w (none) z := by
  refine Con.of (own := RX4) (cc := cX4_copy) (maxL := 3) (ret := none) rfl (by decide) rfl (Nat.le_of_ble_eq_true rfl) ?_
  intro p e s m args below meth c C
  show V p l e { frames := 0, cells := 0, slots := 0, locals := 0 } s m args below meth c G A 3 0 [(0, .ref this), (1, .ref a1)] [] w (none) z
  unfold m_X4_copy at h
  refine v_iconst C (v := 0) dX4_copy_0 (by decide) ?_
  refine v_istore_n C (lv' := [(2, .int 0), (0, .ref this), (1, .ref a1)]) dX4_copy_1 rfl (by decide) rfl ?_
  refine v_sub [1, 2, 0] rfl ?_
  exact r_X4_copy_p2 C n n _ _ _ _ h
theorem fX4_put_9 : Cond.fieldLink RX4 9 (TX4 0).1 (TX4 0).2.1 (TX4 0).2.2.1 ∈ wsX4_put := by decide +kernel
theorem inX4_put_X4 : ∀ x ∈ u_ws RX4 TX4 9, x ∈ wsX4_put := by decide +kernel
theorem fX4_put_15 : Cond.fieldLink RX4 15 (TX4 1).1 (TX4 1).2.1 (TX4 1).2.2.1 ∈ wsX4_put := by decide +kernel
theorem fX4_put_19 : Cond.fieldLink RX4 19 (TX4 2).1 (TX4 2).2.1 (TX4 2).2.2.1 ∈ wsX4_put := by decide +kernel
set_option maxRecDepth 100000 in
set_option maxHeartbeats 4000000 in
theorem r_X4_put {l : Launch} {G : GG} {A : Nat → Prop} {n : Nat} {w : Wd} {this : Nat} {a1 : Int32} {a2 : Int32} {a3 : Int32} {z : Wd} (h : m_X4_put n w this a1 a2 a3 = some z) : Con l yX4_put wsX4_put { frames := 0, cells := 0, slots := 0, locals := 0 } G A [.ref this, .int a1, .int a2, .int a3] w (none) z := by
  refine Con.of (own := RX4) (cc := cX4_put) (maxL := 4) (ret := none) rfl (by decide) rfl (Nat.le_of_ble_eq_true rfl) ?_
  intro p e s m args below meth c C
  show V p l e { frames := 0, cells := 0, slots := 0, locals := 0 } s m args below meth c G A 4 0 [(0, .ref this), (1, .int a1), (2, .int a2), (3, .int a3)] [] w (none) z
  unfold m_X4_put at h
  refine v_aload_n C 0 dX4_put_0 rfl rfl ?_
  obtain ⟨q1, e_q1, h⟩ := bnd h
  refine v_getf C (ci := 3) (k := 0) rfl inX4_put_X4 (by decide) fX4_put_9 dX4_put_1 (gfR_e e_q1) ?_
  refine v_iload_n C 1 dX4_put_4 rfl rfl ?_
  refine v_iconst C (v := 1) dX4_put_5 (by decide) ?_
  obtain ⟨w2, e_w2, h⟩ := bnd h
  refine v_zast C dX4_put_6 e_w2 ?_
  refine v_aload_n C 0 dX4_put_7 rfl rfl ?_
  obtain ⟨q3, e_q3, h⟩ := bnd h
  refine v_getf C (ci := 3) (k := 1) rfl inX4_put_X4 (by decide) fX4_put_15 dX4_put_8 (gfR_e e_q3) ?_
  refine v_at (pc' := 11) rfl ?_
  refine v_iload_n C 1 dX4_put_11 rfl rfl ?_
  refine v_iload_n C 2 dX4_put_12 rfl rfl ?_
  obtain ⟨w4, e_w4, h⟩ := bnd h
  refine v_iast C dX4_put_13 e_w4 ?_
  refine v_aload_n C 0 dX4_put_14 rfl rfl ?_
  obtain ⟨q5, e_q5, h⟩ := bnd h
  refine v_getf C (ci := 3) (k := 2) rfl inX4_put_X4 (by decide) fX4_put_19 dX4_put_15 (gfR_e e_q5) ?_
  refine v_iload_n C 1 dX4_put_18 rfl rfl ?_
  refine v_iload_n C 3 dX4_put_19 rfl rfl ?_
  obtain ⟨w6, e_w6, h⟩ := bnd h
  refine v_iast C dX4_put_20 e_w6 ?_
  refine v_at (pc' := 21) rfl ?_
  obtain rfl := Option.some.inj h
  exact v_vret C dX4_put_21
theorem fX4_clear_9 : Cond.fieldLink RX4 9 (TX4 0).1 (TX4 0).2.1 (TX4 0).2.2.1 ∈ wsX4_clear := by decide +kernel
theorem inX4_clear_X4 : ∀ x ∈ u_ws RX4 TX4 9, x ∈ wsX4_clear := by decide +kernel
theorem fX4_clear_15 : Cond.fieldLink RX4 15 (TX4 1).1 (TX4 1).2.1 (TX4 1).2.2.1 ∈ wsX4_clear := by decide +kernel
theorem fX4_clear_19 : Cond.fieldLink RX4 19 (TX4 2).1 (TX4 2).2.1 (TX4 2).2.2.1 ∈ wsX4_clear := by decide +kernel
theorem fX4_clear_22 : Cond.fieldLink RX4 22 (TX4 3).1 (TX4 3).2.1 (TX4 3).2.2.1 ∈ wsX4_clear := by decide +kernel
theorem fX4_clear_25 : Cond.fieldLink RX4 25 (TX4 4).1 (TX4 4).2.1 (TX4 4).2.2.1 ∈ wsX4_clear := by decide +kernel
set_option maxRecDepth 100000 in
set_option maxHeartbeats 4000000 in
theorem r_X4_clear {l : Launch} {G : GG} {A : Nat → Prop} {n : Nat} {w : Wd} {this : Nat} {a1 : Int32} {z : Wd} (h : m_X4_clear n w this a1 = some z) : Con l yX4_clear wsX4_clear { frames := 0, cells := 0, slots := 0, locals := 0 } G A [.ref this, .int a1] w (none) z := by
  refine Con.of (own := RX4) (cc := cX4_clear) (maxL := 2) (ret := none) rfl (by decide) rfl (Nat.le_of_ble_eq_true rfl) ?_
  intro p e s m args below meth c C
  show V p l e { frames := 0, cells := 0, slots := 0, locals := 0 } s m args below meth c G A 2 0 [(0, .ref this), (1, .int a1)] [] w (none) z
  unfold m_X4_clear at h
  refine v_aload_n C 0 dX4_clear_0 rfl rfl ?_
  obtain ⟨q1, e_q1, h⟩ := bnd h
  refine v_getf C (ci := 3) (k := 0) rfl inX4_clear_X4 (by decide) fX4_clear_9 dX4_clear_1 (gfR_e e_q1) ?_
  refine v_iload_n C 1 dX4_clear_4 rfl rfl ?_
  refine v_iconst C (v := 0) dX4_clear_5 (by decide) ?_
  obtain ⟨w2, e_w2, h⟩ := bnd h
  refine v_zast C dX4_clear_6 e_w2 ?_
  refine v_aload_n C 0 dX4_clear_7 rfl rfl ?_
  obtain ⟨q3, e_q3, h⟩ := bnd h
  refine v_getf C (ci := 3) (k := 1) rfl inX4_clear_X4 (by decide) fX4_clear_15 dX4_clear_8 (gfR_e e_q3) ?_
  refine v_at (pc' := 11) rfl ?_
  refine v_iload_n C 1 dX4_clear_11 rfl rfl ?_
  refine v_iconst C (v := 0) dX4_clear_12 (by decide) ?_
  obtain ⟨w4, e_w4, h⟩ := bnd h
  refine v_iast C dX4_clear_13 e_w4 ?_
  refine v_aload_n C 0 dX4_clear_14 rfl rfl ?_
  obtain ⟨q5, e_q5, h⟩ := bnd h
  refine v_getf C (ci := 3) (k := 2) rfl inX4_clear_X4 (by decide) fX4_clear_19 dX4_clear_15 (gfR_e e_q5) ?_
  refine v_iload_n C 1 dX4_clear_18 rfl rfl ?_
  refine v_iconst C (v := 0) dX4_clear_19 (by decide) ?_
  obtain ⟨w6, e_w6, h⟩ := bnd h
  refine v_iast C dX4_clear_20 e_w6 ?_
  refine v_at (pc' := 21) rfl ?_
  refine v_aload_n C 0 dX4_clear_21 rfl rfl ?_
  obtain ⟨q7, e_q7, h⟩ := bnd h
  refine v_getf C (ci := 3) (k := 3) rfl inX4_clear_X4 (by decide) fX4_clear_22 dX4_clear_22 (gfR_e e_q7) ?_
  refine v_iload_n C 1 dX4_clear_25 rfl rfl ?_
  refine v_iconst C (v := 0) dX4_clear_26 (by decide) ?_
  obtain ⟨w8, e_w8, h⟩ := bnd h
  refine v_iast C dX4_clear_27 e_w8 ?_
  refine v_aload_n C 0 dX4_clear_28 rfl rfl ?_
  obtain ⟨q9, e_q9, h⟩ := bnd h
  refine v_getf C (ci := 3) (k := 4) rfl inX4_clear_X4 (by decide) fX4_clear_25 dX4_clear_29 (gfR_e e_q9) ?_
  refine v_iload_n C 1 dX4_clear_32 rfl rfl ?_
  refine v_at (pc' := 33) rfl ?_
  refine v_iconst C (v := 0) dX4_clear_33 (by decide) ?_
  obtain ⟨w10, e_w10, h⟩ := bnd h
  refine v_iast C dX4_clear_34 e_w10 ?_
  obtain rfl := Option.some.inj h
  exact v_vret C dX4_clear_35
set_option maxRecDepth 100000 in
set_option maxHeartbeats 4000000 in
theorem r_X4_reflected {l : Launch} {G : GG} {A : Nat → Prop} {w : Wd} {a0 : Int32} {z : Int32} (h : m_X4_reflected a0 = z) : Con l yX4_reflected wsX4_reflected { frames := 0, cells := 0, slots := 0, locals := 0 } G A [.int a0] w (some (.int z)) w := by
  refine Con.of (own := RX4) (cc := cX4_reflected) (maxL := 1) (ret := (some .int)) rfl (by decide) rfl (Nat.le_of_ble_eq_true rfl) ?_
  intro p e s m args below meth c C
  show V p l e { frames := 0, cells := 0, slots := 0, locals := 0 } s m args below meth c G A 1 0 [(0, .int a0)] [] w (some (.int z)) w
  unfold m_X4_reflected at h
  refine v_iload_n C 0 dX4_reflected_0 rfl rfl ?_
  refine v_if_ge C (tgt := 7) dX4_reflected_1 (by decide) (fun q => ?_) (fun q => ?_)
  · have h := ite_t q h
    refine v_iload_n C 0 dX4_reflected_7 rfl rfl ?_
    refine v_bipush C (v := 64) dX4_reflected_8 (by decide) ?_
    refine v_icmp_ge C (tgt := 17) dX4_reflected_10 (by decide) (fun q => ?_) (fun q => ?_)
    · have h := ite_t q h
      refine v_bipush C (v := 126) dX4_reflected_17 (by decide) ?_
      refine v_iload_n C 0 dX4_reflected_19 rfl rfl ?_
      refine v_isub C dX4_reflected_20 ?_
      subst h
      exact v_iret C dX4_reflected_21
    · have h := ite_f q h
      refine v_iload_n C 0 dX4_reflected_13 rfl rfl ?_
      refine v_goto C (tgt := 21) dX4_reflected_14 (by decide) ?_
      subst h
      exact v_iret C dX4_reflected_21
  · have h := ite_f q h
    refine v_iload_n C 0 dX4_reflected_4 rfl rfl ?_
    refine v_ineg C dX4_reflected_5 ?_
    subst h
    exact v_iret C dX4_reflected_6
theorem fX4_step_37 : Cond.fieldLink RX4 37 (TX4 8).1 (TX4 8).2.1 (TX4 8).2.2.1 ∈ wsX4_step := by decide +kernel
theorem inX4_step_X4 : ∀ x ∈ u_ws RX4 TX4 9, x ∈ wsX4_step := by decide +kernel
theorem fX4_step_15 : Cond.fieldLink RX4 15 (TX4 1).1 (TX4 1).2.1 (TX4 1).2.2.1 ∈ wsX4_step := by decide +kernel
theorem fX4_step_22 : Cond.fieldLink RX4 22 (TX4 3).1 (TX4 3).2.1 (TX4 3).2.2.1 ∈ wsX4_step := by decide +kernel
theorem fX4_step_19 : Cond.fieldLink RX4 19 (TX4 2).1 (TX4 2).2.1 (TX4 2).2.2.1 ∈ wsX4_step := by decide +kernel
theorem fX4_step_25 : Cond.fieldLink RX4 25 (TX4 4).1 (TX4 4).2.1 (TX4 4).2.2.1 ∈ wsX4_step := by decide +kernel
theorem hS_X4_reflected : yX4_reflected.cls ≠ "java/lang/invoke/MethodHandle" ∧ yX4_reflected.cls ≠ "java/lang/invoke/VarHandle" ∧ (parseMethodDescriptor yX4_reflected.desc).map (fun d => d.parameters.length) = some 1 := by decide +kernel
set_option maxRecDepth 100000 in
set_option maxHeartbeats 4000000 in
theorem r_X4_step_p126 {p : Program} {l : Launch} {e : Env} {s : State} {m : MethodId} {args : Array Value} {below : List Frame} {meth : Method} {c : Code} {G : GG} {A : Nat → Prop} (C : Cx p s m args meth c G A cX4_step 4 RX4 wsX4_step none) (n : Nat) {z : Wd} : ∀ (w : Wd) (a0 : Nat), m_X4_step_p126 n w a0 = some z → V p l e { frames := 1, cells := 0, slots := 0, locals := 20 } s m args below meth c G A 4 126 [(0, .ref a0)] [] w (none) z := by
  intro w a0 h
  unfold m_X4_step_p126 at h
  refine v_aload_n C 0 dX4_step_126 rfl rfl ?_
  refine v_dup C dX4_step_127 rfl ?_
  obtain ⟨x1, e_x1, h⟩ := bnd h
  refine v_getf C (ci := 3) (k := 8) rfl inX4_step_X4 (by decide) fX4_step_37 dX4_step_128 (gfI_e e_x1) ?_
  refine v_iconst C (v := 1) dX4_step_131 (by decide) ?_
  refine v_iadd C dX4_step_132 ?_
  obtain ⟨w2, e_w2, h⟩ := bnd h
  refine v_putf C (ci := 3) (k := 8) rfl inX4_step_X4 tyX4_ok nmX4 (by decide) fX4_step_37 rfl (tyX4_ok 8 (by decide)) rfl rfl dX4_step_133 e_w2 ?_
  obtain rfl := Option.some.inj h
  exact v_vret C dX4_step_136
set_option maxRecDepth 100000 in
set_option maxHeartbeats 4000000 in
theorem r_X4_step_p2 {p : Program} {l : Launch} {e : Env} {s : State} {m : MethodId} {args : Array Value} {below : List Frame} {meth : Method} {c : Code} {G : GG} {A : Nat → Prop} (C : Cx p s m args meth c G A cX4_step 4 RX4 wsX4_step none) (n : Nat) {z : Wd} : ∀ (t : Nat), ∀ (w : Wd) (a0 : Nat) (a1 : Int32), m_X4_step_p2 n t w a0 a1 = some z → V p l e { frames := 1, cells := 0, slots := 0, locals := 20 } s m args below meth c G A 4 2 [(0, .ref a0), (1, .int a1)] [] w (none) z := by
  intro t
  induction t with
  | zero =>
    intro w a0 a1 h
    rw [m_X4_step_p2] at h
    cases h
  | succ t ih =>
    intro w a0 a1 h
    rw [m_X4_step_p2] at h
    refine v_iload_n C 1 dX4_step_2 rfl rfl ?_
    refine v_bipush C (v := 24) dX4_step_3 (by decide) ?_
    refine v_icmp_ge C (tgt := 126) dX4_step_5 (by decide) (fun q => ?_) (fun q => ?_)
    · have h := ite_t q h
      refine v_sub [0] rfl ?_
      exact r_X4_step_p126 C n _ _ h
    · have h := ite_f q h
      refine v_aload_n C 0 dX4_step_8 rfl rfl ?_
      obtain ⟨q1, e_q1, h⟩ := bnd h
      refine v_getf C (ci := 3) (k := 1) rfl inX4_step_X4 (by decide) fX4_step_15 dX4_step_9 (gfR_e e_q1) ?_
      refine v_iload_n C 1 dX4_step_12 rfl rfl ?_
      obtain ⟨x2, e_x2, h⟩ := bnd h
      refine v_iald C dX4_step_13 e_x2 ?_
      refine v_aload_n C 0 dX4_step_14 rfl rfl ?_
      obtain ⟨q3, e_q3, h⟩ := bnd h
      refine v_getf C (ci := 3) (k := 3) rfl inX4_step_X4 (by decide) fX4_step_22 dX4_step_15 (gfR_e e_q3) ?_
      refine v_iload_n C 1 dX4_step_18 rfl rfl ?_
      refine v_at (pc' := 19) rfl ?_
      obtain ⟨x4, e_x4, h⟩ := bnd h
      refine v_iald C dX4_step_19 e_x4 ?_
      refine v_iadd C dX4_step_20 ?_
      refine v_istore_n C (lv' := [(2, .int (x2 + x4)), (0, .ref a0), (1, .int a1)]) dX4_step_21 rfl (by decide) rfl ?_
      refine v_aload_n C 1 dX4_step_22 rfl rfl ?_
      obtain ⟨q5, e_q5, h⟩ := bnd h
      refine v_getf C (ci := 3) (k := 2) rfl inX4_step_X4 (by decide) fX4_step_19 dX4_step_23 (gfR_e e_q5) ?_
      refine v_iload_n C 2 dX4_step_26 rfl rfl ?_
      obtain ⟨x6, e_x6, h⟩ := bnd h
      refine v_iald C dX4_step_27 e_x6 ?_
      refine v_aload_n C 1 dX4_step_28 rfl rfl ?_
      refine v_at (pc' := 29) rfl ?_
      obtain ⟨q7, e_q7, h⟩ := bnd h
      refine v_getf C (ci := 3) (k := 4) rfl inX4_step_X4 (by decide) fX4_step_25 dX4_step_29 (gfR_e e_q7) ?_
      refine v_iload_n C 2 dX4_step_32 rfl rfl ?_
      obtain ⟨x8, e_x8, h⟩ := bnd h
      refine v_iald C dX4_step_33 e_x8 ?_
      refine v_iadd C dX4_step_34 ?_
      refine v_istore_n C (lv' := [(3, .int (x6 + x8)), (2, .int (x2 + x4)), (0, .ref a0), (1, .int a1)]) dX4_step_35 rfl (by decide) rfl ?_
      refine v_aload_n C 2 dX4_step_36 rfl rfl ?_
      obtain ⟨q9, e_q9, h⟩ := bnd h
      refine v_getf C (ci := 3) (k := 1) rfl inX4_step_X4 (by decide) fX4_step_15 dX4_step_37 (gfR_e e_q9) ?_
      refine v_iload_n C 3 dX4_step_40 rfl rfl ?_
      refine v_at (pc' := 41) rfl ?_
      refine v_iload_n C 1 dX4_step_41 rfl rfl ?_
      refine v_callSi C (av := [.int (x2 + x4)]) (rest := [.int a1, .ref q9]) gX4_step_X4_reflected rfl ⟨rfl, rfl⟩ hS_X4_reflected ⟨(Nat.le_of_ble_eq_true rfl), (Nat.le_of_ble_eq_true rfl)⟩ (r_X4_reflected (A := A) rfl) rfl rfl (Nat.le_of_ble_eq_true rfl) dX4_step_42 ?_
      obtain ⟨w10, e_w10, h⟩ := bnd h
      refine v_iast C dX4_step_45 e_w10 ?_
      refine v_aload_n C 2 dX4_step_46 rfl rfl ?_
      obtain ⟨q11, e_q11, h⟩ := bnd h
      refine v_getf C (ci := 3) (k := 2) rfl inX4_step_X4 (by decide) fX4_step_19 dX4_step_47 (gfR_e e_q11) ?_
      refine v_iload_n C 3 dX4_step_50 rfl rfl ?_
      refine v_iload_n C 0 dX4_step_51 rfl rfl ?_
      refine v_callSi C (av := [.int (x6 + x8)]) (rest := [.int a1, .ref q11]) gX4_step_X4_reflected rfl ⟨rfl, rfl⟩ hS_X4_reflected ⟨(Nat.le_of_ble_eq_true rfl), (Nat.le_of_ble_eq_true rfl)⟩ (r_X4_reflected (A := A) rfl) rfl rfl (Nat.le_of_ble_eq_true rfl) dX4_step_52 ?_
      refine v_at (pc' := 55) rfl ?_
      obtain ⟨w12, e_w12, h⟩ := bnd h
      refine v_iast C dX4_step_55 e_w12 ?_
      refine v_aload_n C 2 dX4_step_56 rfl rfl ?_
      obtain ⟨q13, e_q13, h⟩ := bnd h
      refine v_getf C (ci := 3) (k := 3) rfl inX4_step_X4 (by decide) fX4_step_22 dX4_step_57 (gfR_e e_q13) ?_
      refine v_iload_n C 3 dX4_step_60 rfl rfl ?_
      refine v_aload_n C 2 dX4_step_61 rfl rfl ?_
      obtain ⟨q14, e_q14, h⟩ := bnd h
      refine v_getf C (ci := 3) (k := 1) rfl inX4_step_X4 (by decide) fX4_step_15 dX4_step_62 (gfR_e e_q14) ?_
      refine v_iload_n C 3 dX4_step_65 rfl rfl ?_
      obtain ⟨x15, e_x15, h⟩ := bnd h
      refine v_iald C dX4_step_66 e_x15 ?_
      refine v_at (pc' := 67) rfl ?_
      refine v_iload_n C 1 dX4_step_67 rfl rfl ?_
      refine v_icmp_ne C (tgt := 80) dX4_step_68 (by decide) (fun q => ?_) (fun q => ?_)
      · have h := ite_f q h
        refine v_aload_n C 2 dX4_step_80 rfl rfl ?_
        obtain ⟨q16, e_q16, h⟩ := bnd h
        refine v_getf C (ci := 3) (k := 3) rfl inX4_step_X4 (by decide) fX4_step_22 dX4_step_81 (gfR_e e_q16) ?_
        refine v_iload_n C 3 dX4_step_84 rfl rfl ?_
        obtain ⟨x17, e_x17, h⟩ := bnd h
        refine v_iald C dX4_step_85 e_x17 ?_
        refine v_ineg C dX4_step_86 ?_
        obtain ⟨w18, e_w18, h⟩ := bnd h
        refine v_iast C dX4_step_87 e_w18 ?_
        refine v_aload_n C 2 dX4_step_88 rfl rfl ?_
        refine v_at (pc' := 89) rfl ?_
        obtain ⟨q19, e_q19, h⟩ := bnd h
        refine v_getf C (ci := 3) (k := 4) rfl inX4_step_X4 (by decide) fX4_step_25 dX4_step_89 (gfR_e e_q19) ?_
        refine v_iload_n C 3 dX4_step_92 rfl rfl ?_
        refine v_aload_n C 2 dX4_step_93 rfl rfl ?_
        obtain ⟨q20, e_q20, h⟩ := bnd h
        refine v_getf C (ci := 3) (k := 2) rfl inX4_step_X4 (by decide) fX4_step_19 dX4_step_94 (gfR_e e_q20) ?_
        refine v_iload_n C 3 dX4_step_97 rfl rfl ?_
        obtain ⟨x21, e_x21, h⟩ := bnd h
        refine v_iald C dX4_step_98 e_x21 ?_
        refine v_iload_n C 0 dX4_step_99 rfl rfl ?_
        refine v_icmp_ne C (tgt := 112) dX4_step_100 (by decide) (fun q => ?_) (fun q => ?_)
        · have h := ite_f q h
          refine v_aload_n C 2 dX4_step_112 rfl rfl ?_
          obtain ⟨q22, e_q22, h⟩ := bnd h
          refine v_getf C (ci := 3) (k := 4) rfl inX4_step_X4 (by decide) fX4_step_25 dX4_step_113 (gfR_e e_q22) ?_
          refine v_iload_n C 3 dX4_step_116 rfl rfl ?_
          obtain ⟨x23, e_x23, h⟩ := bnd h
          refine v_iald C dX4_step_117 e_x23 ?_
          refine v_ineg C dX4_step_118 ?_
          obtain ⟨w24, e_w24, h⟩ := bnd h
          refine v_iast C dX4_step_119 e_w24 ?_
          refine v_iinc C (k := 3) (v := (a1 + 1)) (lv' := [(1, .int (a1 + 1)), (3, .int (x6 + x8)), (2, .int (x2 + x4)), (0, .ref a0)]) dX4_step_120 rfl rfl (by decide) rfl ?_
          refine v_at (pc' := 123) rfl ?_
          refine v_goto C (tgt := 2) dX4_step_123 (by decide) ?_
          refine v_sub [3, 0] rfl ?_
          exact ih _ _ _ h
        · have h := ite_t q h
          refine v_aload_n C 2 dX4_step_103 rfl rfl ?_
          obtain ⟨q25, e_q25, h⟩ := bnd h
          refine v_getf C (ci := 3) (k := 4) rfl inX4_step_X4 (by decide) fX4_step_25 dX4_step_104 (gfR_e e_q25) ?_
          refine v_iload_n C 3 dX4_step_107 rfl rfl ?_
          obtain ⟨x26, e_x26, h⟩ := bnd h
          refine v_iald C dX4_step_108 e_x26 ?_
          refine v_goto C (tgt := 119) dX4_step_109 (by decide) ?_
          obtain ⟨w27, e_w27, h⟩ := bnd h
          refine v_iast C dX4_step_119 e_w27 ?_
          refine v_iinc C (k := 3) (v := (a1 + 1)) (lv' := [(1, .int (a1 + 1)), (3, .int (x6 + x8)), (2, .int (x2 + x4)), (0, .ref a0)]) dX4_step_120 rfl rfl (by decide) rfl ?_
          refine v_at (pc' := 123) rfl ?_
          refine v_goto C (tgt := 2) dX4_step_123 (by decide) ?_
          refine v_sub [3, 0] rfl ?_
          exact ih _ _ _ h
      · have h := ite_t q h
        refine v_aload_n C 2 dX4_step_71 rfl rfl ?_
        obtain ⟨q28, e_q28, h⟩ := bnd h
        refine v_getf C (ci := 3) (k := 3) rfl inX4_step_X4 (by decide) fX4_step_22 dX4_step_72 (gfR_e e_q28) ?_
        refine v_iload_n C 3 dX4_step_75 rfl rfl ?_
        obtain ⟨x29, e_x29, h⟩ := bnd h
        refine v_iald C dX4_step_76 e_x29 ?_
        refine v_goto C (tgt := 87) dX4_step_77 (by decide) ?_
        obtain ⟨w30, e_w30, h⟩ := bnd h
        refine v_iast C dX4_step_87 e_w30 ?_
        refine v_aload_n C 2 dX4_step_88 rfl rfl ?_
        refine v_at (pc' := 89) rfl ?_
        obtain ⟨q31, e_q31, h⟩ := bnd h
        refine v_getf C (ci := 3) (k := 4) rfl inX4_step_X4 (by decide) fX4_step_25 dX4_step_89 (gfR_e e_q31) ?_
        refine v_iload_n C 3 dX4_step_92 rfl rfl ?_
        refine v_aload_n C 2 dX4_step_93 rfl rfl ?_
        obtain ⟨q32, e_q32, h⟩ := bnd h
        refine v_getf C (ci := 3) (k := 2) rfl inX4_step_X4 (by decide) fX4_step_19 dX4_step_94 (gfR_e e_q32) ?_
        refine v_iload_n C 3 dX4_step_97 rfl rfl ?_
        obtain ⟨x33, e_x33, h⟩ := bnd h
        refine v_iald C dX4_step_98 e_x33 ?_
        refine v_iload_n C 0 dX4_step_99 rfl rfl ?_
        refine v_icmp_ne C (tgt := 112) dX4_step_100 (by decide) (fun q => ?_) (fun q => ?_)
        · have h := ite_f q h
          refine v_aload_n C 2 dX4_step_112 rfl rfl ?_
          obtain ⟨q34, e_q34, h⟩ := bnd h
          refine v_getf C (ci := 3) (k := 4) rfl inX4_step_X4 (by decide) fX4_step_25 dX4_step_113 (gfR_e e_q34) ?_
          refine v_iload_n C 3 dX4_step_116 rfl rfl ?_
          obtain ⟨x35, e_x35, h⟩ := bnd h
          refine v_iald C dX4_step_117 e_x35 ?_
          refine v_ineg C dX4_step_118 ?_
          obtain ⟨w36, e_w36, h⟩ := bnd h
          refine v_iast C dX4_step_119 e_w36 ?_
          refine v_iinc C (k := 3) (v := (a1 + 1)) (lv' := [(1, .int (a1 + 1)), (3, .int (x6 + x8)), (2, .int (x2 + x4)), (0, .ref a0)]) dX4_step_120 rfl rfl (by decide) rfl ?_
          refine v_at (pc' := 123) rfl ?_
          refine v_goto C (tgt := 2) dX4_step_123 (by decide) ?_
          refine v_sub [3, 0] rfl ?_
          exact ih _ _ _ h
        · have h := ite_t q h
          refine v_aload_n C 2 dX4_step_103 rfl rfl ?_
          obtain ⟨q37, e_q37, h⟩ := bnd h
          refine v_getf C (ci := 3) (k := 4) rfl inX4_step_X4 (by decide) fX4_step_25 dX4_step_104 (gfR_e e_q37) ?_
          refine v_iload_n C 3 dX4_step_107 rfl rfl ?_
          obtain ⟨x38, e_x38, h⟩ := bnd h
          refine v_iald C dX4_step_108 e_x38 ?_
          refine v_goto C (tgt := 119) dX4_step_109 (by decide) ?_
          obtain ⟨w39, e_w39, h⟩ := bnd h
          refine v_iast C dX4_step_119 e_w39 ?_
          refine v_iinc C (k := 3) (v := (a1 + 1)) (lv' := [(1, .int (a1 + 1)), (3, .int (x6 + x8)), (2, .int (x2 + x4)), (0, .ref a0)]) dX4_step_120 rfl rfl (by decide) rfl ?_
          refine v_at (pc' := 123) rfl ?_
          refine v_goto C (tgt := 2) dX4_step_123 (by decide) ?_
          refine v_sub [3, 0] rfl ?_
          exact ih _ _ _ h
set_option maxRecDepth 100000 in
set_option maxHeartbeats 4000000 in
theorem r_X4_step {l : Launch} {G : GG} {A : Nat → Prop} {n : Nat} {w : Wd} {this : Nat} {z : Wd} (h : m_X4_step n w this = some z) : Con l yX4_step wsX4_step { frames := 1, cells := 0, slots := 0, locals := 20 } G A [.ref this] w (none) z := by
  refine Con.of (own := RX4) (cc := cX4_step) (maxL := 4) (ret := none) rfl (by decide) rfl (Nat.le_of_ble_eq_true rfl) ?_
  intro p e s m args below meth c C
  show V p l e { frames := 1, cells := 0, slots := 0, locals := 20 } s m args below meth c G A 4 0 [(0, .ref this)] [] w (none) z
  unfold m_X4_step at h
  refine v_iconst C (v := 0) dX4_step_0 (by decide) ?_
  refine v_istore_n C (lv' := [(1, .int 0), (0, .ref this)]) dX4_step_1 rfl (by decide) rfl ?_
  refine v_sub [1, 0] rfl ?_
  exact r_X4_step_p2 C n n _ _ _ h
theorem fX4_count_9 : Cond.fieldLink RX4 9 (TX4 0).1 (TX4 0).2.1 (TX4 0).2.2.1 ∈ wsX4_count := by decide +kernel
theorem inX4_count_X4 : ∀ x ∈ u_ws RX4 TX4 9, x ∈ wsX4_count := by decide +kernel
set_option maxRecDepth 100000 in
set_option maxHeartbeats 4000000 in
theorem r_X4_count_p4 {p : Program} {l : Launch} {e : Env} {s : State} {m : MethodId} {args : Array Value} {below : List Frame} {meth : Method} {c : Code} {G : GG} {A : Nat → Prop} (C : Cx p s m args meth c G A cX4_count 3 RX4 wsX4_count (some .int)) (n : Nat) {z : Int32} : ∀ (t : Nat), ∀ (w : Wd) (a0 : Nat) (a1 : Int32) (a2 : Int32), m_X4_count_p4 n t w a0 a1 a2 = some z → V p l e { frames := 0, cells := 0, slots := 0, locals := 0 } s m args below meth c G A 3 4 [(0, .ref a0), (1, .int a1), (2, .int a2)] [] w (some (.int z)) w := by
  intro t
  induction t with
  | zero =>
    intro w a0 a1 a2 h
    rw [m_X4_count_p4] at h
    cases h
  | succ t ih =>
    intro w a0 a1 a2 h
    rw [m_X4_count_p4] at h
    refine v_iload_n C 2 dX4_count_4 rfl rfl ?_
    refine v_bipush C (v := 24) dX4_count_5 (by decide) ?_
    refine v_icmp_ge C (tgt := 33) dX4_count_7 (by decide) (fun q => ?_) (fun q => ?_)
    · have h := ite_t q h
      refine v_iload_n C 1 dX4_count_33 rfl rfl ?_
      obtain rfl := Option.some.inj h
      exact v_iret C dX4_count_34
    · have h := ite_f q h
      refine v_iload_n C 1 dX4_count_10 rfl rfl ?_
      refine v_aload_n C 0 dX4_count_11 rfl rfl ?_
      obtain ⟨q1, e_q1, h⟩ := bnd h
      refine v_getf C (ci := 3) (k := 0) rfl inX4_count_X4 (by decide) fX4_count_9 dX4_count_12 (gfR_e e_q1) ?_
      refine v_iload_n C 2 dX4_count_15 rfl rfl ?_
      obtain ⟨x2, e_x2, h⟩ := bnd h
      refine v_zald C dX4_count_16 e_x2 ?_
      refine v_if_eq C (tgt := 24) dX4_count_17 (by decide) (fun q => ?_) (fun q => ?_)
      · have h := ite_t q h
        refine v_iconst C (v := 0) dX4_count_24 (by decide) ?_
        refine v_iadd C dX4_count_25 ?_
        refine v_istore_n C (lv' := [(1, .int (a1 + 0)), (0, .ref a0), (2, .int a2)]) dX4_count_26 rfl (by decide) rfl ?_
        refine v_iinc C (k := 2) (v := (a2 + 1)) (lv' := [(2, .int (a2 + 1)), (1, .int (a1 + 0)), (0, .ref a0)]) dX4_count_27 rfl rfl (by decide) rfl ?_
        refine v_goto C (tgt := 4) dX4_count_30 (by decide) ?_
        refine v_sub [2, 1, 0] rfl ?_
        exact ih _ _ _ _ h
      · have h := ite_f q h
        refine v_iconst C (v := 1) dX4_count_20 (by decide) ?_
        refine v_goto C (tgt := 25) dX4_count_21 (by decide) ?_
        refine v_iadd C dX4_count_25 ?_
        refine v_istore_n C (lv' := [(1, .int (a1 + 1)), (0, .ref a0), (2, .int a2)]) dX4_count_26 rfl (by decide) rfl ?_
        refine v_iinc C (k := 2) (v := (a2 + 1)) (lv' := [(2, .int (a2 + 1)), (1, .int (a1 + 1)), (0, .ref a0)]) dX4_count_27 rfl rfl (by decide) rfl ?_
        refine v_goto C (tgt := 4) dX4_count_30 (by decide) ?_
        refine v_sub [2, 1, 0] rfl ?_
        exact ih _ _ _ _ h
set_option maxRecDepth 100000 in
set_option maxHeartbeats 4000000 in
theorem r_X4_count {l : Launch} {G : GG} {A : Nat → Prop} {n : Nat} {w : Wd} {this : Nat} {z : Int32} (h : m_X4_count n w this = some z) : Con l yX4_count wsX4_count { frames := 0, cells := 0, slots := 0, locals := 0 } G A [.ref this] w (some (.int z)) w := by
  refine Con.of (own := RX4) (cc := cX4_count) (maxL := 3) (ret := (some .int)) rfl (by decide) rfl (Nat.le_of_ble_eq_true rfl) ?_
  intro p e s m args below meth c C
  show V p l e { frames := 0, cells := 0, slots := 0, locals := 0 } s m args below meth c G A 3 0 [(0, .ref this)] [] w (some (.int z)) w
  unfold m_X4_count at h
  refine v_iconst C (v := 0) dX4_count_0 (by decide) ?_
  refine v_istore_n C (lv' := [(1, .int 0), (0, .ref this)]) dX4_count_1 rfl (by decide) rfl ?_
  refine v_iconst C (v := 0) dX4_count_2 (by decide) ?_
  refine v_istore_n C (lv' := [(2, .int 0), (1, .int 0), (0, .ref this)]) dX4_count_3 rfl (by decide) rfl ?_
  refine v_sub [2, 1, 0] rfl ?_
  exact r_X4_count_p4 C n n _ _ _ _ h
theorem fX4_pairOf_15 : Cond.fieldLink RX4 15 (TX4 1).1 (TX4 1).2.1 (TX4 1).2.2.1 ∈ wsX4_pairOf := by decide +kernel
theorem inX4_pairOf_X4 : ∀ x ∈ u_ws RX4 TX4 9, x ∈ wsX4_pairOf := by decide +kernel
theorem fX4_pairOf_19 : Cond.fieldLink RX4 19 (TX4 2).1 (TX4 2).2.1 (TX4 2).2.2.1 ∈ wsX4_pairOf := by decide +kernel
theorem niX4_pairOf_X6_distance : Cond.initialized yX6_distance.cls ∈ wsX4_pairOf := by decide +kernel
theorem nsX4_pairOf_X6_distance : Cond.static yX6_distance ∈ wsX4_pairOf := by decide +kernel
set_option maxRecDepth 100000 in
set_option maxHeartbeats 4000000 in
theorem r_X4_pairOf {l : Launch} {G : GG} {A : Nat → Prop} {n : Nat} {w : Wd} {this : Nat} {a1 : Int32} {a2 : Int32} {a3 : Int32} {z : Int32} (h : m_X4_pairOf n w this a1 a2 a3 = some z) : Con l yX4_pairOf wsX4_pairOf { frames := 1, cells := 0, slots := 0, locals := 23 } G A [.ref this, .int a1, .int a2, .int a3] w (some (.int z)) w := by
  refine Con.of (own := RX4) (cc := cX4_pairOf) (maxL := 4) (ret := (some .int)) rfl (by decide) rfl (Nat.le_of_ble_eq_true rfl) ?_
  intro p e s m args below meth c C
  show V p l e { frames := 1, cells := 0, slots := 0, locals := 23 } s m args below meth c G A 4 0 [(0, .ref this), (1, .int a1), (2, .int a2), (3, .int a3)] [] w (some (.int z)) w
  unfold m_X4_pairOf at h
  refine v_aload_n C 0 dX4_pairOf_0 rfl rfl ?_
  obtain ⟨q1, e_q1, h⟩ := bnd h
  refine v_getf C (ci := 3) (k := 1) rfl inX4_pairOf_X4 (by decide) fX4_pairOf_15 dX4_pairOf_1 (gfR_e e_q1) ?_
  refine v_iload_n C 1 dX4_pairOf_4 rfl rfl ?_
  obtain ⟨x2, e_x2, h⟩ := bnd h
  refine v_iald C dX4_pairOf_5 e_x2 ?_
  refine v_aload_n C 0 dX4_pairOf_6 rfl rfl ?_
  obtain ⟨q3, e_q3, h⟩ := bnd h
  refine v_getf C (ci := 3) (k := 2) rfl inX4_pairOf_X4 (by decide) fX4_pairOf_19 dX4_pairOf_7 (gfR_e e_q3) ?_
  refine v_iload_n C 1 dX4_pairOf_10 rfl rfl ?_
  refine v_at (pc' := 11) rfl ?_
  obtain ⟨x4, e_x4, h⟩ := bnd h
  refine v_iald C dX4_pairOf_11 e_x4 ?_
  refine v_iload_n C 2 dX4_pairOf_12 rfl rfl ?_
  refine v_iload_n C 3 dX4_pairOf_13 rfl rfl ?_
  refine v_callNi C (av := [.int x2, .int x4, .int a2, .int a3]) (rest := []) gX4_pairOf_X6_distance_n45 rfl C.2.2.2.2.2.1.2.1.2.2.2.1 niX4_pairOf_X6_distance nsX4_pairOf_X6_distance ⟨rfl, rfl⟩ hS_X6_distance ⟨(Nat.le_of_ble_eq_true rfl), (Nat.le_of_ble_eq_true rfl)⟩ (r_X6_distance (A := A) rfl) rfl rfl (Nat.le_of_ble_eq_true rfl) dX4_pairOf_14 ?_
  refine v_bipush C (v := 32) dX4_pairOf_17 (by decide) ?_
  refine v_imul C dX4_pairOf_19 ?_
  refine v_iload_n C 1 dX4_pairOf_20 rfl rfl ?_
  refine v_iadd C dX4_pairOf_21 ?_
  refine v_at (pc' := 22) rfl ?_
  obtain rfl := Option.some.inj h
  exact v_iret C dX4_pairOf_22
theorem hV_X4_pairOf : yX4_pairOf.cls = RX4 ∧ yX4_pairOf.cls ≠ "java/lang/invoke/MethodHandle" ∧ yX4_pairOf.cls ≠ "java/lang/invoke/VarHandle" ∧ (parseMethodDescriptor yX4_pairOf.desc).map (fun d => d.parameters.length) = some 3 := by decide +kernel
theorem fX4_pairAfter_9 : Cond.fieldLink RX4 9 (TX4 0).1 (TX4 0).2.1 (TX4 0).2.2.1 ∈ wsX4_pairAfter := by decide +kernel
theorem inX4_pairAfter_X4 : ∀ x ∈ u_ws RX4 TX4 9, x ∈ wsX4_pairAfter := by decide +kernel
set_option maxRecDepth 100000 in
set_option maxHeartbeats 4000000 in
theorem r_X4_pairAfter_p6 {p : Program} {l : Launch} {e : Env} {s : State} {m : MethodId} {args : Array Value} {below : List Frame} {meth : Method} {c : Code} {G : GG} {A : Nat → Prop} (C : Cx p s m args meth c G A cX4_pairAfter 7 RX4 wsX4_pairAfter (some .int)) (n : Nat) {z : Int32} : ∀ (t : Nat), ∀ (w : Wd) (a0 : Nat) (a1 : Int32) (a2 : Int32) (a3 : Int32) (a4 : Int32) (a5 : Int32), m_X4_pairAfter_p6 n t w a0 a1 a2 a3 a4 a5 = some z → V p l e { frames := 2, cells := 0, slots := 0, locals := 46 } s m args below meth c G A 7 6 [(0, .ref a0), (1, .int a1), (2, .int a2), (3, .int a3), (4, .int a4), (5, .int a5)] [] w (some (.int z)) w := by
  intro t
  induction t with
  | zero =>
    intro w a0 a1 a2 a3 a4 a5 h
    rw [m_X4_pairAfter_p6] at h
    cases h
  | succ t ih =>
    intro w a0 a1 a2 a3 a4 a5 h
    rw [m_X4_pairAfter_p6] at h
    refine v_iload C 5 dX4_pairAfter_6 rfl ?_
    refine v_bipush C (v := 24) dX4_pairAfter_8 (by decide) ?_
    refine v_icmp_ge C (tgt := 62) dX4_pairAfter_10 (by decide) (fun q => ?_) (fun q => ?_)
    · have h := ite_t q h
      refine v_iload C 4 dX4_pairAfter_62 rfl ?_
      obtain rfl := Option.some.inj h
      exact v_iret C dX4_pairAfter_64
    · have h := ite_f q h
      refine v_aload_n C 0 dX4_pairAfter_13 rfl rfl ?_
      refine v_iload C 5 dX4_pairAfter_14 rfl ?_
      refine v_iload_n C 2 dX4_pairAfter_16 rfl rfl ?_
      refine v_iload_n C 3 dX4_pairAfter_17 rfl rfl ?_
      obtain ⟨u1, e_u1, h⟩ := bnd h
      obtain ⟨x2, e_x2, h⟩ := bnd h
      refine v_callVi C (ci := 3) (av := [.int a5, .int a2, .int a3]) (rest := []) rfl gX4_pairAfter_X4_pairOf rfl ⟨rfl, rfl⟩ hV_X4_pairOf ⟨(Nat.le_of_ble_eq_true rfl), (Nat.le_of_ble_eq_true rfl)⟩ e_u1 (r_X4_pairOf (A := A) e_x2) rfl rfl (Nat.le_of_ble_eq_true rfl) dX4_pairAfter_18 ?_
      refine v_istore C (lv' := [(6, .int x2), (0, .ref a0), (1, .int a1), (2, .int a2), (3, .int a3), (4, .int a4), (5, .int a5)]) dX4_pairAfter_21 (by decide) rfl ?_
      refine v_aload_n C 1 dX4_pairAfter_23 rfl rfl ?_
      refine v_at (pc' := 24) rfl ?_
      obtain ⟨q3, e_q3, h⟩ := bnd h
      refine v_getf C (ci := 3) (k := 0) rfl inX4_pairAfter_X4 (by decide) fX4_pairAfter_9 dX4_pairAfter_24 (gfR_e e_q3) ?_
      refine v_iload C 6 dX4_pairAfter_27 rfl ?_
      obtain ⟨x4, e_x4, h⟩ := bnd h
      refine v_zald C dX4_pairAfter_29 e_x4 ?_
      refine v_if_eq C (tgt := 56) dX4_pairAfter_30 (by decide) (fun q => ?_) (fun q => ?_)
      · have h := ite_t q h
        refine v_iinc C (k := 6) (v := (a5 + 1)) (lv' := [(5, .int (a5 + 1)), (6, .int x2), (0, .ref a0), (1, .int a1), (2, .int a2), (3, .int a3), (4, .int a4)]) dX4_pairAfter_56 rfl rfl (by decide) rfl ?_
        refine v_goto C (tgt := 6) dX4_pairAfter_59 (by decide) ?_
        refine v_sub [2, 3, 4, 5, 6, 0] rfl ?_
        exact ih _ _ _ _ _ _ _ h
      · have h := ite_f q h
        refine v_iload C 0 dX4_pairAfter_33 rfl ?_
        refine v_iload_n C 2 dX4_pairAfter_35 rfl rfl ?_
        refine v_icmp_le C (tgt := 56) dX4_pairAfter_36 (by decide) (fun q => ?_) (fun q => ?_)
        · have h := ite_t q h
          refine v_iinc C (k := 6) (v := (a5 + 1)) (lv' := [(5, .int (a5 + 1)), (6, .int x2), (0, .ref a0), (1, .int a1), (2, .int a2), (3, .int a3), (4, .int a4)]) dX4_pairAfter_56 rfl rfl (by decide) rfl ?_
          refine v_goto C (tgt := 6) dX4_pairAfter_59 (by decide) ?_
          refine v_sub [2, 3, 4, 5, 6, 0] rfl ?_
          exact ih _ _ _ _ _ _ _ h
        · have h := ite_f q h
          refine v_iload C 5 dX4_pairAfter_39 rfl ?_
          refine v_iconst C (v := (-1)) dX4_pairAfter_41 (by decide) ?_
          refine v_icmp_eq C (tgt := 52) dX4_pairAfter_42 (by decide) (fun q => ?_) (fun q => ?_)
          · have h := ite_t q h
            refine v_iload C 0 dX4_pairAfter_52 rfl ?_
            refine v_istore C (lv' := [(4, .int x2), (6, .int x2), (0, .ref a0), (1, .int a1), (2, .int a2), (3, .int a3), (5, .int a5)]) dX4_pairAfter_54 (by decide) rfl ?_
            refine v_iinc C (k := 6) (v := (a5 + 1)) (lv' := [(5, .int (a5 + 1)), (4, .int x2), (6, .int x2), (0, .ref a0), (1, .int a1), (2, .int a2), (3, .int a3)]) dX4_pairAfter_56 rfl rfl (by decide) rfl ?_
            refine v_goto C (tgt := 6) dX4_pairAfter_59 (by decide) ?_
            refine v_sub [3, 4, 5, 6, 1, 0] rfl ?_
            exact ih _ _ _ _ _ _ _ h
          · have h := ite_f q h
            refine v_iload C 0 dX4_pairAfter_45 rfl ?_
            refine v_iload C 5 dX4_pairAfter_47 rfl ?_
            refine v_icmp_ge C (tgt := 56) dX4_pairAfter_49 (by decide) (fun q => ?_) (fun q => ?_)
            · have h := ite_t q h
              refine v_iinc C (k := 6) (v := (a5 + 1)) (lv' := [(5, .int (a5 + 1)), (6, .int x2), (0, .ref a0), (1, .int a1), (2, .int a2), (3, .int a3), (4, .int a4)]) dX4_pairAfter_56 rfl rfl (by decide) rfl ?_
              refine v_goto C (tgt := 6) dX4_pairAfter_59 (by decide) ?_
              refine v_sub [2, 3, 4, 5, 6, 0] rfl ?_
              exact ih _ _ _ _ _ _ _ h
            · have h := ite_f q h
              refine v_iload C 0 dX4_pairAfter_52 rfl ?_
              refine v_istore C (lv' := [(4, .int x2), (6, .int x2), (0, .ref a0), (1, .int a1), (2, .int a2), (3, .int a3), (5, .int a5)]) dX4_pairAfter_54 (by decide) rfl ?_
              refine v_iinc C (k := 6) (v := (a5 + 1)) (lv' := [(5, .int (a5 + 1)), (4, .int x2), (6, .int x2), (0, .ref a0), (1, .int a1), (2, .int a2), (3, .int a3)]) dX4_pairAfter_56 rfl rfl (by decide) rfl ?_
              refine v_goto C (tgt := 6) dX4_pairAfter_59 (by decide) ?_
              refine v_sub [3, 4, 5, 6, 1, 0] rfl ?_
              exact ih _ _ _ _ _ _ _ h
set_option maxRecDepth 100000 in
set_option maxHeartbeats 4000000 in
theorem r_X4_pairAfter {l : Launch} {G : GG} {A : Nat → Prop} {n : Nat} {w : Wd} {this : Nat} {a1 : Int32} {a2 : Int32} {a3 : Int32} {z : Int32} (h : m_X4_pairAfter n w this a1 a2 a3 = some z) : Con l yX4_pairAfter wsX4_pairAfter { frames := 2, cells := 0, slots := 0, locals := 46 } G A [.ref this, .int a1, .int a2, .int a3] w (some (.int z)) w := by
  refine Con.of (own := RX4) (cc := cX4_pairAfter) (maxL := 7) (ret := (some .int)) rfl (by decide) rfl (Nat.le_of_ble_eq_true rfl) ?_
  intro p e s m args below meth c C
  show V p l e { frames := 2, cells := 0, slots := 0, locals := 46 } s m args below meth c G A 7 0 [(0, .ref this), (1, .int a1), (2, .int a2), (3, .int a3)] [] w (some (.int z)) w
  unfold m_X4_pairAfter at h
  refine v_iconst C (v := (-1)) dX4_pairAfter_0 (by decide) ?_
  refine v_istore C (lv' := [(4, .int (-1)), (0, .ref this), (1, .int a1), (2, .int a2), (3, .int a3)]) dX4_pairAfter_1 (by decide) rfl ?_
  refine v_iconst C (v := 0) dX4_pairAfter_3 (by decide) ?_
  refine v_istore C (lv' := [(5, .int 0), (4, .int (-1)), (0, .ref this), (1, .int a1), (2, .int a2), (3, .int a3)]) dX4_pairAfter_4 (by decide) rfl ?_
  refine v_sub [2, 3, 4, 5, 1, 0] rfl ?_
  exact r_X4_pairAfter_p6 C n n _ _ _ _ _ _ _ h
