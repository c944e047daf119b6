theorem fX7_puts_7 : Cond.fieldLink RX7 7 (TX7 0).1 (TX7 0).2.1 (TX7 0).2.2.1 ∈ wsX7_puts := by decide +kernel
theorem inX7_puts_X7 : ∀ x ∈ u_ws RX7 TX7 20, x ∈ wsX7_puts := by decide +kernel
set_option maxRecDepth 100000 in
set_option maxHeartbeats 4000000 in
theorem r_X7_puts {l : Launch} {G : GG} {A : Nat → Prop} {n : Nat} {w : Wd} {this : Nat} {a1 : Int32} {a2 : Int32} {a3 : Int32} {z : Wd} (h : m_X7_puts n w this a1 a2 a3 = some z) : Con l yX7_puts wsX7_puts { frames := 0, cells := 0, slots := 0, locals := 0 } G A [.ref this, .int a1, .int a2, .int a3] w (none) z := by
  refine Con.of (own := RX7) (cc := cX7_puts) (maxL := 5) (ret := none) rfl (by decide) rfl (Nat.le_of_ble_eq_true rfl) ?_
  intro p e s m args below meth c C
  show V p l e { frames := 0, cells := 0, slots := 0, locals := 0 } s m args below meth c G A 5 0 [(0, .ref this), (1, .int a1), (2, .int a2), (3, .int a3)] [] w (none) z
  unfold m_X7_puts at h
  refine v_iconst C (v := 5) dX7_puts_0 (by decide) ?_
  refine v_iload_n C 1 dX7_puts_1 rfl rfl ?_
  refine v_imul C dX7_puts_2 ?_
  refine v_istore C (lv' := [(4, .int (5 * a1)), (0, .ref this), (1, .int a1), (2, .int a2), (3, .int a3)]) dX7_puts_3 (by decide) rfl ?_
  refine v_aload_n C 1 dX7_puts_5 rfl rfl ?_
  obtain ⟨q1, e_q1, h⟩ := bnd h
  refine v_getf C (ci := 6) (k := 0) rfl inX7_puts_X7 (by decide) fX7_puts_7 dX7_puts_6 (gfR_e e_q1) ?_
  refine v_iload C 0 dX7_puts_9 rfl ?_
  refine v_at (pc' := 11) rfl ?_
  obtain ⟨x2, e_x2, h⟩ := bnd h
  refine v_iald C dX7_puts_11 e_x2 ?_
  refine v_if_ne C (tgt := 35) dX7_puts_12 (by decide) (fun q => ?_) (fun q => ?_)
  · have h := ite_f q h
    refine v_aload_n C 1 dX7_puts_35 rfl rfl ?_
    obtain ⟨q3, e_q3, h⟩ := bnd h
    refine v_getf C (ci := 6) (k := 0) rfl inX7_puts_X7 (by decide) fX7_puts_7 dX7_puts_36 (gfR_e e_q3) ?_
    refine v_iload C 0 dX7_puts_39 rfl ?_
    refine v_iconst C (v := 1) dX7_puts_41 (by decide) ?_
    obtain ⟨w4, e_w4, h⟩ := bnd h
    refine v_iast C dX7_puts_42 e_w4 ?_
    refine v_aload_n C 1 dX7_puts_43 rfl rfl ?_
    obtain ⟨q5, e_q5, h⟩ := bnd h
    refine v_getf C (ci := 6) (k := 0) rfl inX7_puts_X7 (by decide) fX7_puts_7 dX7_puts_44 (gfR_e e_q5) ?_
    refine v_at (pc' := 47) rfl ?_
    refine v_iload C 0 dX7_puts_47 rfl ?_
    refine v_iconst C (v := 1) dX7_puts_49 (by decide) ?_
    refine v_iadd C dX7_puts_50 ?_
    refine v_iload_n C 3 dX7_puts_51 rfl rfl ?_
    obtain ⟨w6, e_w6, h⟩ := bnd h
    refine v_iast C dX7_puts_52 e_w6 ?_
    refine v_aload_n C 1 dX7_puts_53 rfl rfl ?_
    obtain ⟨q7, e_q7, h⟩ := bnd h
    refine v_getf C (ci := 6) (k := 0) rfl inX7_puts_X7 (by decide) fX7_puts_7 dX7_puts_54 (gfR_e e_q7) ?_
    refine v_iload C 0 dX7_puts_57 rfl ?_
    refine v_at (pc' := 59) rfl ?_
    refine v_iconst C (v := 2) dX7_puts_59 (by decide) ?_
    refine v_iadd C dX7_puts_60 ?_
    refine v_iload_n C 4 dX7_puts_61 rfl rfl ?_
    obtain ⟨w8, e_w8, h⟩ := bnd h
    refine v_iast C dX7_puts_62 e_w8 ?_
    obtain rfl := Option.some.inj h
    exact v_vret C dX7_puts_63
  · have h := ite_t q h
    refine v_aload_n C 1 dX7_puts_15 rfl rfl ?_
    obtain ⟨q9, e_q9, h⟩ := bnd h
    refine v_getf C (ci := 6) (k := 0) rfl inX7_puts_X7 (by decide) fX7_puts_7 dX7_puts_16 (gfR_e e_q9) ?_
    refine v_iload C 0 dX7_puts_19 rfl ?_
    refine v_iconst C (v := 3) dX7_puts_21 (by decide) ?_
    refine v_iadd C dX7_puts_22 ?_
    refine v_iconst C (v := 0) dX7_puts_23 (by decide) ?_
    obtain ⟨w10, e_w10, h⟩ := bnd h
    refine v_iast C dX7_puts_24 e_w10 ?_
    refine v_at (pc' := 25) rfl ?_
    refine v_aload_n C 1 dX7_puts_25 rfl rfl ?_
    obtain ⟨q11, e_q11, h⟩ := bnd h
    refine v_getf C (ci := 6) (k := 0) rfl inX7_puts_X7 (by decide) fX7_puts_7 dX7_puts_26 (gfR_e e_q11) ?_
    refine v_iload C 0 dX7_puts_29 rfl ?_
    refine v_iconst C (v := 4) dX7_puts_31 (by decide) ?_
    refine v_iadd C dX7_puts_32 ?_
    refine v_iconst C (v := 0) dX7_puts_33 (by decide) ?_
    obtain ⟨w12, e_w12, h⟩ := bnd h
    refine v_iast C dX7_puts_34 e_w12 ?_
    refine v_aload_n C 1 dX7_puts_35 rfl rfl ?_
    refine v_at (pc' := 36) rfl ?_
    obtain ⟨q13, e_q13, h⟩ := bnd h
    refine v_getf C (ci := 6) (k := 0) rfl inX7_puts_X7 (by decide) fX7_puts_7 dX7_puts_36 (gfR_e e_q13) ?_
    refine v_iload C 0 dX7_puts_39 rfl ?_
    refine v_iconst C (v := 1) dX7_puts_41 (by decide) ?_
    obtain ⟨w14, e_w14, h⟩ := bnd h
    refine v_iast C dX7_puts_42 e_w14 ?_
    refine v_aload_n C 1 dX7_puts_43 rfl rfl ?_
    obtain ⟨q15, e_q15, h⟩ := bnd h
    refine v_getf C (ci := 6) (k := 0) rfl inX7_puts_X7 (by decide) fX7_puts_7 dX7_puts_44 (gfR_e e_q15) ?_
    refine v_iload C 0 dX7_puts_47 rfl ?_
    refine v_iconst C (v := 1) dX7_puts_49 (by decide) ?_
    refine v_at (pc' := 50) rfl ?_
    refine v_iadd C dX7_puts_50 ?_
    refine v_iload_n C 3 dX7_puts_51 rfl rfl ?_
    obtain ⟨w16, e_w16, h⟩ := bnd h
    refine v_iast C dX7_puts_52 e_w16 ?_
    refine v_aload_n C 1 dX7_puts_53 rfl rfl ?_
    obtain ⟨q17, e_q17, h⟩ := bnd h
    refine v_getf C (ci := 6) (k := 0) rfl inX7_puts_X7 (by decide) fX7_puts_7 dX7_puts_54 (gfR_e e_q17) ?_
    refine v_iload C 0 dX7_puts_57 rfl ?_
    refine v_iconst C (v := 2) dX7_puts_59 (by decide) ?_
    refine v_iadd C dX7_puts_60 ?_
    refine v_at (pc' := 61) rfl ?_
    refine v_iload_n C 4 dX7_puts_61 rfl rfl ?_
    obtain ⟨w18, e_w18, h⟩ := bnd h
    refine v_iast C dX7_puts_62 e_w18 ?_
    obtain rfl := Option.some.inj h
    exact v_vret C dX7_puts_63
theorem hV_X7_laysBefore : yX7_laysBefore.cls = RX7 ∧ yX7_laysBefore.cls ≠ "java/lang/invoke/MethodHandle" ∧ yX7_laysBefore.cls ≠ "java/lang/invoke/VarHandle" ∧ (parseMethodDescriptor yX7_laysBefore.desc).map (fun d => d.parameters.length) = some 0 := by decide +kernel
theorem hV_X7_puts : yX7_puts.cls = RX7 ∧ yX7_puts.cls ≠ "java/lang/invoke/MethodHandle" ∧ yX7_puts.cls ≠ "java/lang/invoke/VarHandle" ∧ (parseMethodDescriptor yX7_puts.desc).map (fun d => d.parameters.length) = some 3 := by decide +kernel
theorem hV_X7_touched : yX7_touched.cls = RX7 ∧ yX7_touched.cls ≠ "java/lang/invoke/MethodHandle" ∧ yX7_touched.cls ≠ "java/lang/invoke/VarHandle" ∧ (parseMethodDescriptor yX7_touched.desc).map (fun d => d.parameters.length) = some 0 := by decide +kernel
set_option maxRecDepth 100000 in
set_option maxHeartbeats 4000000 in
theorem r_X7_adds {l : Launch} {G : GG} {A : Nat → Prop} {n : Nat} {w : Wd} {this : Nat} {a1 : Int32} {a2 : Int32} {a3 : Int32} {z : (Int32 × Wd)} (h : m_X7_adds n w this a1 a2 a3 = some z) : Con l yX7_adds wsX7_adds { frames := 4, cells := 0, slots := 0, locals := 94 } G A [.ref this, .int a1, .int a2, .int a3] w (some (.int z.1)) z.2 := by
  refine Con.of (own := RX7) (cc := cX7_adds) (maxL := 4) (ret := (some .int)) rfl (by decide) rfl (Nat.le_of_ble_eq_true rfl) ?_
  intro p e s m args below meth c C
  show V p l e { frames := 4, cells := 0, slots := 0, locals := 94 } s m args below meth c G A 4 0 [(0, .ref this), (1, .int a1), (2, .int a2), (3, .int a3)] [] w (some (.int z.1)) z.2
  unfold m_X7_adds at h
  refine v_aload_n C 0 dX7_adds_0 rfl rfl ?_
  obtain ⟨u1, e_u1, h⟩ := bnd h
  obtain ⟨z2, e_z2, h⟩ := bnd h
  refine v_callVv C (ci := 6) (av := []) (rest := []) rfl gX7_adds_X7_laysBefore rfl ⟨rfl, rfl⟩ hV_X7_laysBefore ⟨(Nat.le_of_ble_eq_true rfl), (Nat.le_of_ble_eq_true rfl)⟩ e_u1 (r_X7_laysBefore (A := A) e_z2) rfl rfl (Nat.le_of_ble_eq_true rfl) dX7_adds_1 ?_
  refine v_aload_n C 0 dX7_adds_4 rfl rfl ?_
  refine v_iload_n C 1 dX7_adds_5 rfl rfl ?_
  refine v_iload_n C 2 dX7_adds_6 rfl rfl ?_
  refine v_iload_n C 3 dX7_adds_7 rfl rfl ?_
  obtain ⟨u3, e_u3, h⟩ := bnd h
  obtain ⟨z4, e_z4, h⟩ := bnd h
  refine v_callVv C (ci := 6) (av := [.int a1, .int a2, .int a3]) (rest := []) rfl gX7_adds_X7_puts rfl ⟨rfl, rfl⟩ hV_X7_puts ⟨(Nat.le_of_ble_eq_true rfl), (Nat.le_of_ble_eq_true rfl)⟩ e_u3 (r_X7_puts (A := A) e_z4) rfl rfl (Nat.le_of_ble_eq_true rfl) dX7_adds_8 ?_
  refine v_at (pc' := 11) rfl ?_
  refine v_aload_n C 0 dX7_adds_11 rfl rfl ?_
  obtain ⟨u5, e_u5, h⟩ := bnd h
  obtain ⟨z6, e_z6, h⟩ := bnd h
  refine v_callVi C (ci := 6) (av := []) (rest := []) rfl gX7_adds_X7_touched rfl ⟨rfl, rfl⟩ hV_X7_touched ⟨(Nat.le_of_ble_eq_true rfl), (Nat.le_of_ble_eq_true rfl)⟩ e_u5 (r_X7_touched (A := A) e_z6) rfl rfl (Nat.le_of_ble_eq_true rfl) dX7_adds_12 ?_
  obtain rfl := Option.some.inj h
  exact v_iret C dX7_adds_15
theorem hV_X7_badAdd : yX7_badAdd.cls = RX7 ∧ yX7_badAdd.cls ≠ "java/lang/invoke/MethodHandle" ∧ yX7_badAdd.cls ≠ "java/lang/invoke/VarHandle" ∧ (parseMethodDescriptor yX7_badAdd.desc).map (fun d => d.parameters.length) = some 3 := by decide +kernel
theorem hV_X7_saves : yX7_saves.cls = RX7 ∧ yX7_saves.cls ≠ "java/lang/invoke/MethodHandle" ∧ yX7_saves.cls ≠ "java/lang/invoke/VarHandle" ∧ (parseMethodDescriptor yX7_saves.desc).map (fun d => d.parameters.length) = some 0 := by decide +kernel
theorem hV_X7_adds : yX7_adds.cls = RX7 ∧ yX7_adds.cls ≠ "java/lang/invoke/MethodHandle" ∧ yX7_adds.cls ≠ "java/lang/invoke/VarHandle" ∧ (parseMethodDescriptor yX7_adds.desc).map (fun d => d.parameters.length) = some 3 := by decide +kernel
set_option maxRecDepth 100000 in
set_option maxHeartbeats 4000000 in
theorem r_X7_add {l : Launch} {G : GG} {A : Nat → Prop} {n : Nat} {w : Wd} {this : Nat} {a1 : Int32} {a2 : Int32} {a3 : Int32} {z : (Int32 × Wd)} (h : m_X7_add n w this a1 a2 a3 = some z) : Con l yX7_add wsX7_add { frames := 5, cells := 0, slots := 0, locals := 117 } G A [.ref this, .int a1, .int a2, .int a3] w (some (.int z.1)) z.2 := by
  refine Con.of (own := RX7) (cc := cX7_add) (maxL := 4) (ret := (some .int)) rfl (by decide) rfl (Nat.le_of_ble_eq_true rfl) ?_
  intro p e s m args below meth c C
  show V p l e { frames := 5, cells := 0, slots := 0, locals := 117 } s m args below meth c G A 4 0 [(0, .ref this), (1, .int a1), (2, .int a2), (3, .int a3)] [] w (some (.int z.1)) z.2
  unfold m_X7_add at h
  refine v_aload_n C 0 dX7_add_0 rfl rfl ?_
  refine v_aload_n C 0 dX7_add_1 rfl rfl ?_
  refine v_iload_n C 1 dX7_add_2 rfl rfl ?_
  refine v_iload_n C 2 dX7_add_3 rfl rfl ?_
  refine v_iload_n C 3 dX7_add_4 rfl rfl ?_
  obtain ⟨u1, e_u1, h⟩ := bnd h
  obtain ⟨x2, e_x2, h⟩ := bnd h
  refine v_callVi C (ci := 6) (av := [.int a1, .int a2, .int a3]) (rest := [.ref this]) rfl gX7_add_X7_badAdd rfl ⟨rfl, rfl⟩ hV_X7_badAdd ⟨(Nat.le_of_ble_eq_true rfl), (Nat.le_of_ble_eq_true rfl)⟩ e_u1 (r_X7_badAdd (A := A) e_x2) rfl rfl (Nat.le_of_ble_eq_true rfl) dX7_add_5 ?_
  obtain ⟨u3, e_u3, h⟩ := bnd h
  obtain ⟨z4, e_z4, h⟩ := bnd h
  refine v_callVi C (ci := 6) (av := [.int x2]) (rest := []) rfl gX7_add_X7_refused rfl ⟨rfl, rfl⟩ hV_X7_refused ⟨(Nat.le_of_ble_eq_true rfl), (Nat.le_of_ble_eq_true rfl)⟩ e_u3 (r_X7_refused (A := A) e_z4) rfl rfl (Nat.le_of_ble_eq_true rfl) dX7_add_8 ?_
  refine v_at (pc' := 11) rfl ?_
  refine v_if_eq C (tgt := 16) dX7_add_11 (by decide) (fun q => ?_) (fun q => ?_)
  · have h := ite_t q h
    refine v_aload_n C 0 dX7_add_16 rfl rfl ?_
    obtain ⟨u5, e_u5, h⟩ := bnd h
    obtain ⟨z6, e_z6, h⟩ := bnd h
    refine v_callVv C (ci := 6) (av := []) (rest := []) rfl gX7_add_X7_saves rfl ⟨rfl, rfl⟩ hV_X7_saves ⟨(Nat.le_of_ble_eq_true rfl), (Nat.le_of_ble_eq_true rfl)⟩ e_u5 (r_X7_saves (A := A) e_z6) rfl rfl (Nat.le_of_ble_eq_true rfl) dX7_add_17 ?_
    refine v_aload_n C 0 dX7_add_20 rfl rfl ?_
    refine v_iload_n C 1 dX7_add_21 rfl rfl ?_
    refine v_iload_n C 2 dX7_add_22 rfl rfl ?_
    refine v_iload_n C 3 dX7_add_23 rfl rfl ?_
    obtain ⟨u7, e_u7, h⟩ := bnd h
    obtain ⟨z8, e_z8, h⟩ := bnd h
    refine v_callVi C (ci := 6) (av := [.int a1, .int a2, .int a3]) (rest := []) rfl gX7_add_X7_adds rfl ⟨rfl, rfl⟩ hV_X7_adds ⟨(Nat.le_of_ble_eq_true rfl), (Nat.le_of_ble_eq_true rfl)⟩ e_u7 (r_X7_adds (A := A) e_z8) rfl rfl (Nat.le_of_ble_eq_true rfl) dX7_add_24 ?_
    refine v_at (pc' := 27) rfl ?_
    obtain rfl := Option.some.inj h
    exact v_iret C dX7_add_27
  · have h := ite_f q h
    refine v_iconst C (v := 0) dX7_add_14 (by decide) ?_
    obtain rfl := Option.some.inj h
    exact v_iret C dX7_add_15
set_option maxRecDepth 100000 in
set_option maxHeartbeats 4000000 in
theorem r_X7_badMove {l : Launch} {G : GG} {A : Nat → Prop} {n : Nat} {w : Wd} {this : Nat} {a1 : Int32} {a2 : Int32} {a3 : Int32} {z : Int32} (h : m_X7_badMove n w this a1 a2 a3 = some z) : Con l yX7_badMove wsX7_badMove { frames := 2, cells := 0, slots := 0, locals := 43 } G A [.ref this, .int a1, .int a2, .int a3] w (some (.int z)) w := by
  refine Con.of (own := RX7) (cc := cX7_badMove) (maxL := 4) (ret := (some .int)) rfl (by decide) rfl (Nat.le_of_ble_eq_true rfl) ?_
  intro p e s m args below meth c C
  show V p l e { frames := 2, cells := 0, slots := 0, locals := 43 } s m args below meth c G A 4 0 [(0, .ref this), (1, .int a1), (2, .int a2), (3, .int a3)] [] w (some (.int z)) w
  unfold m_X7_badMove at h
  refine v_iload_n C 1 dX7_badMove_0 rfl rfl ?_
  refine v_callSi C (av := [.int a1]) (rest := []) gX7_badMove_X7_isId rfl ⟨rfl, rfl⟩ hS_X7_isId ⟨(Nat.le_of_ble_eq_true rfl), (Nat.le_of_ble_eq_true rfl)⟩ (r_X7_isId (A := A) rfl) rfl rfl (Nat.le_of_ble_eq_true rfl) dX7_badMove_1 ?_
  refine v_if_ne C (tgt := 11) dX7_badMove_4 (by decide) (fun q => ?_) (fun q => ?_)
  · have h := ite_f q h
    refine v_iload_n C 2 dX7_badMove_11 rfl rfl ?_
    refine v_iload_n C 3 dX7_badMove_12 rfl rfl ?_
    refine v_callSi C (av := [.int a2, .int a3]) (rest := []) gX7_badMove_X7_isPlace rfl ⟨rfl, rfl⟩ hS_X7_isPlace ⟨(Nat.le_of_ble_eq_true rfl), (Nat.le_of_ble_eq_true rfl)⟩ (r_X7_isPlace (A := A) rfl) rfl rfl (Nat.le_of_ble_eq_true rfl) dX7_badMove_13 ?_
    refine v_if_ne C (tgt := 23) dX7_badMove_16 (by decide) (fun q => ?_) (fun q => ?_)
    · have h := ite_f q h
      refine v_aload_n C 0 dX7_badMove_23 rfl rfl ?_
      refine v_iload_n C 1 dX7_badMove_24 rfl rfl ?_
      obtain ⟨u1, e_u1, h⟩ := bnd h
      obtain ⟨x2, e_x2, h⟩ := bnd h
      refine v_callVi C (ci := 6) (av := [.int a1]) (rest := []) rfl gX7_badMove_X7_isThere rfl ⟨rfl, rfl⟩ hV_X7_isThere ⟨(Nat.le_of_ble_eq_true rfl), (Nat.le_of_ble_eq_true rfl)⟩ e_u1 (r_X7_isThere (A := A) e_x2) rfl rfl (Nat.le_of_ble_eq_true rfl) dX7_badMove_25 ?_
      refine v_if_eq C (tgt := 35) dX7_badMove_28 (by decide) (fun q => ?_) (fun q => ?_)
      · have h := ite_t q h
        refine v_iconst C (v := 3) dX7_badMove_35 (by decide) ?_
        obtain rfl := Option.some.inj h
        exact v_iret C dX7_badMove_36
      · have h := ite_f q h
        refine v_iconst C (v := 0) dX7_badMove_31 (by decide) ?_
        refine v_goto C (tgt := 36) dX7_badMove_32 (by decide) ?_
        obtain rfl := Option.some.inj h
        exact v_iret C dX7_badMove_36
    · have h := ite_t q h
      refine v_iconst C (v := 2) dX7_badMove_19 (by decide) ?_
      refine v_goto C (tgt := 36) dX7_badMove_20 (by decide) ?_
      obtain rfl := Option.some.inj h
      exact v_iret C dX7_badMove_36
  · have h := ite_t q h
    refine v_iconst C (v := 1) dX7_badMove_7 (by decide) ?_
    refine v_goto C (tgt := 36) dX7_badMove_8 (by decide) ?_
    obtain rfl := Option.some.inj h
    exact v_iret C dX7_badMove_36
theorem hV_X7_badMove : yX7_badMove.cls = RX7 ∧ yX7_badMove.cls ≠ "java/lang/invoke/MethodHandle" ∧ yX7_badMove.cls ≠ "java/lang/invoke/VarHandle" ∧ (parseMethodDescriptor yX7_badMove.desc).map (fun d => d.parameters.length) = some 3 := by decide +kernel
set_option maxRecDepth 100000 in
set_option maxHeartbeats 4000000 in
theorem r_X7_move {l : Launch} {G : GG} {A : Nat → Prop} {n : Nat} {w : Wd} {this : Nat} {a1 : Int32} {a2 : Int32} {a3 : Int32} {z : (Int32 × Wd)} (h : m_X7_move n w this a1 a2 a3 = some z) : Con l yX7_move wsX7_move { frames := 5, cells := 0, slots := 0, locals := 117 } G A [.ref this, .int a1, .int a2, .int a3] w (some (.int z.1)) z.2 := by
  refine Con.of (own := RX7) (cc := cX7_move) (maxL := 4) (ret := (some .int)) rfl (by decide) rfl (Nat.le_of_ble_eq_true rfl) ?_
  intro p e s m args below meth c C
  show V p l e { frames := 5, cells := 0, slots := 0, locals := 117 } s m args below meth c G A 4 0 [(0, .ref this), (1, .int a1), (2, .int a2), (3, .int a3)] [] w (some (.int z.1)) z.2
  unfold m_X7_move at h
  refine v_aload_n C 0 dX7_move_0 rfl rfl ?_
  refine v_aload_n C 0 dX7_move_1 rfl rfl ?_
  refine v_iload_n C 1 dX7_move_2 rfl rfl ?_
  refine v_iload_n C 2 dX7_move_3 rfl rfl ?_
  refine v_iload_n C 3 dX7_move_4 rfl rfl ?_
  obtain ⟨u1, e_u1, h⟩ := bnd h
  obtain ⟨x2, e_x2, h⟩ := bnd h
  refine v_callVi C (ci := 6) (av := [.int a1, .int a2, .int a3]) (rest := [.ref this]) rfl gX7_move_X7_badMove rfl ⟨rfl, rfl⟩ hV_X7_badMove ⟨(Nat.le_of_ble_eq_true rfl), (Nat.le_of_ble_eq_true rfl)⟩ e_u1 (r_X7_badMove (A := A) e_x2) rfl rfl (Nat.le_of_ble_eq_true rfl) dX7_move_5 ?_
  obtain ⟨u3, e_u3, h⟩ := bnd h
  obtain ⟨z4, e_z4, h⟩ := bnd h
  refine v_callVi C (ci := 6) (av := [.int x2]) (rest := []) rfl gX7_move_X7_refused rfl ⟨rfl, rfl⟩ hV_X7_refused ⟨(Nat.le_of_ble_eq_true rfl), (Nat.le_of_ble_eq_true rfl)⟩ e_u3 (r_X7_refused (A := A) e_z4) rfl rfl (Nat.le_of_ble_eq_true rfl) dX7_move_8 ?_
  refine v_at (pc' := 11) rfl ?_
  refine v_if_eq C (tgt := 16) dX7_move_11 (by decide) (fun q => ?_) (fun q => ?_)
  · have h := ite_t q h
    refine v_aload_n C 0 dX7_move_16 rfl rfl ?_
    obtain ⟨u5, e_u5, h⟩ := bnd h
    obtain ⟨z6, e_z6, h⟩ := bnd h
    refine v_callVv C (ci := 6) (av := []) (rest := []) rfl gX7_move_X7_saves rfl ⟨rfl, rfl⟩ hV_X7_saves ⟨(Nat.le_of_ble_eq_true rfl), (Nat.le_of_ble_eq_true rfl)⟩ e_u5 (r_X7_saves (A := A) e_z6) rfl rfl (Nat.le_of_ble_eq_true rfl) dX7_move_17 ?_
    refine v_aload_n C 0 dX7_move_20 rfl rfl ?_
    refine v_iload_n C 1 dX7_move_21 rfl rfl ?_
    refine v_iload_n C 2 dX7_move_22 rfl rfl ?_
    refine v_iload_n C 3 dX7_move_23 rfl rfl ?_
    obtain ⟨u7, e_u7, h⟩ := bnd h
    obtain ⟨z8, e_z8, h⟩ := bnd h
    refine v_callVi C (ci := 6) (av := [.int a1, .int a2, .int a3]) (rest := []) rfl gX7_move_X7_adds rfl ⟨rfl, rfl⟩ hV_X7_adds ⟨(Nat.le_of_ble_eq_true rfl), (Nat.le_of_ble_eq_true rfl)⟩ e_u7 (r_X7_adds (A := A) e_z8) rfl rfl (Nat.le_of_ble_eq_true rfl) dX7_move_24 ?_
    refine v_at (pc' := 27) rfl ?_
    obtain rfl := Option.some.inj h
    exact v_iret C dX7_move_27
  · have h := ite_f q h
    refine v_iconst C (v := 0) dX7_move_14 (by decide) ?_
    obtain rfl := Option.some.inj h
    exact v_iret C dX7_move_15
set_option maxRecDepth 100000 in
set_option maxHeartbeats 4000000 in
theorem r_X7_badRemove {l : Launch} {G : GG} {A : Nat → Prop} {n : Nat} {w : Wd} {this : Nat} {a1 : Int32} {z : Int32} (h : m_X7_badRemove n w this a1 = some z) : Con l yX7_badRemove wsX7_badRemove { frames := 2, cells := 0, slots := 0, locals := 42 } G A [.ref this, .int a1] w (some (.int z)) w := by
  refine Con.of (own := RX7) (cc := cX7_badRemove) (maxL := 2) (ret := (some .int)) rfl (by decide) rfl (Nat.le_of_ble_eq_true rfl) ?_
  intro p e s m args below meth c C
  show V p l e { frames := 2, cells := 0, slots := 0, locals := 42 } s m args below meth c G A 2 0 [(0, .ref this), (1, .int a1)] [] w (some (.int z)) w
  unfold m_X7_badRemove at h
  refine v_iload_n C 1 dX7_badRemove_0 rfl rfl ?_
  refine v_callSi C (av := [.int a1]) (rest := []) gX7_badRemove_X7_isId rfl ⟨rfl, rfl⟩ hS_X7_isId ⟨(Nat.le_of_ble_eq_true rfl), (Nat.le_of_ble_eq_true rfl)⟩ (r_X7_isId (A := A) rfl) rfl rfl (Nat.le_of_ble_eq_true rfl) dX7_badRemove_1 ?_
  refine v_if_ne C (tgt := 11) dX7_badRemove_4 (by decide) (fun q => ?_) (fun q => ?_)
  · have h := ite_f q h
    refine v_aload_n C 0 dX7_badRemove_11 rfl rfl ?_
    refine v_iload_n C 1 dX7_badRemove_12 rfl rfl ?_
    obtain ⟨u1, e_u1, h⟩ := bnd h
    obtain ⟨x2, e_x2, h⟩ := bnd h
    refine v_callVi C (ci := 6) (av := [.int a1]) (rest := []) rfl gX7_badRemove_X7_isThere rfl ⟨rfl, rfl⟩ hV_X7_isThere ⟨(Nat.le_of_ble_eq_true rfl), (Nat.le_of_ble_eq_true rfl)⟩ e_u1 (r_X7_isThere (A := A) e_x2) rfl rfl (Nat.le_of_ble_eq_true rfl) dX7_badRemove_13 ?_
    refine v_if_eq C (tgt := 23) dX7_badRemove_16 (by decide) (fun q => ?_) (fun q => ?_)
    · have h := ite_t q h
      refine v_iconst C (v := 2) dX7_badRemove_23 (by decide) ?_
      obtain rfl := Option.some.inj h
      exact v_iret C dX7_badRemove_24
    · have h := ite_f q h
      refine v_iconst C (v := 0) dX7_badRemove_19 (by decide) ?_
      refine v_goto C (tgt := 24) dX7_badRemove_20 (by decide) ?_
      obtain rfl := Option.some.inj h
      exact v_iret C dX7_badRemove_24
  · have h := ite_t q h
    refine v_iconst C (v := 1) dX7_badRemove_7 (by decide) ?_
    refine v_goto C (tgt := 24) dX7_badRemove_8 (by decide) ?_
    obtain rfl := Option.some.inj h
    exact v_iret C dX7_badRemove_24
theorem fX7_removes_7 : Cond.fieldLink RX7 7 (TX7 0).1 (TX7 0).2.1 (TX7 0).2.2.1 ∈ wsX7_removes := by decide +kernel
theorem inX7_removes_X7 : ∀ x ∈ u_ws RX7 TX7 20, x ∈ wsX7_removes := by decide +kernel
set_option maxRecDepth 100000 in
set_option maxHeartbeats 4000000 in
theorem r_X7_removes_p28 {p : Program} {l : Launch} {e : Env} {s : State} {m : MethodId} {args : Array Value} {below : List Frame} {meth : Method} {c : Code} {G : GG} {A : Nat → Prop} (C : Cx p s m args meth c G A cX7_removes 3 RX7 wsX7_removes (some .int)) (n : Nat) {z : (Int32 × Wd)} : ∀ (w : Wd) (a0 : Nat), m_X7_removes_p28 n w a0 = some z → V p l e { frames := 4, cells := 0, slots := 0, locals := 94 } s m args below meth c G A 3 28 [(0, .ref a0)] [] w (some (.int z.1)) z.2 := by
  intro w a0 h
  unfold m_X7_removes_p28 at h
  refine v_aload_n C 0 dX7_removes_28 rfl rfl ?_
  obtain ⟨u1, e_u1, h⟩ := bnd h
  obtain ⟨z2, e_z2, h⟩ := bnd h
  refine v_callVi C (ci := 6) (av := []) (rest := []) rfl gX7_removes_X7_touched rfl ⟨rfl, rfl⟩ hV_X7_touched ⟨(Nat.le_of_ble_eq_true rfl), (Nat.le_of_ble_eq_true rfl)⟩ e_u1 (r_X7_touched (A := A) e_z2) rfl rfl (Nat.le_of_ble_eq_true rfl) dX7_removes_29 ?_
  obtain rfl := Option.some.inj h
  exact v_iret C dX7_removes_32
set_option maxRecDepth 100000 in
set_option maxHeartbeats 4000000 in
theorem r_X7_removes_p6 {p : Program} {l : Launch} {e : Env} {s : State} {m : MethodId} {args : Array Value} {below : List Frame} {meth : Method} {c : Code} {G : GG} {A : Nat → Prop} (C : Cx p s m args meth c G A cX7_removes 3 RX7 wsX7_removes (some .int)) (n : Nat) {z : (Int32 × Wd)} : ∀ (t : Nat), ∀ (w : Wd) (a0 : Nat) (a1 : Int32) (a2 : Int32), m_X7_removes_p6 n t w a0 a1 a2 = some z → V p l e { frames := 4, cells := 0, slots := 0, locals := 94 } s m args below meth c G A 3 6 [(0, .ref a0), (1, .int a1), (2, .int a2)] [] w (some (.int z.1)) z.2 := by
  intro t
  induction t with
  | zero =>
    intro w a0 a1 a2 h
    rw [m_X7_removes_p6] at h
    cases h
  | succ t ih =>
    intro w a0 a1 a2 h
    rw [m_X7_removes_p6] at h
    refine v_iload_n C 2 dX7_removes_6 rfl rfl ?_
    refine v_iconst C (v := 5) dX7_removes_7 (by decide) ?_
    refine v_icmp_ge C (tgt := 28) dX7_removes_8 (by decide) (fun q => ?_) (fun q => ?_)
    · have h := ite_t q h
      refine v_sub [0] rfl ?_
      exact r_X7_removes_p28 C n _ _ h
    · have h := ite_f q h
      refine v_aload_n C 0 dX7_removes_11 rfl rfl ?_
      obtain ⟨q1, e_q1, h⟩ := bnd h
      refine v_getf C (ci := 6) (k := 0) rfl inX7_removes_X7 (by decide) fX7_removes_7 dX7_removes_12 (gfR_e e_q1) ?_
      refine v_iconst C (v := 5) dX7_removes_15 (by decide) ?_
      refine v_iload_n C 1 dX7_removes_16 rfl rfl ?_
      refine v_imul C dX7_removes_17 ?_
      refine v_iload_n C 2 dX7_removes_18 rfl rfl ?_
      refine v_iadd C dX7_removes_19 ?_
      refine v_at (pc' := 20) rfl ?_
      refine v_iconst C (v := 0) dX7_removes_20 (by decide) ?_
      obtain ⟨w2, e_w2, h⟩ := bnd h
      refine v_iast C dX7_removes_21 e_w2 ?_
      refine v_iinc C (k := 2) (v := (a2 + 1)) (lv' := [(2, .int (a2 + 1)), (0, .ref a0), (1, .int a1)]) dX7_removes_22 rfl rfl (by decide) rfl ?_
      refine v_goto C (tgt := 6) dX7_removes_25 (by decide) ?_
      refine v_sub [1, 2, 0] rfl ?_
      exact ih _ _ _ _ h
set_option maxRecDepth 100000 in
set_option maxHeartbeats 4000000 in
theorem r_X7_removes {l : Launch} {G : GG} {A : Nat → Prop} {n : Nat} {w : Wd} {this : Nat} {a1 : Int32} {z : (Int32 × Wd)} (h : m_X7_removes n w this a1 = some z) : Con l yX7_removes wsX7_removes { frames := 4, cells := 0, slots := 0, locals := 94 } G A [.ref this, .int a1] w (some (.int z.1)) z.2 := by
  refine Con.of (own := RX7) (cc := cX7_removes) (maxL := 3) (ret := (some .int)) rfl (by decide) rfl (Nat.le_of_ble_eq_true rfl) ?_
  intro p e s m args below meth c C
  show V p l e { frames := 4, cells := 0, slots := 0, locals := 94 } s m args below meth c G A 3 0 [(0, .ref this), (1, .int a1)] [] w (some (.int z.1)) z.2
  unfold m_X7_removes at h
  refine v_aload_n C 0 dX7_removes_0 rfl rfl ?_
  obtain ⟨u1, e_u1, h⟩ := bnd h
  obtain ⟨z2, e_z2, h⟩ := bnd h
  refine v_callVv C (ci := 6) (av := []) (rest := []) rfl gX7_removes_X7_laysBefore rfl ⟨rfl, rfl⟩ hV_X7_laysBefore ⟨(Nat.le_of_ble_eq_true rfl), (Nat.le_of_ble_eq_true rfl)⟩ e_u1 (r_X7_laysBefore (A := A) e_z2) rfl rfl (Nat.le_of_ble_eq_true rfl) dX7_removes_1 ?_
  refine v_iconst C (v := 0) dX7_removes_4 (by decide) ?_
  refine v_istore_n C (lv' := [(2, .int 0), (0, .ref this), (1, .int a1)]) dX7_removes_5 rfl (by decide) rfl ?_
  refine v_sub [1, 2, 0] rfl ?_
  exact r_X7_removes_p6 C n n _ _ _ _ h
theorem hV_X7_badRemove : yX7_badRemove.cls = RX7 ∧ yX7_badRemove.cls ≠ "java/lang/invoke/MethodHandle" ∧ yX7_badRemove.cls ≠ "java/lang/invoke/VarHandle" ∧ (parseMethodDescriptor yX7_badRemove.desc).map (fun d => d.parameters.length) = some 1 := by decide +kernel
theorem hV_X7_removes : yX7_removes.cls = RX7 ∧ yX7_removes.cls ≠ "java/lang/invoke/MethodHandle" ∧ yX7_removes.cls ≠ "java/lang/invoke/VarHandle" ∧ (parseMethodDescriptor yX7_removes.desc).map (fun d => d.parameters.length) = some 1 := by decide +kernel
set_option maxRecDepth 100000 in
set_option maxHeartbeats 4000000 in
theorem r_X7_remove {l : Launch} {G : GG} {A : Nat → Prop} {n : Nat} {w : Wd} {this : Nat} {a1 : Int32} {z : (Int32 × Wd)} (h : m_X7_remove n w this a1 = some z) : Con l yX7_remove wsX7_remove { frames := 5, cells := 0, slots := 0, locals := 116 } G A [.ref this, .int a1] w (some (.int z.1)) z.2 := by
  refine Con.of (own := RX7) (cc := cX7_remove) (maxL := 2) (ret := (some .int)) rfl (by decide) rfl (Nat.le_of_ble_eq_true rfl) ?_
  intro p e s m args below meth c C
  show V p l e { frames := 5, cells := 0, slots := 0, locals := 116 } s m args below meth c G A 2 0 [(0, .ref this), (1, .int a1)] [] w (some (.int z.1)) z.2
  unfold m_X7_remove at h
  refine v_aload_n C 0 dX7_remove_0 rfl rfl ?_
  refine v_aload_n C 0 dX7_remove_1 rfl rfl ?_
  refine v_iload_n C 1 dX7_remove_2 rfl rfl ?_
  obtain ⟨u1, e_u1, h⟩ := bnd h
  obtain ⟨x2, e_x2, h⟩ := bnd h
  refine v_callVi C (ci := 6) (av := [.int a1]) (rest := [.ref this]) rfl gX7_remove_X7_badRemove rfl ⟨rfl, rfl⟩ hV_X7_badRemove ⟨(Nat.le_of_ble_eq_true rfl), (Nat.le_of_ble_eq_true rfl)⟩ e_u1 (r_X7_badRemove (A := A) e_x2) rfl rfl (Nat.le_of_ble_eq_true rfl) dX7_remove_3 ?_
  obtain ⟨u3, e_u3, h⟩ := bnd h
  obtain ⟨z4, e_z4, h⟩ := bnd h
  refine v_callVi C (ci := 6) (av := [.int x2]) (rest := []) rfl gX7_remove_X7_refused rfl ⟨rfl, rfl⟩ hV_X7_refused ⟨(Nat.le_of_ble_eq_true rfl), (Nat.le_of_ble_eq_true rfl)⟩ e_u3 (r_X7_refused (A := A) e_z4) rfl rfl (Nat.le_of_ble_eq_true rfl) dX7_remove_6 ?_
  refine v_if_eq C (tgt := 14) dX7_remove_9 (by decide) (fun q => ?_) (fun q => ?_)
  · have h := ite_t q h
    refine v_aload_n C 0 dX7_remove_14 rfl rfl ?_
    obtain ⟨u5, e_u5, h⟩ := bnd h
    obtain ⟨z6, e_z6, h⟩ := bnd h
    refine v_callVv C (ci := 6) (av := []) (rest := []) rfl gX7_remove_X7_saves rfl ⟨rfl, rfl⟩ hV_X7_saves ⟨(Nat.le_of_ble_eq_true rfl), (Nat.le_of_ble_eq_true rfl)⟩ e_u5 (r_X7_saves (A := A) e_z6) rfl rfl (Nat.le_of_ble_eq_true rfl) dX7_remove_15 ?_
    refine v_aload_n C 0 dX7_remove_18 rfl rfl ?_
    refine v_iload_n C 1 dX7_remove_19 rfl rfl ?_
    obtain ⟨u7, e_u7, h⟩ := bnd h
    obtain ⟨z8, e_z8, h⟩ := bnd h
    refine v_callVi C (ci := 6) (av := [.int a1]) (rest := []) rfl gX7_remove_X7_removes rfl ⟨rfl, rfl⟩ hV_X7_removes ⟨(Nat.le_of_ble_eq_true rfl), (Nat.le_of_ble_eq_true rfl)⟩ e_u7 (r_X7_removes (A := A) e_z8) rfl rfl (Nat.le_of_ble_eq_true rfl) dX7_remove_20 ?_
    obtain rfl := Option.some.inj h
    exact v_iret C dX7_remove_23
  · have h := ite_f q h
    refine v_iconst C (v := 0) dX7_remove_12 (by decide) ?_
    obtain rfl := Option.some.inj h
    exact v_iret C dX7_remove_13
set_option maxRecDepth 100000 in
set_option maxHeartbeats 4000000 in
theorem r_X7_badSpeed {l : Launch} {G : GG} {A : Nat → Prop} {n : Nat} {w : Wd} {this : Nat} {a1 : Int32} {a2 : Int32} {a3 : Int32} {z : Int32} (h : m_X7_badSpeed n w this a1 a2 a3 = some z) : Con l yX7_badSpeed wsX7_badSpeed { frames := 2, cells := 0, slots := 0, locals := 42 } G A [.ref this, .int a1, .int a2, .int a3] w (some (.int z)) w := by
  refine Con.of (own := RX7) (cc := cX7_badSpeed) (maxL := 4) (ret := (some .int)) rfl (by decide) rfl (Nat.le_of_ble_eq_true rfl) ?_
  intro p e s m args below meth c C
  show V p l e { frames := 2, cells := 0, slots := 0, locals := 42 } s m args below meth c G A 4 0 [(0, .ref this), (1, .int a1), (2, .int a2), (3, .int a3)] [] w (some (.int z)) w
  unfold m_X7_badSpeed at h
  refine v_iload_n C 1 dX7_badSpeed_0 rfl rfl ?_
  refine v_callSi C (av := [.int a1]) (rest := []) gX7_badSpeed_X7_isId rfl ⟨rfl, rfl⟩ hS_X7_isId ⟨(Nat.le_of_ble_eq_true rfl), (Nat.le_of_ble_eq_true rfl)⟩ (r_X7_isId (A := A) rfl) rfl rfl (Nat.le_of_ble_eq_true rfl) dX7_badSpeed_1 ?_
  refine v_if_ne C (tgt := 11) dX7_badSpeed_4 (by decide) (fun q => ?_) (fun q => ?_)
  · have h := ite_f q h
    refine v_iload_n C 2 dX7_badSpeed_11 rfl rfl ?_
    refine v_bipush C (v := (-9)) dX7_badSpeed_12 (by decide) ?_
    refine v_bipush C (v := 9) dX7_badSpeed_14 (by decide) ?_
    refine v_callSi C (av := [.int a2, .int (-9), .int 9]) (rest := []) gX7_badSpeed_X7_in rfl ⟨rfl, rfl⟩ hS_X7_in ⟨(Nat.le_of_ble_eq_true rfl), (Nat.le_of_ble_eq_true rfl)⟩ (r_X7_in (A := A) rfl) rfl rfl (Nat.le_of_ble_eq_true rfl) dX7_badSpeed_16 ?_
    refine v_if_eq C (tgt := 33) dX7_badSpeed_19 (by decide) (fun q => ?_) (fun q => ?_)
    · have h := ite_t q h
      refine v_iconst C (v := 2) dX7_badSpeed_33 (by decide) ?_
      refine v_goto C (tgt := 50) dX7_badSpeed_34 (by decide) ?_
      obtain rfl := Option.some.inj h
      exact v_iret C dX7_badSpeed_50
    · have h := ite_f q h
      refine v_iload_n C 3 dX7_badSpeed_22 rfl rfl ?_
      refine v_bipush C (v := (-9)) dX7_badSpeed_23 (by decide) ?_
      refine v_bipush C (v := 9) dX7_badSpeed_25 (by decide) ?_
      refine v_callSi C (av := [.int a3, .int (-9), .int 9]) (rest := []) gX7_badSpeed_X7_in rfl ⟨rfl, rfl⟩ hS_X7_in ⟨(Nat.le_of_ble_eq_true rfl), (Nat.le_of_ble_eq_true rfl)⟩ (r_X7_in (A := A) rfl) rfl rfl (Nat.le_of_ble_eq_true rfl) dX7_badSpeed_27 ?_
      refine v_if_ne C (tgt := 37) dX7_badSpeed_30 (by decide) (fun q => ?_) (fun q => ?_)
      · have h := ite_f q h
        refine v_aload_n C 0 dX7_badSpeed_37 rfl rfl ?_
        refine v_iload_n C 1 dX7_badSpeed_38 rfl rfl ?_
        obtain ⟨u1, e_u1, h⟩ := bnd h
        obtain ⟨x2, e_x2, h⟩ := bnd h
        refine v_callVi C (ci := 6) (av := [.int a1]) (rest := []) rfl gX7_badSpeed_X7_isThere rfl ⟨rfl, rfl⟩ hV_X7_isThere ⟨(Nat.le_of_ble_eq_true rfl), (Nat.le_of_ble_eq_true rfl)⟩ e_u1 (r_X7_isThere (A := A) e_x2) rfl rfl (Nat.le_of_ble_eq_true rfl) dX7_badSpeed_39 ?_
        refine v_if_eq C (tgt := 49) dX7_badSpeed_42 (by decide) (fun q => ?_) (fun q => ?_)
        · have h := ite_t q h
          refine v_iconst C (v := 3) dX7_badSpeed_49 (by decide) ?_
          obtain rfl := Option.some.inj h
          exact v_iret C dX7_badSpeed_50
        · have h := ite_f q h
          refine v_iconst C (v := 0) dX7_badSpeed_45 (by decide) ?_
          refine v_goto C (tgt := 50) dX7_badSpeed_46 (by decide) ?_
          obtain rfl := Option.some.inj h
          exact v_iret C dX7_badSpeed_50
      · have h := ite_t q h
        refine v_iconst C (v := 2) dX7_badSpeed_33 (by decide) ?_
        refine v_goto C (tgt := 50) dX7_badSpeed_34 (by decide) ?_
        obtain rfl := Option.some.inj h
        exact v_iret C dX7_badSpeed_50
  · have h := ite_t q h
    refine v_iconst C (v := 1) dX7_badSpeed_7 (by decide) ?_
    refine v_goto C (tgt := 50) dX7_badSpeed_8 (by decide) ?_
    obtain rfl := Option.some.inj h
    exact v_iret C dX7_badSpeed_50
set_option maxRecDepth 100000 in
set_option maxHeartbeats 4000000 in
theorem r_X7_size {l : Launch} {G : GG} {A : Nat → Prop} {w : Wd} {a0 : Int32} {z : Int32} (h : m_X7_size a0 = z) : Con l yX7_size wsX7_size { frames := 0, cells := 0, slots := 0, locals := 0 } G A [.int a0] w (some (.int z)) w := by
  refine Con.of (own := RX7) (cc := cX7_size) (maxL := 1) (ret := (some .int)) rfl (by decide) rfl (Nat.le_of_ble_eq_true rfl) ?_
  intro p e s m args below meth c C
  show V p l e { frames := 0, cells := 0, slots := 0, locals := 0 } s m args below meth c G A 1 0 [(0, .int a0)] [] w (some (.int z)) w
  unfold m_X7_size at h
  refine v_iload_n C 0 dX7_size_0 rfl rfl ?_
  refine v_if_ge C (tgt := 9) dX7_size_1 (by decide) (fun q => ?_) (fun q => ?_)
  · have h := ite_t q h
    refine v_iload_n C 0 dX7_size_9 rfl rfl ?_
    subst h
    exact v_iret C dX7_size_10
  · have h := ite_f q h
    refine v_iload_n C 0 dX7_size_4 rfl rfl ?_
    refine v_ineg C dX7_size_5 ?_
    refine v_goto C (tgt := 10) dX7_size_6 (by decide) ?_
    subst h
    exact v_iret C dX7_size_10
theorem fX7_speeds_7 : Cond.fieldLink RX7 7 (TX7 0).1 (TX7 0).2.1 (TX7 0).2.2.1 ∈ wsX7_speeds := by decide +kernel
theorem inX7_speeds_X7 : ∀ x ∈ u_ws RX7 TX7 20, x ∈ wsX7_speeds := by decide +kernel
theorem hS_X7_size : yX7_size.cls ≠ "java/lang/invoke/MethodHandle" ∧ yX7_size.cls ≠ "java/lang/invoke/VarHandle" ∧ (parseMethodDescriptor yX7_size.desc).map (fun d => d.parameters.length) = some 1 := by decide +kernel
set_option maxRecDepth 100000 in
set_option maxHeartbeats 4000000 in
theorem r_X7_speeds {l : Launch} {G : GG} {A : Nat → Prop} {n : Nat} {w : Wd} {this : Nat} {a1 : Int32} {a2 : Int32} {a3 : Int32} {z : (Int32 × Wd)} (h : m_X7_speeds n w this a1 a2 a3 = some z) : Con l yX7_speeds wsX7_speeds { frames := 1, cells := 0, slots := 0, locals := 20 } G A [.ref this, .int a1, .int a2, .int a3] w (some (.int z.1)) z.2 := by
  refine Con.of (own := RX7) (cc := cX7_speeds) (maxL := 6) (ret := (some .int)) rfl (by decide) rfl (Nat.le_of_ble_eq_true rfl) ?_
  intro p e s m args below meth c C
  show V p l e { frames := 1, cells := 0, slots := 0, locals := 20 } s m args below meth c G A 6 0 [(0, .ref this), (1, .int a1), (2, .int a2), (3, .int a3)] [] w (some (.int z.1)) z.2
  unfold m_X7_speeds at h
  refine v_iconst C (v := 5) dX7_speeds_0 (by decide) ?_
  refine v_iload_n C 1 dX7_speeds_1 rfl rfl ?_
  refine v_imul C dX7_speeds_2 ?_
  refine v_istore C (lv' := [(4, .int (5 * a1)), (0, .ref this), (1, .int a1), (2, .int a2), (3, .int a3)]) dX7_speeds_3 (by decide) rfl ?_
  refine v_bipush C (v := 10) dX7_speeds_5 (by decide) ?_
  refine v_aload_n C 1 dX7_speeds_7 rfl rfl ?_
  obtain ⟨q1, e_q1, h⟩ := bnd h
  refine v_getf C (ci := 6) (k := 0) rfl inX7_speeds_X7 (by decide) fX7_speeds_7 dX7_speeds_8 (gfR_e e_q1) ?_
  refine v_at (pc' := 11) rfl ?_
  refine v_iload C 0 dX7_speeds_11 rfl ?_
  refine v_iconst C (v := 3) dX7_speeds_13 (by decide) ?_
  refine v_iadd C dX7_speeds_14 ?_
  obtain ⟨x2, e_x2, h⟩ := bnd h
  refine v_iald C dX7_speeds_15 e_x2 ?_
  refine v_callSi C (av := [.int x2]) (rest := [.int 10]) gX7_speeds_X7_size rfl ⟨rfl, rfl⟩ hS_X7_size ⟨(Nat.le_of_ble_eq_true rfl), (Nat.le_of_ble_eq_true rfl)⟩ (r_X7_size (A := A) rfl) rfl rfl (Nat.le_of_ble_eq_true rfl) dX7_speeds_16 ?_
  refine v_imul C dX7_speeds_19 ?_
  refine v_aload_n C 1 dX7_speeds_20 rfl rfl ?_
  obtain ⟨q3, e_q3, h⟩ := bnd h
  refine v_getf C (ci := 6) (k := 0) rfl inX7_speeds_X7 (by decide) fX7_speeds_7 dX7_speeds_21 (gfR_e e_q3) ?_
  refine v_at (pc' := 24) rfl ?_
  refine v_iload C 0 dX7_speeds_24 rfl ?_
  refine v_iconst C (v := 4) dX7_speeds_26 (by decide) ?_
  refine v_iadd C dX7_speeds_27 ?_
  obtain ⟨x4, e_x4, h⟩ := bnd h
  refine v_iald C dX7_speeds_28 e_x4 ?_
  refine v_callSi C (av := [.int x4]) (rest := [.int (10 * (m_X7_size x2))]) gX7_speeds_X7_size rfl ⟨rfl, rfl⟩ hS_X7_size ⟨(Nat.le_of_ble_eq_true rfl), (Nat.le_of_ble_eq_true rfl)⟩ (r_X7_size (A := A) rfl) rfl rfl (Nat.le_of_ble_eq_true rfl) dX7_speeds_29 ?_
  refine v_iadd C dX7_speeds_32 ?_
  refine v_istore C (lv' := [(5, .int ((10 * (m_X7_size x2)) + (m_X7_size x4))), (4, .int (5 * a1)), (0, .ref this), (1, .int a1), (2, .int a2), (3, .int a3)]) dX7_speeds_33 (by decide) rfl ?_
  refine v_aload_n C 2 dX7_speeds_35 rfl rfl ?_
  refine v_at (pc' := 36) rfl ?_
  obtain ⟨q5, e_q5, h⟩ := bnd h
  refine v_getf C (ci := 6) (k := 0) rfl inX7_speeds_X7 (by decide) fX7_speeds_7 dX7_speeds_36 (gfR_e e_q5) ?_
  refine v_iload C 1 dX7_speeds_39 rfl ?_
  refine v_iconst C (v := 3) dX7_speeds_41 (by decide) ?_
  refine v_iadd C dX7_speeds_42 ?_
  refine v_iload_n C 4 dX7_speeds_43 rfl rfl ?_
  obtain ⟨w6, e_w6, h⟩ := bnd h
  refine v_iast C dX7_speeds_44 e_w6 ?_
  refine v_aload_n C 2 dX7_speeds_45 rfl rfl ?_
  obtain ⟨q7, e_q7, h⟩ := bnd h
  refine v_getf C (ci := 6) (k := 0) rfl inX7_speeds_X7 (by decide) fX7_speeds_7 dX7_speeds_46 (gfR_e e_q7) ?_
  refine v_at (pc' := 49) rfl ?_
  refine v_iload C 1 dX7_speeds_49 rfl ?_
  refine v_iconst C (v := 4) dX7_speeds_51 (by decide) ?_
  refine v_iadd C dX7_speeds_52 ?_
  refine v_iload_n C 5 dX7_speeds_53 rfl rfl ?_
  obtain ⟨w8, e_w8, h⟩ := bnd h
  refine v_iast C dX7_speeds_54 e_w8 ?_
  refine v_iload C 0 dX7_speeds_55 rfl ?_
  obtain rfl := Option.some.inj h
  exact v_iret C dX7_speeds_57
theorem hV_X7_badSpeed : yX7_badSpeed.cls = RX7 ∧ yX7_badSpeed.cls ≠ "java/lang/invoke/MethodHandle" ∧ yX7_badSpeed.cls ≠ "java/lang/invoke/VarHandle" ∧ (parseMethodDescriptor yX7_badSpeed.desc).map (fun d => d.parameters.length) = some 3 := by decide +kernel
theorem hV_X7_speeds : yX7_speeds.cls = RX7 ∧ yX7_speeds.cls ≠ "java/lang/invoke/MethodHandle" ∧ yX7_speeds.cls ≠ "java/lang/invoke/VarHandle" ∧ (parseMethodDescriptor yX7_speeds.desc).map (fun d => d.parameters.length) = some 3 := by decide +kernel
set_option maxRecDepth 100000 in
set_option maxHeartbeats 4000000 in
theorem r_X7_setVelocity {l : Launch} {G : GG} {A : Nat → Prop} {n : Nat} {w : Wd} {this : Nat} {a1 : Int32} {a2 : Int32} {a3 : Int32} {z : (Int32 × Wd)} (h : m_X7_setVelocity n w this a1 a2 a3 = some z) : Con l yX7_setVelocity wsX7_setVelocity { frames := 3, cells := 0, slots := 0, locals := 65 } G A [.ref this, .int a1, .int a2, .int a3] w (some (.int z.1)) z.2 := by
  refine Con.of (own := RX7) (cc := cX7_setVelocity) (maxL := 4) (ret := (some .int)) rfl (by decide) rfl (Nat.le_of_ble_eq_true rfl) ?_
  intro p e s m args below meth c C
  show V p l e { frames := 3, cells := 0, slots := 0, locals := 65 } s m args below meth c G A 4 0 [(0, .ref this), (1, .int a1), (2, .int a2), (3, .int a3)] [] w (some (.int z.1)) z.2
  unfold m_X7_setVelocity at h
  refine v_aload_n C 0 dX7_setVelocity_0 rfl rfl ?_
  refine v_aload_n C 0 dX7_setVelocity_1 rfl rfl ?_
  refine v_iload_n C 1 dX7_setVelocity_2 rfl rfl ?_
  refine v_iload_n C 2 dX7_setVelocity_3 rfl rfl ?_
  refine v_iload_n C 3 dX7_setVelocity_4 rfl rfl ?_
  obtain ⟨u1, e_u1, h⟩ := bnd h
  obtain ⟨x2, e_x2, h⟩ := bnd h
  refine v_callVi C (ci := 6) (av := [.int a1, .int a2, .int a3]) (rest := [.ref this]) rfl gX7_setVelocity_X7_badSpeed rfl ⟨rfl, rfl⟩ hV_X7_badSpeed ⟨(Nat.le_of_ble_eq_true rfl), (Nat.le_of_ble_eq_true rfl)⟩ e_u1 (r_X7_badSpeed (A := A) e_x2) rfl rfl (Nat.le_of_ble_eq_true rfl) dX7_setVelocity_5 ?_
  obtain ⟨u3, e_u3, h⟩ := bnd h
  obtain ⟨z4, e_z4, h⟩ := bnd h
  refine v_callVi C (ci := 6) (av := [.int x2]) (rest := []) rfl gX7_setVelocity_X7_refused rfl ⟨rfl, rfl⟩ hV_X7_refused ⟨(Nat.le_of_ble_eq_true rfl), (Nat.le_of_ble_eq_true rfl)⟩ e_u3 (r_X7_refused (A := A) e_z4) rfl rfl (Nat.le_of_ble_eq_true rfl) dX7_setVelocity_8 ?_
  refine v_at (pc' := 11) rfl ?_
  refine v_if_eq C (tgt := 16) dX7_setVelocity_11 (by decide) (fun q => ?_) (fun q => ?_)
  · have h := ite_t q h
    refine v_aload_n C 0 dX7_setVelocity_16 rfl rfl ?_
    obtain ⟨u5, e_u5, h⟩ := bnd h
    obtain ⟨z6, e_z6, h⟩ := bnd h
    refine v_callVv C (ci := 6) (av := []) (rest := []) rfl gX7_setVelocity_X7_saves rfl ⟨rfl, rfl⟩ hV_X7_saves ⟨(Nat.le_of_ble_eq_true rfl), (Nat.le_of_ble_eq_true rfl)⟩ e_u5 (r_X7_saves (A := A) e_z6) rfl rfl (Nat.le_of_ble_eq_true rfl) dX7_setVelocity_17 ?_
    refine v_aload_n C 0 dX7_setVelocity_20 rfl rfl ?_
    refine v_iload_n C 1 dX7_setVelocity_21 rfl rfl ?_
    refine v_iload_n C 2 dX7_setVelocity_22 rfl rfl ?_
    refine v_iload_n C 3 dX7_setVelocity_23 rfl rfl ?_
    obtain ⟨u7, e_u7, h⟩ := bnd h
    obtain ⟨z8, e_z8, h⟩ := bnd h
    refine v_callVi C (ci := 6) (av := [.int a1, .int a2, .int a3]) (rest := []) rfl gX7_setVelocity_X7_speeds rfl ⟨rfl, rfl⟩ hV_X7_speeds ⟨(Nat.le_of_ble_eq_true rfl), (Nat.le_of_ble_eq_true rfl)⟩ e_u7 (r_X7_speeds (A := A) e_z8) rfl rfl (Nat.le_of_ble_eq_true rfl) dX7_setVelocity_24 ?_
    refine v_at (pc' := 27) rfl ?_
    obtain rfl := Option.some.inj h
    exact v_iret C dX7_setVelocity_27
  · have h := ite_f q h
    refine v_iconst C (v := 0) dX7_setVelocity_14 (by decide) ?_
    obtain rfl := Option.some.inj h
    exact v_iret C dX7_setVelocity_15
theorem fX7_steps_7 : Cond.fieldLink RX7 7 (TX7 0).1 (TX7 0).2.1 (TX7 0).2.2.1 ∈ wsX7_steps := by decide +kernel
theorem inX7_steps_X7 : ∀ x ∈ u_ws RX7 TX7 20, x ∈ wsX7_steps := by decide +kernel
set_option maxRecDepth 100000 in
set_option maxHeartbeats 4000000 in
theorem r_X7_steps {l : Launch} {G : GG} {A : Nat → Prop} {n : Nat} {w : Wd} {this : Nat} {a1 : Int32} {z : Wd} (h : m_X7_steps n w this a1 = some z) : Con l yX7_steps wsX7_steps { frames := 0, cells := 0, slots := 0, locals := 0 } G A [.ref this, .int a1] w (none) z := by
  refine Con.of (own := RX7) (cc := cX7_steps) (maxL := 3) (ret := none) rfl (by decide) rfl (Nat.le_of_ble_eq_true rfl) ?_
  intro p e s m args below meth c C
  show V p l e { frames := 0, cells := 0, slots := 0, locals := 0 } s m args below meth c G A 3 0 [(0, .ref this), (1, .int a1)] [] w (none) z
  unfold m_X7_steps at h
  refine v_aload_n C 0 dX7_steps_0 rfl rfl ?_
  obtain ⟨q1, e_q1, h⟩ := bnd h
  refine v_getf C (ci := 6) (k := 0) rfl inX7_steps_X7 (by decide) fX7_steps_7 dX7_steps_1 (gfR_e e_q1) ?_
  refine v_iload_n C 1 dX7_steps_4 rfl rfl ?_
  obtain ⟨x2, e_x2, h⟩ := bnd h
  refine v_iald C dX7_steps_5 e_x2 ?_
  refine v_aload_n C 0 dX7_steps_6 rfl rfl ?_
  obtain ⟨q3, e_q3, h⟩ := bnd h
  refine v_getf C (ci := 6) (k := 0) rfl inX7_steps_X7 (by decide) fX7_steps_7 dX7_steps_7 (gfR_e e_q3) ?_
  refine v_iload_n C 1 dX7_steps_10 rfl rfl ?_
  refine v_at (pc' := 11) rfl ?_
  refine v_iconst C (v := 2) dX7_steps_11 (by decide) ?_
  refine v_iadd C dX7_steps_12 ?_
  obtain ⟨x4, e_x4, h⟩ := bnd h
  refine v_iald C dX7_steps_13 e_x4 ?_
  refine v_iadd C dX7_steps_14 ?_
  refine v_istore_n C (lv' := [(2, .int (x2 + x4)), (0, .ref this), (1, .int a1)]) dX7_steps_15 rfl (by decide) rfl ?_
  refine v_iload_n C 0 dX7_steps_16 rfl rfl ?_
  refine v_if_ge C (tgt := 48) dX7_steps_17 (by decide) (fun q => ?_) (fun q => ?_)
  · have h := ite_t q h
    refine v_iload_n C 0 dX7_steps_48 rfl rfl ?_
    refine v_bipush C (v := 63) dX7_steps_49 (by decide) ?_
    refine v_icmp_le C (tgt := 84) dX7_steps_51 (by decide) (fun q => ?_) (fun q => ?_)
    · have h := ite_t q h
      refine v_aload_n C 1 dX7_steps_84 rfl rfl ?_
      obtain ⟨q5, e_q5, h⟩ := bnd h
      refine v_getf C (ci := 6) (k := 0) rfl inX7_steps_X7 (by decide) fX7_steps_7 dX7_steps_85 (gfR_e e_q5) ?_
      refine v_iload_n C 2 dX7_steps_88 rfl rfl ?_
      refine v_iload_n C 0 dX7_steps_89 rfl rfl ?_
      obtain ⟨w6, e_w6, h⟩ := bnd h
      refine v_iast C dX7_steps_90 e_w6 ?_
      obtain rfl := Option.some.inj h
      exact v_vret C dX7_steps_91
    · have h := ite_f q h
      refine v_aload_n C 1 dX7_steps_54 rfl rfl ?_
      obtain ⟨q7, e_q7, h⟩ := bnd h
      refine v_getf C (ci := 6) (k := 0) rfl inX7_steps_X7 (by decide) fX7_steps_7 dX7_steps_55 (gfR_e e_q7) ?_
      refine v_iload_n C 2 dX7_steps_58 rfl rfl ?_
      refine v_bipush C (v := 126) dX7_steps_59 (by decide) ?_
      refine v_iload_n C 0 dX7_steps_61 rfl rfl ?_
      refine v_isub C dX7_steps_62 ?_
      obtain ⟨w8, e_w8, h⟩ := bnd h
      refine v_iast C dX7_steps_63 e_w8 ?_
      refine v_at (pc' := 64) rfl ?_
      refine v_aload_n C 1 dX7_steps_64 rfl rfl ?_
      obtain ⟨q9, e_q9, h⟩ := bnd h
      refine v_getf C (ci := 6) (k := 0) rfl inX7_steps_X7 (by decide) fX7_steps_7 dX7_steps_65 (gfR_e e_q9) ?_
      refine v_iload_n C 2 dX7_steps_68 rfl rfl ?_
      refine v_iconst C (v := 2) dX7_steps_69 (by decide) ?_
      refine v_iadd C dX7_steps_70 ?_
      refine v_aload_n C 1 dX7_steps_71 rfl rfl ?_
      obtain ⟨q10, e_q10, h⟩ := bnd h
      refine v_getf C (ci := 6) (k := 0) rfl inX7_steps_X7 (by decide) fX7_steps_7 dX7_steps_72 (gfR_e e_q10) ?_
      refine v_iload_n C 2 dX7_steps_75 rfl rfl ?_
      refine v_at (pc' := 76) rfl ?_
      refine v_iconst C (v := 2) dX7_steps_76 (by decide) ?_
      refine v_iadd C dX7_steps_77 ?_
      obtain ⟨x11, e_x11, h⟩ := bnd h
      refine v_iald C dX7_steps_78 e_x11 ?_
      refine v_ineg C dX7_steps_79 ?_
      obtain ⟨w12, e_w12, h⟩ := bnd h
      refine v_iast C dX7_steps_80 e_w12 ?_
      refine v_goto C (tgt := 91) dX7_steps_81 (by decide) ?_
      obtain rfl := Option.some.inj h
      exact v_vret C dX7_steps_91
  · have h := ite_f q h
    refine v_aload_n C 1 dX7_steps_20 rfl rfl ?_
    obtain ⟨q13, e_q13, h⟩ := bnd h
    refine v_getf C (ci := 6) (k := 0) rfl inX7_steps_X7 (by decide) fX7_steps_7 dX7_steps_21 (gfR_e e_q13) ?_
    refine v_iload_n C 2 dX7_steps_24 rfl rfl ?_
    refine v_iload_n C 0 dX7_steps_25 rfl rfl ?_
    refine v_ineg C dX7_steps_26 ?_
    obtain ⟨w14, e_w14, h⟩ := bnd h
    refine v_iast C dX7_steps_27 e_w14 ?_
    refine v_aload_n C 1 dX7_steps_28 rfl rfl ?_
    refine v_at (pc' := 29) rfl ?_
    obtain ⟨q15, e_q15, h⟩ := bnd h
    refine v_getf C (ci := 6) (k := 0) rfl inX7_steps_X7 (by decide) fX7_steps_7 dX7_steps_29 (gfR_e e_q15) ?_
    refine v_iload_n C 2 dX7_steps_32 rfl rfl ?_
    refine v_iconst C (v := 2) dX7_steps_33 (by decide) ?_
    refine v_iadd C dX7_steps_34 ?_
    refine v_aload_n C 1 dX7_steps_35 rfl rfl ?_
    obtain ⟨q16, e_q16, h⟩ := bnd h
    refine v_getf C (ci := 6) (k := 0) rfl inX7_steps_X7 (by decide) fX7_steps_7 dX7_steps_36 (gfR_e e_q16) ?_
    refine v_iload_n C 2 dX7_steps_39 rfl rfl ?_
    refine v_iconst C (v := 2) dX7_steps_40 (by decide) ?_
    refine v_at (pc' := 41) rfl ?_
    refine v_iadd C dX7_steps_41 ?_
    obtain ⟨x17, e_x17, h⟩ := bnd h
    refine v_iald C dX7_steps_42 e_x17 ?_
    refine v_ineg C dX7_steps_43 ?_
    obtain ⟨w18, e_w18, h⟩ := bnd h
    refine v_iast C dX7_steps_44 e_w18 ?_
    refine v_goto C (tgt := 91) dX7_steps_45 (by decide) ?_
    obtain rfl := Option.some.inj h
    exact v_vret C dX7_steps_91
theorem fX7_passes_7 : Cond.fieldLink RX7 7 (TX7 0).1 (TX7 0).2.1 (TX7 0).2.2.1 ∈ wsX7_passes := by decide +kernel
theorem inX7_passes_X7 : ∀ x ∈ u_ws RX7 TX7 20, x ∈ wsX7_passes := by decide +kernel
theorem hV_X7_steps : yX7_steps.cls = RX7 ∧ yX7_steps.cls ≠ "java/lang/invoke/MethodHandle" ∧ yX7_steps.cls ≠ "java/lang/invoke/VarHandle" ∧ (parseMethodDescriptor yX7_steps.desc).map (fun d => d.parameters.length) = some 1 := by decide +kernel
set_option maxRecDepth 100000 in
set_option maxHeartbeats 4000000 in
theorem r_X7_passes_p58 {p : Program} {l : Launch} {e : Env} {s : State} {m : MethodId} {args : Array Value} {below : List Frame} {meth : Method} {c : Code} {G : GG} {A : Nat → Prop} (C : Cx p s m args meth c G A cX7_passes 5 RX7 wsX7_passes (some .int)) (n : Nat) {k4 : Wd → Nat → Int32 → Int32 → Int32 → Option (Int32 × Wd)} {z : (Int32 × Wd)} (H4 : ∀ (w : Wd) (b0 : Nat) (b1 : Int32) (b2 : Int32) (b3 : Int32), k4 w b0 b1 b2 b3 = some z → V p l e { frames := 4, cells := 0, slots := 0, locals := 94 } s m args below meth c G A 5 4 [(0, .ref b0), (1, .int b1), (2, .int b2), (3, .int b3)] [] w (some (.int z.1)) z.2) : ∀ (w : Wd) (a0 : Nat) (a1 : Int32) (a2 : Int32) (a3 : Int32), m_X7_passes_p58 n k4 w a0 a1 a2 a3 = some z → V p l e { frames := 4, cells := 0, slots := 0, locals := 94 } s m args below meth c G A 5 58 [(0, .ref a0), (1, .int a1), (2, .int a2), (3, .int a3)] [] w (some (.int z.1)) z.2 := by
  intro w a0 a1 a2 a3 h
  unfold m_X7_passes_p58 at h
  refine v_aload_n C 0 dX7_passes_58 rfl rfl ?_
  obtain ⟨q1, e_q1, h⟩ := bnd h
  refine v_getf C (ci := 6) (k := 0) rfl inX7_passes_X7 (by decide) fX7_passes_7 dX7_passes_59 (gfR_e e_q1) ?_
  refine v_sipush C (v := 140) dX7_passes_62 (by decide) ?_
  refine v_dup2_11 C dX7_passes_65 rfl rfl ?_
  obtain ⟨x2, e_x2, h⟩ := bnd h
  refine v_iald C dX7_passes_66 e_x2 ?_
  refine v_iconst C (v := 1) dX7_passes_67 (by decide) ?_
  refine v_iadd C dX7_passes_68 ?_
  refine v_at (pc' := 69) rfl ?_
  obtain ⟨w3, e_w3, h⟩ := bnd h
  refine v_iast C dX7_passes_69 e_w3 ?_
  refine v_iload_n C 2 dX7_passes_70 rfl rfl ?_
  refine v_aload_n C 0 dX7_passes_71 rfl rfl ?_
  obtain ⟨u4, e_u4, h⟩ := bnd h
  obtain ⟨z5, e_z5, h⟩ := bnd h
  refine v_callVi C (ci := 6) (av := []) (rest := [.int a2]) rfl gX7_passes_X7_touched rfl ⟨rfl, rfl⟩ hV_X7_touched ⟨(Nat.le_of_ble_eq_true rfl), (Nat.le_of_ble_eq_true rfl)⟩ e_u4 (r_X7_touched (A := A) e_z5) rfl rfl (Nat.le_of_ble_eq_true rfl) dX7_passes_72 ?_
  refine v_iadd C dX7_passes_75 ?_
  refine v_istore_n C (lv' := [(2, .int (a2 + z5.1)), (0, .ref a0), (1, .int a1), (3, .int a3)]) dX7_passes_76 rfl (by decide) rfl ?_
  refine v_iinc C (k := 3) (v := (a3 + 1)) (lv' := [(3, .int (a3 + 1)), (2, .int (a2 + z5.1)), (0, .ref a0), (1, .int a1)]) dX7_passes_77 rfl rfl (by decide) rfl ?_
  refine v_goto C (tgt := 4) dX7_passes_80 (by decide) ?_
  refine v_sub [2, 3, 1, 0] rfl ?_
  exact H4 _ _ _ _ _ h
set_option maxRecDepth 100000 in
set_option maxHeartbeats 4000000 in
theorem r_X7_passes_p16 {p : Program} {l : Launch} {e : Env} {s : State} {m : MethodId} {args : Array Value} {below : List Frame} {meth : Method} {c : Code} {G : GG} {A : Nat → Prop} (C : Cx p s m args meth c G A cX7_passes 5 RX7 wsX7_passes (some .int)) (n : Nat) {k4 : Wd → Nat → Int32 → Int32 → Int32 → Option (Int32 × Wd)} {z : (Int32 × Wd)} (H4 : ∀ (w : Wd) (b0 : Nat) (b1 : Int32) (b2 : Int32) (b3 : Int32), k4 w b0 b1 b2 b3 = some z → V p l e { frames := 4, cells := 0, slots := 0, locals := 94 } s m args below meth c G A 5 4 [(0, .ref b0), (1, .int b1), (2, .int b2), (3, .int b3)] [] w (some (.int z.1)) z.2) : ∀ (t : Nat), ∀ (w : Wd) (a0 : Nat) (a1 : Int32) (a2 : Int32) (a3 : Int32) (a4 : Int32), m_X7_passes_p16 n k4 t w a0 a1 a2 a3 a4 = some z → V p l e { frames := 4, cells := 0, slots := 0, locals := 94 } s m args below meth c G A 5 16 [(0, .ref a0), (1, .int a1), (2, .int a2), (3, .int a3), (4, .int a4)] [] w (some (.int z.1)) z.2 := by
  intro t
  induction t with
  | zero =>
    intro w a0 a1 a2 a3 a4 h
    rw [m_X7_passes_p16] at h
    cases h
  | succ t ih =>
    intro w a0 a1 a2 a3 a4 h
    rw [m_X7_passes_p16] at h
    refine v_iload C 4 dX7_passes_16 rfl ?_
    refine v_bipush C (v := 24) dX7_passes_18 (by decide) ?_
    refine v_icmp_ge C (tgt := 58) dX7_passes_20 (by decide) (fun q => ?_) (fun q => ?_)
    · have h := ite_t q h
      refine v_sub [0, 1, 2, 3] rfl ?_
      exact r_X7_passes_p58 C n H4 _ _ _ _ _ h
    · have h := ite_f q h
      refine v_aload_n C 0 dX7_passes_23 rfl rfl ?_
      refine v_iload C 4 dX7_passes_24 rfl ?_
      obtain ⟨u1, e_u1, h⟩ := bnd h
      obtain ⟨x2, e_x2, h⟩ := bnd h
      refine v_callVi C (ci := 6) (av := [.int a4]) (rest := []) rfl gX7_passes_X7_isThere rfl ⟨rfl, rfl⟩ hV_X7_isThere ⟨(Nat.le_of_ble_eq_true rfl), (Nat.le_of_ble_eq_true rfl)⟩ e_u1 (r_X7_isThere (A := A) e_x2) rfl rfl (Nat.le_of_ble_eq_true rfl) dX7_passes_26 ?_
      refine v_if_eq C (tgt := 52) dX7_passes_29 (by decide) (fun q => ?_) (fun q => ?_)
      · have h := ite_t q h
        refine v_iinc C (k := 4) (v := (a4 + 1)) (lv' := [(4, .int (a4 + 1)), (0, .ref a0), (1, .int a1), (2, .int a2), (3, .int a3)]) dX7_passes_52 rfl rfl (by decide) rfl ?_
        refine v_goto C (tgt := 16) dX7_passes_55 (by decide) ?_
        refine v_sub [1, 2, 3, 4, 0] rfl ?_
        exact ih _ _ _ _ _ _ h
      · have h := ite_f q h
        refine v_aload_n C 0 dX7_passes_32 rfl rfl ?_
        refine v_iconst C (v := 5) dX7_passes_33 (by decide) ?_
        refine v_iload C 4 dX7_passes_34 rfl ?_
        refine v_imul C dX7_passes_36 ?_
        refine v_iconst C (v := 1) dX7_passes_37 (by decide) ?_
        refine v_iadd C dX7_passes_38 ?_
        obtain ⟨u3, e_u3, h⟩ := bnd h
        obtain ⟨z4, e_z4, h⟩ := bnd h
        refine v_callVv C (ci := 6) (av := [.int ((5 * a4) + 1)]) (rest := []) rfl gX7_passes_X7_steps rfl ⟨rfl, rfl⟩ hV_X7_steps ⟨(Nat.le_of_ble_eq_true rfl), (Nat.le_of_ble_eq_true rfl)⟩ e_u3 (r_X7_steps (A := A) e_z4) rfl rfl (Nat.le_of_ble_eq_true rfl) dX7_passes_39 ?_
        refine v_at (pc' := 42) rfl ?_
        refine v_aload_n C 0 dX7_passes_42 rfl rfl ?_
        refine v_iconst C (v := 5) dX7_passes_43 (by decide) ?_
        refine v_iload C 4 dX7_passes_44 rfl ?_
        refine v_imul C dX7_passes_46 ?_
        refine v_iconst C (v := 2) dX7_passes_47 (by decide) ?_
        refine v_iadd C dX7_passes_48 ?_
        obtain ⟨u5, e_u5, h⟩ := bnd h
        obtain ⟨z6, e_z6, h⟩ := bnd h
        refine v_callVv C (ci := 6) (av := [.int ((5 * a4) + 2)]) (rest := []) rfl gX7_passes_X7_steps rfl ⟨rfl, rfl⟩ hV_X7_steps ⟨(Nat.le_of_ble_eq_true rfl), (Nat.le_of_ble_eq_true rfl)⟩ e_u5 (r_X7_steps (A := A) e_z6) rfl rfl (Nat.le_of_ble_eq_true rfl) dX7_passes_49 ?_
        refine v_iinc C (k := 4) (v := (a4 + 1)) (lv' := [(4, .int (a4 + 1)), (0, .ref a0), (1, .int a1), (2, .int a2), (3, .int a3)]) dX7_passes_52 rfl rfl (by decide) rfl ?_
        refine v_at (pc' := 55) rfl ?_
        refine v_goto C (tgt := 16) dX7_passes_55 (by decide) ?_
        refine v_sub [1, 2, 3, 4, 0] rfl ?_
        exact ih _ _ _ _ _ _ h
set_option maxRecDepth 100000 in
set_option maxHeartbeats 4000000 in
theorem r_X7_passes_p4 {p : Program} {l : Launch} {e : Env} {s : State} {m : MethodId} {args : Array Value} {below : List Frame} {meth : Method} {c : Code} {G : GG} {A : Nat → Prop} (C : Cx p s m args meth c G A cX7_passes 5 RX7 wsX7_passes (some .int)) (n : Nat) {z : (Int32 × Wd)} : ∀ (t : Nat), ∀ (w : Wd) (a0 : Nat) (a1 : Int32) (a2 : Int32) (a3 : Int32), m_X7_passes_p4 n t w a0 a1 a2 a3 = some z → V p l e { frames := 4, cells := 0, slots := 0, locals := 94 } s m args below meth c G A 5 4 [(0, .ref a0), (1, .int a1), (2, .int a2), (3, .int a3)] [] w (some (.int z.1)) z.2 := by
  intro t
  induction t with
  | zero =>
    intro w a0 a1 a2 a3 h
    rw [m_X7_passes_p4] at h
    cases h
  | succ t ih =>
    intro w a0 a1 a2 a3 h
    rw [m_X7_passes_p4] at h
    refine v_iload_n C 3 dX7_passes_4 rfl rfl ?_
    refine v_iload_n C 1 dX7_passes_5 rfl rfl ?_
    refine v_icmp_ge C (tgt := 83) dX7_passes_6 (by decide) (fun q => ?_) (fun q => ?_)
    · have h := ite_t q h
      refine v_iload_n C 2 dX7_passes_83 rfl rfl ?_
      obtain rfl := Option.some.inj h
      exact v_iret C dX7_passes_84
    · have h := ite_f q h
      refine v_aload_n C 0 dX7_passes_9 rfl rfl ?_
      obtain ⟨u1, e_u1, h⟩ := bnd h
      obtain ⟨z2, e_z2, h⟩ := bnd h
      refine v_callVv C (ci := 6) (av := []) (rest := []) rfl gX7_passes_X7_laysBefore rfl ⟨rfl, rfl⟩ hV_X7_laysBefore ⟨(Nat.le_of_ble_eq_true rfl), (Nat.le_of_ble_eq_true rfl)⟩ e_u1 (r_X7_laysBefore (A := A) e_z2) rfl rfl (Nat.le_of_ble_eq_true rfl) dX7_passes_10 ?_
      refine v_iconst C (v := 0) dX7_passes_13 (by decide) ?_
      refine v_istore C (lv' := [(4, .int 0), (0, .ref a0), (1, .int a1), (2, .int a2), (3, .int a3)]) dX7_passes_14 (by decide) rfl ?_
      refine v_sub [1, 2, 3, 4, 0] rfl ?_
      exact r_X7_passes_p16 C n ih n _ _ _ _ _ _ h
set_option maxRecDepth 100000 in
set_option maxHeartbeats 4000000 in
theorem r_X7_passes {l : Launch} {G : GG} {A : Nat → Prop} {n : Nat} {w : Wd} {this : Nat} {a1 : Int32} {z : (Int32 × Wd)} (h : m_X7_passes n w this a1 = some z) : Con l yX7_passes wsX7_passes { frames := 4, cells := 0, slots := 0, locals := 94 } G A [.ref this, .int a1] w (some (.int z.1)) z.2 := by
  refine Con.of (own := RX7) (cc := cX7_passes) (maxL := 5) (ret := (some .int)) rfl (by decide) rfl (Nat.le_of_ble_eq_true rfl) ?_
  intro p e s m args below meth c C
  show V p l e { frames := 4, cells := 0, slots := 0, locals := 94 } s m args below meth c G A 5 0 [(0, .ref this), (1, .int a1)] [] w (some (.int z.1)) z.2
  unfold m_X7_passes at h
  refine v_iconst C (v := 0) dX7_passes_0 (by decide) ?_
  refine v_istore_n C (lv' := [(2, .int 0), (0, .ref this), (1, .int a1)]) dX7_passes_1 rfl (by decide) rfl ?_
  refine v_iconst C (v := 0) dX7_passes_2 (by decide) ?_
  refine v_istore_n C (lv' := [(3, .int 0), (2, .int 0), (0, .ref this), (1, .int a1)]) dX7_passes_3 rfl (by decide) rfl ?_
  refine v_sub [2, 3, 1, 0] rfl ?_
  exact r_X7_passes_p4 C n n _ _ _ _ _ h
theorem z_X7_areTicks (a0 : Int32) : bo (m_X7_areTicks a0) := by
  unfold m_X7_areTicks
  repeat' (first | (refine bo_ite ?_ ?_) | exact bo_0 | exact bo_1 | exact z_X7_in ..)
set_option maxRecDepth 100000 in
set_option maxHeartbeats 4000000 in
theorem r_X7_areTicks {l : Launch} {G : GG} {A : Nat → Prop} {w : Wd} {a0 : Int32} {z : Int32} (h : m_X7_areTicks a0 = z) : Con l yX7_areTicks wsX7_areTicks { frames := 1, cells := 0, slots := 0, locals := 22 } G A [.int a0] w (some (.int z)) w := by
  refine Con.of (own := RX7) (cc := cX7_areTicks) (maxL := 1) (ret := (some .boolean)) rfl (by decide) rfl (Nat.le_of_ble_eq_true rfl) ?_
  intro p e s m args below meth c C
  show V p l e { frames := 1, cells := 0, slots := 0, locals := 22 } s m args below meth c G A 1 0 [(0, .int a0)] [] w (some (.int z)) w
  unfold m_X7_areTicks at h
  refine v_iload_n C 0 dX7_areTicks_0 rfl rfl ?_
  refine v_iconst C (v := 1) dX7_areTicks_1 (by decide) ?_
  refine v_bipush C (v := 50) dX7_areTicks_2 (by decide) ?_
  refine v_callSi C (av := [.int a0, .int 1, .int 50]) (rest := []) gX7_areTicks_X7_in rfl ⟨rfl, rfl⟩ hS_X7_in ⟨(Nat.le_of_ble_eq_true rfl), (Nat.le_of_ble_eq_true rfl)⟩ (r_X7_in (A := A) rfl) rfl rfl (Nat.le_of_ble_eq_true rfl) dX7_areTicks_4 ?_
  subst h
  exact v_zret C dX7_areTicks_7 (z_X7_in ..)
theorem hS_X7_areTicks : yX7_areTicks.cls ≠ "java/lang/invoke/MethodHandle" ∧ yX7_areTicks.cls ≠ "java/lang/invoke/VarHandle" ∧ (parseMethodDescriptor yX7_areTicks.desc).map (fun d => d.parameters.length) = some 1 := by decide +kernel
theorem hV_X7_passes : yX7_passes.cls = RX7 ∧ yX7_passes.cls ≠ "java/lang/invoke/MethodHandle" ∧ yX7_passes.cls ≠ "java/lang/invoke/VarHandle" ∧ (parseMethodDescriptor yX7_passes.desc).map (fun d => d.parameters.length) = some 1 := by decide +kernel
set_option maxRecDepth 100000 in
set_option maxHeartbeats 4000000 in
theorem r_X7_tick {l : Launch} {G : GG} {A : Nat → Prop} {n : Nat} {w : Wd} {this : Nat} {a1 : Int32} {z : (Int32 × Wd)} (h : m_X7_tick n w this a1 = some z) : Con l yX7_tick wsX7_tick { frames := 5, cells := 0, slots := 0, locals := 118 } G A [.ref this, .int a1] w (some (.int z.1)) z.2 := by
  refine Con.of (own := RX7) (cc := cX7_tick) (maxL := 2) (ret := (some .int)) rfl (by decide) rfl (Nat.le_of_ble_eq_true rfl) ?_
  intro p e s m args below meth c C
  show V p l e { frames := 5, cells := 0, slots := 0, locals := 118 } s m args below meth c G A 2 0 [(0, .ref this), (1, .int a1)] [] w (some (.int z.1)) z.2
  unfold m_X7_tick at h
  refine v_aload_n C 0 dX7_tick_0 rfl rfl ?_
  refine v_iload_n C 1 dX7_tick_1 rfl rfl ?_
  refine v_callSi C (av := [.int a1]) (rest := [.ref this]) gX7_tick_X7_areTicks rfl ⟨rfl, rfl⟩ hS_X7_areTicks ⟨(Nat.le_of_ble_eq_true rfl), (Nat.le_of_ble_eq_true rfl)⟩ (r_X7_areTicks (A := A) rfl) rfl rfl (Nat.le_of_ble_eq_true rfl) dX7_tick_2 ?_
  refine v_if_eq C (tgt := 12) dX7_tick_5 (by decide) (fun q => ?_) (fun q => ?_)
  · have h := ite_t q h
    refine v_iconst C (v := 1) dX7_tick_12 (by decide) ?_
    obtain ⟨u1, e_u1, h⟩ := bnd h
    obtain ⟨z2, e_z2, h⟩ := bnd h
    refine v_callVi C (ci := 6) (av := [.int 1]) (rest := []) rfl gX7_tick_X7_refused rfl ⟨rfl, rfl⟩ hV_X7_refused ⟨(Nat.le_of_ble_eq_true rfl), (Nat.le_of_ble_eq_true rfl)⟩ e_u1 (r_X7_refused (A := A) e_z2) rfl rfl (Nat.le_of_ble_eq_true rfl) dX7_tick_13 ?_
    refine v_if_eq C (tgt := 21) dX7_tick_16 (by decide) (fun q => ?_) (fun q => ?_)
    · have h := ite_t q h
      refine v_aload_n C 0 dX7_tick_21 rfl rfl ?_
      obtain ⟨u3, e_u3, h⟩ := bnd h
      obtain ⟨z4, e_z4, h⟩ := bnd h
      refine v_callVv C (ci := 6) (av := []) (rest := []) rfl gX7_tick_X7_saves rfl ⟨rfl, rfl⟩ hV_X7_saves ⟨(Nat.le_of_ble_eq_true rfl), (Nat.le_of_ble_eq_true rfl)⟩ e_u3 (r_X7_saves (A := A) e_z4) rfl rfl (Nat.le_of_ble_eq_true rfl) dX7_tick_22 ?_
      refine v_aload_n C 0 dX7_tick_25 rfl rfl ?_
      refine v_iload_n C 1 dX7_tick_26 rfl rfl ?_
      obtain ⟨u5, e_u5, h⟩ := bnd h
      obtain ⟨z6, e_z6, h⟩ := bnd h
      refine v_callVi C (ci := 6) (av := [.int a1]) (rest := []) rfl gX7_tick_X7_passes rfl ⟨rfl, rfl⟩ hV_X7_passes ⟨(Nat.le_of_ble_eq_true rfl), (Nat.le_of_ble_eq_true rfl)⟩ e_u5 (r_X7_passes (A := A) e_z6) rfl rfl (Nat.le_of_ble_eq_true rfl) dX7_tick_27 ?_
      obtain rfl := Option.some.inj h
      exact v_iret C dX7_tick_30
    · have h := ite_f q h
      refine v_iconst C (v := 0) dX7_tick_19 (by decide) ?_
      obtain rfl := Option.some.inj h
      exact v_iret C dX7_tick_20
  · have h := ite_f q h
    refine v_iconst C (v := 0) dX7_tick_8 (by decide) ?_
    refine v_goto C (tgt := 13) dX7_tick_9 (by decide) ?_
    obtain ⟨u7, e_u7, h⟩ := bnd h
    obtain ⟨z8, e_z8, h⟩ := bnd h
    refine v_callVi C (ci := 6) (av := [.int 0]) (rest := []) rfl gX7_tick_X7_refused rfl ⟨rfl, rfl⟩ hV_X7_refused ⟨(Nat.le_of_ble_eq_true rfl), (Nat.le_of_ble_eq_true rfl)⟩ e_u7 (r_X7_refused (A := A) e_z8) rfl rfl (Nat.le_of_ble_eq_true rfl) dX7_tick_13 ?_
    refine v_if_eq C (tgt := 21) dX7_tick_16 (by decide) (fun q => ?_) (fun q => ?_)
    · have h := ite_t q h
      refine v_aload_n C 0 dX7_tick_21 rfl rfl ?_
      obtain ⟨u9, e_u9, h⟩ := bnd h
      obtain ⟨z10, e_z10, h⟩ := bnd h
      refine v_callVv C (ci := 6) (av := []) (rest := []) rfl gX7_tick_X7_saves rfl ⟨rfl, rfl⟩ hV_X7_saves ⟨(Nat.le_of_ble_eq_true rfl), (Nat.le_of_ble_eq_true rfl)⟩ e_u9 (r_X7_saves (A := A) e_z10) rfl rfl (Nat.le_of_ble_eq_true rfl) dX7_tick_22 ?_
      refine v_aload_n C 0 dX7_tick_25 rfl rfl ?_
      refine v_iload_n C 1 dX7_tick_26 rfl rfl ?_
      obtain ⟨u11, e_u11, h⟩ := bnd h
      obtain ⟨z12, e_z12, h⟩ := bnd h
      refine v_callVi C (ci := 6) (av := [.int a1]) (rest := []) rfl gX7_tick_X7_passes rfl ⟨rfl, rfl⟩ hV_X7_passes ⟨(Nat.le_of_ble_eq_true rfl), (Nat.le_of_ble_eq_true rfl)⟩ e_u11 (r_X7_passes (A := A) e_z12) rfl rfl (Nat.le_of_ble_eq_true rfl) dX7_tick_27 ?_
      obtain rfl := Option.some.inj h
      exact v_iret C dX7_tick_30
    · have h := ite_f q h
      refine v_iconst C (v := 0) dX7_tick_19 (by decide) ?_
      obtain rfl := Option.some.inj h
      exact v_iret C dX7_tick_20
theorem fX7_pointMany_7 : Cond.fieldLink RX7 7 (TX7 0).1 (TX7 0).2.1 (TX7 0).2.2.1 ∈ wsX7_pointMany := by decide +kernel
theorem inX7_pointMany_X7 : ∀ x ∈ u_ws RX7 TX7 20, x ∈ wsX7_pointMany := by decide +kernel
set_option maxRecDepth 100000 in
set_option maxHeartbeats 4000000 in
theorem r_X7_pointMany_p4 {p : Program} {l : Launch} {e : Env} {s : State} {m : MethodId} {args : Array Value} {below : List Frame} {meth : Method} {c : Code} {G : GG} {A : Nat → Prop} (C : Cx p s m args meth c G A cX7_pointMany 3 RX7 wsX7_pointMany (some .int)) (n : Nat) {z : Int32} : ∀ (t : Nat), ∀ (w : Wd) (a0 : Nat) (a1 : Int32) (a2 : Int32), m_X7_pointMany_p4 n t w a0 a1 a2 = some z → V p l e { frames := 0, cells := 0, slots := 0, locals := 0 } s m args below meth c G A 3 4 [(0, .ref a0), (1, .int a1), (2, .int a2)] [] w (some (.int z)) w := by
  intro t
  induction t with
  | zero =>
    intro w a0 a1 a2 h
    rw [m_X7_pointMany_p4] at h
    cases h
  | succ t ih =>
    intro w a0 a1 a2 h
    rw [m_X7_pointMany_p4] at h
    refine v_iload_n C 2 dX7_pointMany_4 rfl rfl ?_
    refine v_bipush C (v := 24) dX7_pointMany_5 (by decide) ?_
    refine v_icmp_ge C (tgt := 27) dX7_pointMany_7 (by decide) (fun q => ?_) (fun q => ?_)
    · have h := ite_t q h
      refine v_iload_n C 1 dX7_pointMany_27 rfl rfl ?_
      obtain rfl := Option.some.inj h
      exact v_iret C dX7_pointMany_28
    · have h := ite_f q h
      refine v_iload_n C 1 dX7_pointMany_10 rfl rfl ?_
      refine v_aload_n C 0 dX7_pointMany_11 rfl rfl ?_
      obtain ⟨q1, e_q1, h⟩ := bnd h
      refine v_getf C (ci := 6) (k := 0) rfl inX7_pointMany_X7 (by decide) fX7_pointMany_7 dX7_pointMany_12 (gfR_e e_q1) ?_
      refine v_iconst C (v := 5) dX7_pointMany_15 (by decide) ?_
      refine v_iload_n C 2 dX7_pointMany_16 rfl rfl ?_
      refine v_imul C dX7_pointMany_17 ?_
      obtain ⟨x2, e_x2, h⟩ := bnd h
      refine v_iald C dX7_pointMany_18 e_x2 ?_
      refine v_at (pc' := 19) rfl ?_
      refine v_iadd C dX7_pointMany_19 ?_
      refine v_istore_n C (lv' := [(1, .int (a1 + x2)), (0, .ref a0), (2, .int a2)]) dX7_pointMany_20 rfl (by decide) rfl ?_
      refine v_iinc C (k := 2) (v := (a2 + 1)) (lv' := [(2, .int (a2 + 1)), (1, .int (a1 + x2)), (0, .ref a0)]) dX7_pointMany_21 rfl rfl (by decide) rfl ?_
      refine v_goto C (tgt := 4) dX7_pointMany_24 (by decide) ?_
      refine v_sub [2, 1, 0] rfl ?_
      exact ih _ _ _ _ h
set_option maxRecDepth 100000 in
set_option maxHeartbeats 4000000 in
theorem r_X7_pointMany {l : Launch} {G : GG} {A : Nat → Prop} {n : Nat} {w : Wd} {this : Nat} {z : Int32} (h : m_X7_pointMany n w this = some z) : Con l yX7_pointMany wsX7_pointMany { frames := 0, cells := 0, slots := 0, locals := 0 } G A [.ref this] w (some (.int z)) w := by
  refine Con.of (own := RX7) (cc := cX7_pointMany) (maxL := 3) (ret := (some .int)) rfl (by decide) rfl (Nat.le_of_ble_eq_true rfl) ?_
  intro p e s m args below meth c C
  show V p l e { frames := 0, cells := 0, slots := 0, locals := 0 } s m args below meth c G A 3 0 [(0, .ref this)] [] w (some (.int z)) w
  unfold m_X7_pointMany at h
  refine v_iconst C (v := 0) dX7_pointMany_0 (by decide) ?_
  refine v_istore_n C (lv' := [(1, .int 0), (0, .ref this)]) dX7_pointMany_1 rfl (by decide) rfl ?_
  refine v_iconst C (v := 0) dX7_pointMany_2 (by decide) ?_
  refine v_istore_n C (lv' := [(2, .int 0), (1, .int 0), (0, .ref this)]) dX7_pointMany_3 rfl (by decide) rfl ?_
  refine v_sub [2, 1, 0] rfl ?_
  exact r_X7_pointMany_p4 C n n _ _ _ _ h
theorem cX7_draws_150 : Cond.constantLong RX7 150 (1103515245) ∈ wsX7_draws := by decide +kernel
theorem fX7_draws_152 : Cond.fieldLink RX7 152 (TX7 11).1 (TX7 11).2.1 (TX7 11).2.2.1 ∈ wsX7_draws := by decide +kernel
theorem inX7_draws_X7 : ∀ x ∈ u_ws RX7 TX7 20, x ∈ wsX7_draws := by decide +kernel
theorem cX7_draws_156 : Cond.constantLong RX7 156 (12345) ∈ wsX7_draws := by decide +kernel
theorem cX7_draws_158 : Cond.constantLong RX7 158 (2147483648) ∈ wsX7_draws := by decide +kernel
theorem cX7_draws_160 : Cond.constantLong RX7 160 (65536) ∈ wsX7_draws := by decide +kernel
set_option maxRecDepth 100000 in
set_option maxHeartbeats 4000000 in
theorem r_X7_draws {l : Launch} {G : GG} {A : Nat → Prop} {n : Nat} {w : Wd} {this : Nat} {a1 : Int32} {z : (Int32 × Wd)} (h : m_X7_draws n w this a1 = some z) : Con l yX7_draws wsX7_draws { frames := 0, cells := 0, slots := 0, locals := 0 } G A [.ref this, .int a1] w (some (.int z.1)) z.2 := by
  refine Con.of (own := RX7) (cc := cX7_draws) (maxL := 2) (ret := (some .int)) rfl (by decide) rfl (Nat.le_of_ble_eq_true rfl) ?_
  intro p e s m args below meth c C
  show V p l e { frames := 0, cells := 0, slots := 0, locals := 0 } s m args below meth c G A 2 0 [(0, .ref this), (1, .int a1)] [] w (some (.int z.1)) z.2
  unfold m_X7_draws at h
  refine v_aload_n C 0 dX7_draws_0 rfl rfl ?_
  refine v_ldc2 C dX7_draws_1 cX7_draws_150 ?_
  refine v_aload_n C 0 dX7_draws_4 rfl rfl ?_
  obtain ⟨x1, e_x1, h⟩ := bnd h
  refine v_getf C (ci := 6) (k := 11) rfl inX7_draws_X7 (by decide) fX7_draws_152 dX7_draws_5 (gfJ_e e_x1) ?_
  refine v_lmul C dX7_draws_8 ?_
  refine v_ldc2 C dX7_draws_9 cX7_draws_156 ?_
  refine v_ladd C dX7_draws_12 ?_
  refine v_at (pc' := 13) rfl ?_
  refine v_ldc2 C dX7_draws_13 cX7_draws_158 ?_
  refine v_lrem C dX7_draws_16 (by decide) ?_
  obtain ⟨w2, e_w2, h⟩ := bnd h
  refine v_putf C (ci := 6) (k := 11) rfl inX7_draws_X7 tyX7_ok nmX7 (by decide) fX7_draws_152 rfl (tyX7_ok 11 (by decide)) rfl rfl dX7_draws_17 e_w2 ?_
  refine v_aload_n C 0 dX7_draws_20 rfl rfl ?_
  obtain ⟨x3, e_x3, h⟩ := bnd h
  refine v_getf C (ci := 6) (k := 11) rfl inX7_draws_X7 (by decide) fX7_draws_152 dX7_draws_21 (gfJ_e e_x3) ?_
  refine v_ldc2 C dX7_draws_24 cX7_draws_160 ?_
  refine v_ldiv C dX7_draws_27 (by decide) ?_
  refine v_l2i C dX7_draws_28 ?_
  refine v_at (pc' := 29) rfl ?_
  refine v_iload_n C 1 dX7_draws_29 rfl rfl ?_
  obtain ⟨x4, e_x4, h⟩ := bnd h
  refine v_iremR C dX7_draws_30 e_x4 ?_
  obtain rfl := Option.some.inj h
  exact v_iret C dX7_draws_31
theorem hV_X7_pointMany : yX7_pointMany.cls = RX7 ∧ yX7_pointMany.cls ≠ "java/lang/invoke/MethodHandle" ∧ yX7_pointMany.cls ≠ "java/lang/invoke/VarHandle" ∧ (parseMethodDescriptor yX7_pointMany.desc).map (fun d => d.parameters.length) = some 0 := by decide +kernel
theorem hV_X7_draws : yX7_draws.cls = RX7 ∧ yX7_draws.cls ≠ "java/lang/invoke/MethodHandle" ∧ yX7_draws.cls ≠ "java/lang/invoke/VarHandle" ∧ (parseMethodDescriptor yX7_draws.desc).map (fun d => d.parameters.length) = some 1 := by decide +kernel
theorem fX7_scatter_152 : Cond.fieldLink RX7 152 (TX7 11).1 (TX7 11).2.1 (TX7 11).2.2.1 ∈ wsX7_scatter := by decide +kernel
theorem inX7_scatter_X7 : ∀ x ∈ u_ws RX7 TX7 20, x ∈ wsX7_scatter := by decide +kernel
theorem cX7_scatter_162 : Cond.constant RX7 162 (999999) ∈ wsX7_scatter := by decide +kernel
set_option maxRecDepth 100000 in
set_option maxHeartbeats 4000000 in
theorem r_X7_scatter_p125 {p : Program} {l : Launch} {e : Env} {s : State} {m : MethodId} {args : Array Value} {below : List Frame} {meth : Method} {c : Code} {G : GG} {A : Nat → Prop} (C : Cx p s m args meth c G A cX7_scatter 8 RX7 wsX7_scatter (some .int)) (n : Nat) {z : (Int32 × Wd)} : ∀ (w : Wd) (a0 : Nat), m_X7_scatter_p125 n w a0 = some z → V p l e { frames := 2, cells := 0, slots := 0, locals := 42 } s m args below meth c G A 8 125 [(0, .ref a0)] [] w (some (.int z.1)) z.2 := by
  intro w a0 h
  unfold m_X7_scatter_p125 at h
  refine v_aload_n C 0 dX7_scatter_125 rfl rfl ?_
  obtain ⟨u1, e_u1, h⟩ := bnd h
  obtain ⟨x2, e_x2, h⟩ := bnd h
  refine v_callVi C (ci := 6) (av := []) (rest := []) rfl gX7_scatter_X7_pointMany rfl ⟨rfl, rfl⟩ hV_X7_pointMany ⟨(Nat.le_of_ble_eq_true rfl), (Nat.le_of_ble_eq_true rfl)⟩ e_u1 (r_X7_pointMany (A := A) e_x2) rfl rfl (Nat.le_of_ble_eq_true rfl) dX7_scatter_126 ?_
  obtain rfl := Option.some.inj h
  exact v_iret C dX7_scatter_129
set_option maxRecDepth 100000 in
set_option maxHeartbeats 4000000 in
theorem r_X7_scatter_p91 {p : Program} {l : Launch} {e : Env} {s : State} {m : MethodId} {args : Array Value} {below : List Frame} {meth : Method} {c : Code} {G : GG} {A : Nat → Prop} (C : Cx p s m args meth c G A cX7_scatter 8 RX7 wsX7_scatter (some .int)) (n : Nat) {z : (Int32 × Wd)} : ∀ (t : Nat), ∀ (w : Wd) (a0 : Nat) (a1 : Int32) (a2 : Int32) (a3 : Int32) (a6 : Int32), m_X7_scatter_p91 n t w a0 a1 a2 a3 a6 = some z → V p l e { frames := 2, cells := 0, slots := 0, locals := 42 } s m args below meth c G A 8 91 [(0, .ref a0), (1, .int a1), (2, .int a2), (3, .int a3), (6, .int a6)] [] w (some (.int z.1)) z.2 := by
  intro t
  induction t with
  | zero =>
    intro w a0 a1 a2 a3 a6 h
    rw [m_X7_scatter_p91] at h
    cases h
  | succ t ih =>
    intro w a0 a1 a2 a3 a6 h
    rw [m_X7_scatter_p91] at h
    refine v_iload C 4 dX7_scatter_91 rfl ?_
    refine v_iload_n C 1 dX7_scatter_93 rfl rfl ?_
    refine v_iload_n C 2 dX7_scatter_94 rfl rfl ?_
    refine v_iadd C dX7_scatter_95 ?_
    refine v_icmp_ge C (tgt := 125) dX7_scatter_96 (by decide) (fun q => ?_) (fun q => ?_)
    · have h := ite_t q h
      refine v_sub [0] rfl ?_
      exact r_X7_scatter_p125 C n _ _ h
    · have h := ite_f q h
      refine v_aload_n C 0 dX7_scatter_99 rfl rfl ?_
      refine v_iload_n C 3 dX7_scatter_100 rfl rfl ?_
      obtain ⟨u1, e_u1, h⟩ := bnd h
      obtain ⟨z2, e_z2, h⟩ := bnd h
      refine v_callVi C (ci := 6) (av := [.int a3]) (rest := []) rfl gX7_scatter_X7_draws rfl ⟨rfl, rfl⟩ hV_X7_draws ⟨(Nat.le_of_ble_eq_true rfl), (Nat.le_of_ble_eq_true rfl)⟩ e_u1 (r_X7_draws (A := A) e_z2) rfl rfl (Nat.le_of_ble_eq_true rfl) dX7_scatter_101 ?_
      refine v_istore C (lv' := [(7, .int z2.1), (0, .ref a0), (1, .int a1), (2, .int a2), (3, .int a3), (6, .int a6)]) dX7_scatter_104 (by decide) rfl ?_
      refine v_aload_n C 1 dX7_scatter_106 rfl rfl ?_
      refine v_iload C 5 dX7_scatter_107 rfl ?_
      refine v_iload C 0 dX7_scatter_109 rfl ?_
      refine v_at (pc' := 111) rfl ?_
      refine v_aload_n C 1 dX7_scatter_111 rfl rfl ?_
      refine v_iload_n C 4 dX7_scatter_112 rfl rfl ?_
      obtain ⟨u3, e_u3, h⟩ := bnd h
      obtain ⟨z4, e_z4, h⟩ := bnd h
      refine v_callVi C (ci := 6) (av := [.int a3]) (rest := [.int z2.1, .int a6, .ref a0]) rfl gX7_scatter_X7_draws rfl ⟨rfl, rfl⟩ hV_X7_draws ⟨(Nat.le_of_ble_eq_true rfl), (Nat.le_of_ble_eq_true rfl)⟩ e_u3 (r_X7_draws (A := A) e_z4) rfl rfl (Nat.le_of_ble_eq_true rfl) dX7_scatter_113 ?_
      obtain ⟨u5, e_u5, h⟩ := bnd h
      obtain ⟨z6, e_z6, h⟩ := bnd h
      refine v_callVv C (ci := 6) (av := [.int a6, .int z2.1, .int z4.1]) (rest := []) rfl gX7_scatter_X7_puts rfl ⟨rfl, rfl⟩ hV_X7_puts ⟨(Nat.le_of_ble_eq_true rfl), (Nat.le_of_ble_eq_true rfl)⟩ e_u5 (r_X7_puts (A := A) e_z6) rfl rfl (Nat.le_of_ble_eq_true rfl) dX7_scatter_116 ?_
      refine v_iinc C (k := 5) (v := (a6 + 1)) (lv' := [(6, .int (a6 + 1)), (7, .int z2.1), (0, .ref a0), (1, .int a1), (2, .int a2), (3, .int a3)]) dX7_scatter_119 rfl rfl (by decide) rfl ?_
      refine v_goto C (tgt := 91) dX7_scatter_122 (by decide) ?_
      refine v_sub [2, 3, 4, 5, 0] rfl ?_
      exact ih _ _ _ _ _ _ h
set_option maxRecDepth 100000 in
set_option maxHeartbeats 4000000 in
theorem r_X7_scatter_p45 {p : Program} {l : Launch} {e : Env} {s : State} {m : MethodId} {args : Array Value} {below : List Frame} {meth : Method} {c : Code} {G : GG} {A : Nat → Prop} (C : Cx p s m args meth c G A cX7_scatter 8 RX7 wsX7_scatter (some .int)) (n : Nat) {z : (Int32 × Wd)} : ∀ (w : Wd) (s0 : Int32) (a0 : Nat) (a1 : Int32) (a2 : Int32) (a3 : Int32) (a4 : Int32), m_X7_scatter_p45 n w s0 a0 a1 a2 a3 a4 = some z → V p l e { frames := 2, cells := 0, slots := 0, locals := 42 } s m args below meth c G A 8 45 [(0, .ref a0), (1, .int a1), (2, .int a2), (3, .int a3), (4, .int a4)] [.int s0] w (some (.int z.1)) z.2 := by
  intro w s0 a0 a1 a2 a3 a4 h
  unfold m_X7_scatter_p45 at h
  refine v_istore C (lv' := [(5, .int s0), (0, .ref a0), (1, .int a1), (2, .int a2), (3, .int a3), (4, .int a4)]) dX7_scatter_45 (by decide) rfl ?_
  refine v_aload_n C 1 dX7_scatter_47 rfl rfl ?_
  refine v_iload_n C 2 dX7_scatter_48 rfl rfl ?_
  refine v_callSi C (av := [.int a1]) (rest := [.ref a0]) gX7_scatter_X7_isId rfl ⟨rfl, rfl⟩ hS_X7_isId ⟨(Nat.le_of_ble_eq_true rfl), (Nat.le_of_ble_eq_true rfl)⟩ (r_X7_isId (A := A) rfl) rfl rfl (Nat.le_of_ble_eq_true rfl) dX7_scatter_49 ?_
  refine v_if_ne C (tgt := 59) dX7_scatter_52 (by decide) (fun q => ?_) (fun q => ?_)
  · have h := ite_f q h
    refine v_iload C 0 dX7_scatter_59 rfl ?_
    refine v_if_eq C (tgt := 68) dX7_scatter_61 (by decide) (fun q => ?_) (fun q => ?_)
    · have h := ite_t q h
      refine v_iconst C (v := 2) dX7_scatter_68 (by decide) ?_
      obtain ⟨u1, e_u1, h⟩ := bnd h
      obtain ⟨z2, e_z2, h⟩ := bnd h
      refine v_callVi C (ci := 6) (av := [.int 2]) (rest := []) rfl gX7_scatter_X7_refused rfl ⟨rfl, rfl⟩ hV_X7_refused ⟨(Nat.le_of_ble_eq_true rfl), (Nat.le_of_ble_eq_true rfl)⟩ e_u1 (r_X7_refused (A := A) e_z2) rfl rfl (Nat.le_of_ble_eq_true rfl) dX7_scatter_69 ?_
      refine v_if_eq C (tgt := 77) dX7_scatter_72 (by decide) (fun q => ?_) (fun q => ?_)
      · have h := ite_t q h
        refine v_aload_n C 1 dX7_scatter_77 rfl rfl ?_
        obtain ⟨u3, e_u3, h⟩ := bnd h
        obtain ⟨z4, e_z4, h⟩ := bnd h
        refine v_callVv C (ci := 6) (av := []) (rest := []) rfl gX7_scatter_X7_saves rfl ⟨rfl, rfl⟩ hV_X7_saves ⟨(Nat.le_of_ble_eq_true rfl), (Nat.le_of_ble_eq_true rfl)⟩ e_u3 (r_X7_saves (A := A) e_z4) rfl rfl (Nat.le_of_ble_eq_true rfl) dX7_scatter_78 ?_
        refine v_aload_n C 1 dX7_scatter_81 rfl rfl ?_
        refine v_iload C 5 dX7_scatter_82 rfl ?_
        refine v_i2l C dX7_scatter_84 ?_
        obtain ⟨w5, e_w5, h⟩ := bnd h
        refine v_putf C (ci := 6) (k := 11) rfl inX7_scatter_X7 tyX7_ok nmX7 (by decide) fX7_scatter_152 rfl (tyX7_ok 11 (by decide)) rfl rfl dX7_scatter_85 e_w5 ?_
        refine v_iload_n C 2 dX7_scatter_88 rfl rfl ?_
        refine v_at (pc' := 89) rfl ?_
        refine v_istore C (lv' := [(6, .int a1), (5, .int s0), (0, .ref a0), (1, .int a1), (2, .int a2), (3, .int a3), (4, .int a4)]) dX7_scatter_89 (by decide) rfl ?_
        refine v_sub [2, 3, 4, 5, 0] rfl ?_
        exact r_X7_scatter_p91 C n n _ _ _ _ _ _ h
      · have h := ite_f q h
        refine v_iconst C (v := 0) dX7_scatter_75 (by decide) ?_
        obtain rfl := Option.some.inj h
        exact v_iret C dX7_scatter_76
    · have h := ite_f q h
      refine v_iconst C (v := 0) dX7_scatter_64 (by decide) ?_
      refine v_goto C (tgt := 69) dX7_scatter_65 (by decide) ?_
      obtain ⟨u6, e_u6, h⟩ := bnd h
      obtain ⟨z7, e_z7, h⟩ := bnd h
      refine v_callVi C (ci := 6) (av := [.int 0]) (rest := []) rfl gX7_scatter_X7_refused rfl ⟨rfl, rfl⟩ hV_X7_refused ⟨(Nat.le_of_ble_eq_true rfl), (Nat.le_of_ble_eq_true rfl)⟩ e_u6 (r_X7_refused (A := A) e_z7) rfl rfl (Nat.le_of_ble_eq_true rfl) dX7_scatter_69 ?_
      refine v_if_eq C (tgt := 77) dX7_scatter_72 (by decide) (fun q => ?_) (fun q => ?_)
      · have h := ite_t q h
        refine v_aload_n C 1 dX7_scatter_77 rfl rfl ?_
        obtain ⟨u8, e_u8, h⟩ := bnd h
        obtain ⟨z9, e_z9, h⟩ := bnd h
        refine v_callVv C (ci := 6) (av := []) (rest := []) rfl gX7_scatter_X7_saves rfl ⟨rfl, rfl⟩ hV_X7_saves ⟨(Nat.le_of_ble_eq_true rfl), (Nat.le_of_ble_eq_true rfl)⟩ e_u8 (r_X7_saves (A := A) e_z9) rfl rfl (Nat.le_of_ble_eq_true rfl) dX7_scatter_78 ?_
        refine v_aload_n C 1 dX7_scatter_81 rfl rfl ?_
        refine v_iload C 5 dX7_scatter_82 rfl ?_
        refine v_i2l C dX7_scatter_84 ?_
        obtain ⟨w10, e_w10, h⟩ := bnd h
        refine v_putf C (ci := 6) (k := 11) rfl inX7_scatter_X7 tyX7_ok nmX7 (by decide) fX7_scatter_152 rfl (tyX7_ok 11 (by decide)) rfl rfl dX7_scatter_85 e_w10 ?_
        refine v_iload_n C 2 dX7_scatter_88 rfl rfl ?_
        refine v_at (pc' := 89) rfl ?_
        refine v_istore C (lv' := [(6, .int a1), (5, .int s0), (0, .ref a0), (1, .int a1), (2, .int a2), (3, .int a3), (4, .int a4)]) dX7_scatter_89 (by decide) rfl ?_
        refine v_sub [2, 3, 4, 5, 0] rfl ?_
        exact r_X7_scatter_p91 C n n _ _ _ _ _ _ h
      · have h := ite_f q h
        refine v_iconst C (v := 0) dX7_scatter_75 (by decide) ?_
        obtain rfl := Option.some.inj h
        exact v_iret C dX7_scatter_76
  · have h := ite_t q h
    refine v_iconst C (v := 1) dX7_scatter_55 (by decide) ?_
    refine v_goto C (tgt := 69) dX7_scatter_56 (by decide) ?_
    obtain ⟨u11, e_u11, h⟩ := bnd h
    obtain ⟨z12, e_z12, h⟩ := bnd h
    refine v_callVi C (ci := 6) (av := [.int 1]) (rest := []) rfl gX7_scatter_X7_refused rfl ⟨rfl, rfl⟩ hV_X7_refused ⟨(Nat.le_of_ble_eq_true rfl), (Nat.le_of_ble_eq_true rfl)⟩ e_u11 (r_X7_refused (A := A) e_z12) rfl rfl (Nat.le_of_ble_eq_true rfl) dX7_scatter_69 ?_
    refine v_if_eq C (tgt := 77) dX7_scatter_72 (by decide) (fun q => ?_) (fun q => ?_)
    · have h := ite_t q h
      refine v_aload_n C 1 dX7_scatter_77 rfl rfl ?_
      obtain ⟨u13, e_u13, h⟩ := bnd h
      obtain ⟨z14, e_z14, h⟩ := bnd h
      refine v_callVv C (ci := 6) (av := []) (rest := []) rfl gX7_scatter_X7_saves rfl ⟨rfl, rfl⟩ hV_X7_saves ⟨(Nat.le_of_ble_eq_true rfl), (Nat.le_of_ble_eq_true rfl)⟩ e_u13 (r_X7_saves (A := A) e_z14) rfl rfl (Nat.le_of_ble_eq_true rfl) dX7_scatter_78 ?_
      refine v_aload_n C 1 dX7_scatter_81 rfl rfl ?_
      refine v_iload C 5 dX7_scatter_82 rfl ?_
      refine v_i2l C dX7_scatter_84 ?_
      obtain ⟨w15, e_w15, h⟩ := bnd h
      refine v_putf C (ci := 6) (k := 11) rfl inX7_scatter_X7 tyX7_ok nmX7 (by decide) fX7_scatter_152 rfl (tyX7_ok 11 (by decide)) rfl rfl dX7_scatter_85 e_w15 ?_
      refine v_iload_n C 2 dX7_scatter_88 rfl rfl ?_
      refine v_at (pc' := 89) rfl ?_
      refine v_istore C (lv' := [(6, .int a1), (5, .int s0), (0, .ref a0), (1, .int a1), (2, .int a2), (3, .int a3), (4, .int a4)]) dX7_scatter_89 (by decide) rfl ?_
      refine v_sub [2, 3, 4, 5, 0] rfl ?_
      exact r_X7_scatter_p91 C n n _ _ _ _ _ _ h
    · have h := ite_f q h
      refine v_iconst C (v := 0) dX7_scatter_75 (by decide) ?_
      obtain rfl := Option.some.inj h
      exact v_iret C dX7_scatter_76
set_option maxRecDepth 100000 in
set_option maxHeartbeats 4000000 in
theorem r_X7_scatter {l : Launch} {G : GG} {A : Nat → Prop} {n : Nat} {w : Wd} {this : Nat} {a1 : Int32} {a2 : Int32} {a3 : Int32} {a4 : Int32} {z : (Int32 × Wd)} (h : m_X7_scatter n w this a1 a2 a3 a4 = some z) : Con l yX7_scatter wsX7_scatter { frames := 2, cells := 0, slots := 0, locals := 42 } G A [.ref this, .int a1, .int a2, .int a3, .int a4] w (some (.int z.1)) z.2 := by
  refine Con.of (own := RX7) (cc := cX7_scatter) (maxL := 8) (ret := (some .int)) rfl (by decide) rfl (Nat.le_of_ble_eq_true rfl) ?_
  intro p e s m args below meth c C
  show V p l e { frames := 2, cells := 0, slots := 0, locals := 42 } s m args below meth c G A 8 0 [(0, .ref this), (1, .int a1), (2, .int a2), (3, .int a3), (4, .int a4)] [] w (some (.int z.1)) z.2
  unfold m_X7_scatter at h
  refine v_iload_n C 1 dX7_scatter_0 rfl rfl ?_
  refine v_callSi C (av := [.int a1]) (rest := []) gX7_scatter_X7_isId rfl ⟨rfl, rfl⟩ hS_X7_isId ⟨(Nat.le_of_ble_eq_true rfl), (Nat.le_of_ble_eq_true rfl)⟩ (r_X7_isId (A := A) rfl) rfl rfl (Nat.le_of_ble_eq_true rfl) dX7_scatter_1 ?_
  refine v_if_eq C (tgt := 44) dX7_scatter_4 (by decide) (fun q => ?_) (fun q => ?_)
  · have h := ite_t q h
    refine v_iconst C (v := 0) dX7_scatter_44 (by decide) ?_
    exact r_X7_scatter_p45 C n _ _ _ _ _ _ _ h
  · have h := ite_f q h
    refine v_iload_n C 2 dX7_scatter_7 rfl rfl ?_
    refine v_iconst C (v := 1) dX7_scatter_8 (by decide) ?_
    refine v_bipush C (v := 24) dX7_scatter_9 (by decide) ?_
    refine v_iload_n C 1 dX7_scatter_11 rfl rfl ?_
    refine v_isub C dX7_scatter_12 ?_
    refine v_callSi C (av := [.int a2, .int 1, .int (24 - a1)]) (rest := []) gX7_scatter_X7_in rfl ⟨rfl, rfl⟩ hS_X7_in ⟨(Nat.le_of_ble_eq_true rfl), (Nat.le_of_ble_eq_true rfl)⟩ (r_X7_in (A := A) rfl) rfl rfl (Nat.le_of_ble_eq_true rfl) dX7_scatter_13 ?_
    refine v_if_eq C (tgt := 44) dX7_scatter_16 (by decide) (fun q => ?_) (fun q => ?_)
    · have h := ite_t q h
      refine v_iconst C (v := 0) dX7_scatter_44 (by decide) ?_
      exact r_X7_scatter_p45 C n _ _ _ _ _ _ _ h
    · have h := ite_f q h
      refine v_iload_n C 3 dX7_scatter_19 rfl rfl ?_
      refine v_iconst C (v := 1) dX7_scatter_20 (by decide) ?_
      refine v_bipush C (v := 64) dX7_scatter_21 (by decide) ?_
      refine v_callSi C (av := [.int a3, .int 1, .int 64]) (rest := []) gX7_scatter_X7_in rfl ⟨rfl, rfl⟩ hS_X7_in ⟨(Nat.le_of_ble_eq_true rfl), (Nat.le_of_ble_eq_true rfl)⟩ (r_X7_in (A := A) rfl) rfl rfl (Nat.le_of_ble_eq_true rfl) dX7_scatter_23 ?_
      refine v_if_eq C (tgt := 44) dX7_scatter_26 (by decide) (fun q => ?_) (fun q => ?_)
      · have h := ite_t q h
        refine v_iconst C (v := 0) dX7_scatter_44 (by decide) ?_
        exact r_X7_scatter_p45 C n _ _ _ _ _ _ _ h
      · have h := ite_f q h
        refine v_iload C 4 dX7_scatter_29 rfl ?_
        refine v_iconst C (v := 0) dX7_scatter_31 (by decide) ?_
        refine v_ldc C dX7_scatter_32 cX7_scatter_162 ?_
        refine v_callSi C (av := [.int a4, .int 0, .int 999999]) (rest := []) gX7_scatter_X7_in rfl ⟨rfl, rfl⟩ hS_X7_in ⟨(Nat.le_of_ble_eq_true rfl), (Nat.le_of_ble_eq_true rfl)⟩ (r_X7_in (A := A) rfl) rfl rfl (Nat.le_of_ble_eq_true rfl) dX7_scatter_34 ?_
        refine v_if_eq C (tgt := 44) dX7_scatter_37 (by decide) (fun q => ?_) (fun q => ?_)
        · have h := ite_t q h
          refine v_iconst C (v := 0) dX7_scatter_44 (by decide) ?_
          exact r_X7_scatter_p45 C n _ _ _ _ _ _ _ h
        · have h := ite_f q h
          refine v_iconst C (v := 1) dX7_scatter_40 (by decide) ?_
          refine v_goto C (tgt := 45) dX7_scatter_41 (by decide) ?_
          exact r_X7_scatter_p45 C n _ _ _ _ _ _ _ h
theorem fX7_tellPoint_7 : Cond.fieldLink RX7 7 (TX7 0).1 (TX7 0).2.1 (TX7 0).2.2.1 ∈ wsX7_tellPoint := by decide +kernel
theorem inX7_tellPoint_X7 : ∀ x ∈ u_ws RX7 TX7 20, x ∈ wsX7_tellPoint := by decide +kernel
set_option maxRecDepth 100000 in
set_option maxHeartbeats 4000000 in
theorem r_X7_tellPoint {l : Launch} {G : GG} {A : Nat → Prop} {n : Nat} {w : Wd} {this : Nat} {a1 : Int32} {a2 : Int32} {z : Int32} (h : m_X7_tellPoint n w this a1 a2 = some z) : Con l yX7_tellPoint wsX7_tellPoint { frames := 1, cells := 0, slots := 0, locals := 22 } G A [.ref this, .int a1, .int a2] w (some (.int z)) w := by
  refine Con.of (own := RX7) (cc := cX7_tellPoint) (maxL := 3) (ret := (some .int)) rfl (by decide) rfl (Nat.le_of_ble_eq_true rfl) ?_
  intro p e s m args below meth c C
  show V p l e { frames := 1, cells := 0, slots := 0, locals := 22 } s m args below meth c G A 3 0 [(0, .ref this), (1, .int a1), (2, .int a2)] [] w (some (.int z)) w
  unfold m_X7_tellPoint at h
  refine v_iload_n C 2 dX7_tellPoint_0 rfl rfl ?_
  refine v_iconst C (v := 5) dX7_tellPoint_1 (by decide) ?_
  refine v_icmp_ne C (tgt := 12) dX7_tellPoint_2 (by decide) (fun q => ?_) (fun q => ?_)
  · have h := ite_f q h
    refine v_aload_n C 0 dX7_tellPoint_12 rfl rfl ?_
    obtain ⟨q1, e_q1, h⟩ := bnd h
    refine v_getf C (ci := 6) (k := 0) rfl inX7_tellPoint_X7 (by decide) fX7_tellPoint_7 dX7_tellPoint_13 (gfR_e e_q1) ?_
    refine v_iconst C (v := 5) dX7_tellPoint_16 (by decide) ?_
    refine v_iload_n C 1 dX7_tellPoint_17 rfl rfl ?_
    refine v_imul C dX7_tellPoint_18 ?_
    refine v_iload_n C 2 dX7_tellPoint_19 rfl rfl ?_
    refine v_iadd C dX7_tellPoint_20 ?_
    refine v_at (pc' := 21) rfl ?_
    obtain ⟨x2, e_x2, h⟩ := bnd h
    refine v_iald C dX7_tellPoint_21 e_x2 ?_
    obtain rfl := Option.some.inj h
    exact v_iret C dX7_tellPoint_22
  · have h := ite_t q h
    refine v_iload_n C 1 dX7_tellPoint_5 rfl rfl ?_
    obtain ⟨x3, e_x3, h⟩ := bnd h
    refine v_callSi C (av := [.int a1]) (rest := []) gX7_tellPoint_X7_heightOf rfl ⟨rfl, rfl⟩ hS_X7_heightOf ⟨(Nat.le_of_ble_eq_true rfl), (Nat.le_of_ble_eq_true rfl)⟩ (r_X7_heightOf (A := A) e_x3) rfl rfl (Nat.le_of_ble_eq_true rfl) dX7_tellPoint_6 ?_
    refine v_goto C (tgt := 22) dX7_tellPoint_9 (by decide) ?_
    obtain rfl := Option.some.inj h
    exact v_iret C dX7_tellPoint_22
theorem hV_X7_tellPoint : yX7_tellPoint.cls = RX7 ∧ yX7_tellPoint.cls ≠ "java/lang/invoke/MethodHandle" ∧ yX7_tellPoint.cls ≠ "java/lang/invoke/VarHandle" ∧ (parseMethodDescriptor yX7_tellPoint.desc).map (fun d => d.parameters.length) = some 2 := by decide +kernel
set_option maxRecDepth 100000 in
set_option maxHeartbeats 4000000 in
theorem r_X7_point {l : Launch} {G : GG} {A : Nat → Prop} {n : Nat} {w : Wd} {this : Nat} {a1 : Int32} {a2 : Int32} {z : (Int32 × Wd)} (h : m_X7_point n w this a1 a2 = some z) : Con l yX7_point wsX7_point { frames := 2, cells := 0, slots := 0, locals := 44 } G A [.ref this, .int a1, .int a2] w (some (.int z.1)) z.2 := by
  refine Con.of (own := RX7) (cc := cX7_point) (maxL := 3) (ret := (some .int)) rfl (by decide) rfl (Nat.le_of_ble_eq_true rfl) ?_
  intro p e s m args below meth c C
  show V p l e { frames := 2, cells := 0, slots := 0, locals := 44 } s m args below meth c G A 3 0 [(0, .ref this), (1, .int a1), (2, .int a2)] [] w (some (.int z.1)) z.2
  unfold m_X7_point at h
  refine v_aload_n C 0 dX7_point_0 rfl rfl ?_
  refine v_iload_n C 1 dX7_point_1 rfl rfl ?_
  refine v_callSi C (av := [.int a1]) (rest := [.ref this]) gX7_point_X7_isId rfl ⟨rfl, rfl⟩ hS_X7_isId ⟨(Nat.le_of_ble_eq_true rfl), (Nat.le_of_ble_eq_true rfl)⟩ (r_X7_isId (A := A) rfl) rfl rfl (Nat.le_of_ble_eq_true rfl) dX7_point_2 ?_
  refine v_if_ne C (tgt := 12) dX7_point_5 (by decide) (fun q => ?_) (fun q => ?_)
  · have h := ite_f q h
    refine v_iload_n C 2 dX7_point_12 rfl rfl ?_
    refine v_iconst C (v := 0) dX7_point_13 (by decide) ?_
    refine v_iconst C (v := 5) dX7_point_14 (by decide) ?_
    refine v_callSi C (av := [.int a2, .int 0, .int 5]) (rest := [.ref this]) gX7_point_X7_in rfl ⟨rfl, rfl⟩ hS_X7_in ⟨(Nat.le_of_ble_eq_true rfl), (Nat.le_of_ble_eq_true rfl)⟩ (r_X7_in (A := A) rfl) rfl rfl (Nat.le_of_ble_eq_true rfl) dX7_point_15 ?_
    refine v_if_eq C (tgt := 25) dX7_point_18 (by decide) (fun q => ?_) (fun q => ?_)
    · have h := ite_t q h
      refine v_iconst C (v := 2) dX7_point_25 (by decide) ?_
      obtain ⟨u1, e_u1, h⟩ := bnd h
      obtain ⟨z2, e_z2, h⟩ := bnd h
      refine v_callVi C (ci := 6) (av := [.int 2]) (rest := []) rfl gX7_point_X7_refused rfl ⟨rfl, rfl⟩ hV_X7_refused ⟨(Nat.le_of_ble_eq_true rfl), (Nat.le_of_ble_eq_true rfl)⟩ e_u1 (r_X7_refused (A := A) e_z2) rfl rfl (Nat.le_of_ble_eq_true rfl) dX7_point_26 ?_
      refine v_if_eq C (tgt := 36) dX7_point_29 (by decide) (fun q => ?_) (fun q => ?_)
      · have h := ite_t q h
        refine v_aload_n C 0 dX7_point_36 rfl rfl ?_
        refine v_iload_n C 1 dX7_point_37 rfl rfl ?_
        refine v_iload_n C 2 dX7_point_38 rfl rfl ?_
        obtain ⟨u3, e_u3, h⟩ := bnd h
        obtain ⟨x4, e_x4, h⟩ := bnd h
        refine v_callVi C (ci := 6) (av := [.int a1, .int a2]) (rest := []) rfl gX7_point_X7_tellPoint rfl ⟨rfl, rfl⟩ hV_X7_tellPoint ⟨(Nat.le_of_ble_eq_true rfl), (Nat.le_of_ble_eq_true rfl)⟩ e_u3 (r_X7_tellPoint (A := A) e_x4) rfl rfl (Nat.le_of_ble_eq_true rfl) dX7_point_39 ?_
        obtain rfl := Option.some.inj h
        exact v_iret C dX7_point_42
      · have h := ite_f q h
        refine v_iconst C (v := 0) dX7_point_32 (by decide) ?_
        refine v_goto C (tgt := 42) dX7_point_33 (by decide) ?_
        obtain rfl := Option.some.inj h
        exact v_iret C dX7_point_42
    · have h := ite_f q h
      refine v_iconst C (v := 0) dX7_point_21 (by decide) ?_
      refine v_goto C (tgt := 26) dX7_point_22 (by decide) ?_
      obtain ⟨u5, e_u5, h⟩ := bnd h
      obtain ⟨z6, e_z6, h⟩ := bnd h
      refine v_callVi C (ci := 6) (av := [.int 0]) (rest := []) rfl gX7_point_X7_refused rfl ⟨rfl, rfl⟩ hV_X7_refused ⟨(Nat.le_of_ble_eq_true rfl), (Nat.le_of_ble_eq_true rfl)⟩ e_u5 (r_X7_refused (A := A) e_z6) rfl rfl (Nat.le_of_ble_eq_true rfl) dX7_point_26 ?_
      refine v_if_eq C (tgt := 36) dX7_point_29 (by decide) (fun q => ?_) (fun q => ?_)
      · have h := ite_t q h
        refine v_aload_n C 0 dX7_point_36 rfl rfl ?_
        refine v_iload_n C 1 dX7_point_37 rfl rfl ?_
        refine v_iload_n C 2 dX7_point_38 rfl rfl ?_
        obtain ⟨u7, e_u7, h⟩ := bnd h
        obtain ⟨x8, e_x8, h⟩ := bnd h
        refine v_callVi C (ci := 6) (av := [.int a1, .int a2]) (rest := []) rfl gX7_point_X7_tellPoint rfl ⟨rfl, rfl⟩ hV_X7_tellPoint ⟨(Nat.le_of_ble_eq_true rfl), (Nat.le_of_ble_eq_true rfl)⟩ e_u7 (r_X7_tellPoint (A := A) e_x8) rfl rfl (Nat.le_of_ble_eq_true rfl) dX7_point_39 ?_
        obtain rfl := Option.some.inj h
        exact v_iret C dX7_point_42
      · have h := ite_f q h
        refine v_iconst C (v := 0) dX7_point_32 (by decide) ?_
        refine v_goto C (tgt := 42) dX7_point_33 (by decide) ?_
        obtain rfl := Option.some.inj h
        exact v_iret C dX7_point_42
  · have h := ite_t q h
    refine v_iconst C (v := 1) dX7_point_8 (by decide) ?_
    refine v_goto C (tgt := 26) dX7_point_9 (by decide) ?_
    obtain ⟨u9, e_u9, h⟩ := bnd h
    obtain ⟨z10, e_z10, h⟩ := bnd h
    refine v_callVi C (ci := 6) (av := [.int 1]) (rest := []) rfl gX7_point_X7_refused rfl ⟨rfl, rfl⟩ hV_X7_refused ⟨(Nat.le_of_ble_eq_true rfl), (Nat.le_of_ble_eq_true rfl)⟩ e_u9 (r_X7_refused (A := A) e_z10) rfl rfl (Nat.le_of_ble_eq_true rfl) dX7_point_26 ?_
    refine v_if_eq C (tgt := 36) dX7_point_29 (by decide) (fun q => ?_) (fun q => ?_)
    · have h := ite_t q h
      refine v_aload_n C 0 dX7_point_36 rfl rfl ?_
      refine v_iload_n C 1 dX7_point_37 rfl rfl ?_
      refine v_iload_n C 2 dX7_point_38 rfl rfl ?_
      obtain ⟨u11, e_u11, h⟩ := bnd h
      obtain ⟨x12, e_x12, h⟩ := bnd h
      refine v_callVi C (ci := 6) (av := [.int a1, .int a2]) (rest := []) rfl gX7_point_X7_tellPoint rfl ⟨rfl, rfl⟩ hV_X7_tellPoint ⟨(Nat.le_of_ble_eq_true rfl), (Nat.le_of_ble_eq_true rfl)⟩ e_u11 (r_X7_tellPoint (A := A) e_x12) rfl rfl (Nat.le_of_ble_eq_true rfl) dX7_point_39 ?_
      obtain rfl := Option.some.inj h
      exact v_iret C dX7_point_42
    · have h := ite_f q h
      refine v_iconst C (v := 0) dX7_point_32 (by decide) ?_
      refine v_goto C (tgt := 42) dX7_point_33 (by decide) ?_
      obtain rfl := Option.some.inj h
      exact v_iret C dX7_point_42
set_option maxRecDepth 100000 in
set_option maxHeartbeats 4000000 in
theorem r_X7_pointsOn_p4 {p : Program} {l : Launch} {e : Env} {s : State} {m : MethodId} {args : Array Value} {below : List Frame} {meth : Method} {c : Code} {G : GG} {A : Nat → Prop} (C : Cx p s m args meth c G A cX7_pointsOn 4 RX7 wsX7_pointsOn (some .int)) (n : Nat) {z : Int32} : ∀ (t : Nat), ∀ (w : Wd) (a0 : Nat) (a1 : Int32) (a2 : Int32) (a3 : Int32), m_X7_pointsOn_p4 n t w a0 a1 a2 a3 = some z → V p l e { frames := 2, cells := 0, slots := 0, locals := 44 } s m args below meth c G A 4 4 [(0, .ref a0), (1, .int a1), (2, .int a2), (3, .int a3)] [] w (some (.int z)) w := by
  intro t
  induction t with
  | zero =>
    intro w a0 a1 a2 a3 h
    rw [m_X7_pointsOn_p4] at h
    cases h
  | succ t ih =>
    intro w a0 a1 a2 a3 h
    rw [m_X7_pointsOn_p4] at h
    refine v_iload_n C 3 dX7_pointsOn_4 rfl rfl ?_
    refine v_bipush C (v := 24) dX7_pointsOn_5 (by decide) ?_
    refine v_icmp_ge C (tgt := 33) dX7_pointsOn_7 (by decide) (fun q => ?_) (fun q => ?_)
    · have h := ite_t q h
      refine v_iload_n C 2 dX7_pointsOn_33 rfl rfl ?_
      obtain rfl := Option.some.inj h
      exact v_iret C dX7_pointsOn_34
    · have h := ite_f q h
      refine v_iload_n C 2 dX7_pointsOn_10 rfl rfl ?_
      refine v_aload_n C 0 dX7_pointsOn_11 rfl rfl ?_
      refine v_iload_n C 3 dX7_pointsOn_12 rfl rfl ?_
      refine v_iload_n C 1 dX7_pointsOn_13 rfl rfl ?_
      obtain ⟨u1, e_u1, h⟩ := bnd h
      obtain ⟨x2, e_x2, h⟩ := bnd h
      refine v_callVi C (ci := 6) (av := [.int a3, .int a1]) (rest := [.int a2]) rfl gX7_pointsOn_X7_isOn rfl ⟨rfl, rfl⟩ hV_X7_isOn ⟨(Nat.le_of_ble_eq_true rfl), (Nat.le_of_ble_eq_true rfl)⟩ e_u1 (r_X7_isOn (A := A) e_x2) rfl rfl (Nat.le_of_ble_eq_true rfl) dX7_pointsOn_14 ?_
      refine v_if_eq C (tgt := 24) dX7_pointsOn_17 (by decide) (fun q => ?_) (fun q => ?_)
      · have h := ite_t q h
        refine v_iconst C (v := 0) dX7_pointsOn_24 (by decide) ?_
        refine v_iadd C dX7_pointsOn_25 ?_
        refine v_istore_n C (lv' := [(2, .int (a2 + 0)), (0, .ref a0), (1, .int a1), (3, .int a3)]) dX7_pointsOn_26 rfl (by decide) rfl ?_
        refine v_iinc C (k := 3) (v := (a3 + 1)) (lv' := [(3, .int (a3 + 1)), (2, .int (a2 + 0)), (0, .ref a0), (1, .int a1)]) dX7_pointsOn_27 rfl rfl (by decide) rfl ?_
        refine v_goto C (tgt := 4) dX7_pointsOn_30 (by decide) ?_
        refine v_sub [2, 3, 1, 0] rfl ?_
        exact ih _ _ _ _ _ h
      · have h := ite_f q h
        refine v_iconst C (v := 1) dX7_pointsOn_20 (by decide) ?_
        refine v_goto C (tgt := 25) dX7_pointsOn_21 (by decide) ?_
        refine v_iadd C dX7_pointsOn_25 ?_
        refine v_istore_n C (lv' := [(2, .int (a2 + 1)), (0, .ref a0), (1, .int a1), (3, .int a3)]) dX7_pointsOn_26 rfl (by decide) rfl ?_
        refine v_iinc C (k := 3) (v := (a3 + 1)) (lv' := [(3, .int (a3 + 1)), (2, .int (a2 + 1)), (0, .ref a0), (1, .int a1)]) dX7_pointsOn_27 rfl rfl (by decide) rfl ?_
        refine v_goto C (tgt := 4) dX7_pointsOn_30 (by decide) ?_
        refine v_sub [2, 3, 1, 0] rfl ?_
        exact ih _ _ _ _ _ h
set_option maxRecDepth 100000 in
set_option maxHeartbeats 4000000 in
theorem r_X7_pointsOn {l : Launch} {G : GG} {A : Nat → Prop} {n : Nat} {w : Wd} {this : Nat} {a1 : Int32} {z : Int32} (h : m_X7_pointsOn n w this a1 = some z) : Con l yX7_pointsOn wsX7_pointsOn { frames := 2, cells := 0, slots := 0, locals := 44 } G A [.ref this, .int a1] w (some (.int z)) w := by
  refine Con.of (own := RX7) (cc := cX7_pointsOn) (maxL := 4) (ret := (some .int)) rfl (by decide) rfl (Nat.le_of_ble_eq_true rfl) ?_
  intro p e s m args below meth c C
  show V p l e { frames := 2, cells := 0, slots := 0, locals := 44 } s m args below meth c G A 4 0 [(0, .ref this), (1, .int a1)] [] w (some (.int z)) w
  unfold m_X7_pointsOn at h
  refine v_iconst C (v := 0) dX7_pointsOn_0 (by decide) ?_
  refine v_istore_n C (lv' := [(2, .int 0), (0, .ref this), (1, .int a1)]) dX7_pointsOn_1 rfl (by decide) rfl ?_
  refine v_iconst C (v := 0) dX7_pointsOn_2 (by decide) ?_
  refine v_istore_n C (lv' := [(3, .int 0), (2, .int 0), (0, .ref this), (1, .int a1)]) dX7_pointsOn_3 rfl (by decide) rfl ?_
  refine v_sub [2, 3, 1, 0] rfl ?_
  exact r_X7_pointsOn_p4 C n n _ _ _ _ _ h
theorem hS_X7_holds : yX7_holds.cls ≠ "java/lang/invoke/MethodHandle" ∧ yX7_holds.cls ≠ "java/lang/invoke/VarHandle" ∧ (parseMethodDescriptor yX7_holds.desc).map (fun d => d.parameters.length) = some 2 := by decide +kernel
set_option maxRecDepth 100000 in
set_option maxHeartbeats 4000000 in
theorem r_X7_depthOf_p5 {p : Program} {l : Launch} {e : Env} {s : State} {m : MethodId} {args : Array Value} {below : List Frame} {meth : Method} {c : Code} {G : GG} {A : Nat → Prop} (C : Cx p s m args meth c G A cX7_depthOf 5 RX7 wsX7_depthOf (some .int)) (n : Nat) {z : Int32} : ∀ (t : Nat), ∀ (w : Wd) (a0 : Nat) (a1 : Int32) (a2 : Int32) (a3 : Int32) (a4 : Int32), m_X7_depthOf_p5 n t w a0 a1 a2 a3 a4 = some z → V p l e { frames := 2, cells := 0, slots := 0, locals := 41 } s m args below meth c G A 5 5 [(0, .ref a0), (1, .int a1), (2, .int a2), (3, .int a3), (4, .int a4)] [] w (some (.int z)) w := by
  intro t
  induction t with
  | zero =>
    intro w a0 a1 a2 a3 a4 h
    rw [m_X7_depthOf_p5] at h
    cases h
  | succ t ih =>
    intro w a0 a1 a2 a3 a4 h
    rw [m_X7_depthOf_p5] at h
    refine v_iload C 4 dX7_depthOf_5 rfl ?_
    refine v_iload_n C 2 dX7_depthOf_7 rfl rfl ?_
    refine v_icmp_ge C (tgt := 47) dX7_depthOf_8 (by decide) (fun q => ?_) (fun q => ?_)
    · have h := ite_t q h
      refine v_iload_n C 3 dX7_depthOf_47 rfl rfl ?_
      obtain rfl := Option.some.inj h
      exact v_iret C dX7_depthOf_48
    · have h := ite_f q h
      refine v_iload_n C 3 dX7_depthOf_11 rfl rfl ?_
      refine v_aload_n C 0 dX7_depthOf_12 rfl rfl ?_
      refine v_iload_n C 1 dX7_depthOf_13 rfl rfl ?_
      refine v_iload C 4 dX7_depthOf_14 rfl ?_
      obtain ⟨u1, e_u1, h⟩ := bnd h
      obtain ⟨x2, e_x2, h⟩ := bnd h
      refine v_callVi C (ci := 6) (av := [.int a1, .int a4]) (rest := [.int a3]) rfl gX7_depthOf_X7_nodeAt rfl ⟨rfl, rfl⟩ hV_X7_nodeAt ⟨(Nat.le_of_ble_eq_true rfl), (Nat.le_of_ble_eq_true rfl)⟩ e_u1 (r_X7_nodeAt (A := A) e_x2) rfl rfl (Nat.le_of_ble_eq_true rfl) dX7_depthOf_16 ?_
      refine v_aload_n C 0 dX7_depthOf_19 rfl rfl ?_
      refine v_iload_n C 1 dX7_depthOf_20 rfl rfl ?_
      refine v_at (pc' := 21) rfl ?_
      refine v_iload_n C 2 dX7_depthOf_21 rfl rfl ?_
      obtain ⟨u3, e_u3, h⟩ := bnd h
      obtain ⟨x4, e_x4, h⟩ := bnd h
      refine v_callVi C (ci := 6) (av := [.int a1, .int a2]) (rest := [.int x2, .int a3]) rfl gX7_depthOf_X7_nodeAt rfl ⟨rfl, rfl⟩ hV_X7_nodeAt ⟨(Nat.le_of_ble_eq_true rfl), (Nat.le_of_ble_eq_true rfl)⟩ e_u3 (r_X7_nodeAt (A := A) e_x4) rfl rfl (Nat.le_of_ble_eq_true rfl) dX7_depthOf_22 ?_
      refine v_callSi C (av := [.int x4]) (rest := [.int x2, .int a3]) gX7_depthOf_X7_firstOf rfl ⟨rfl, rfl⟩ hS_X7_firstOf ⟨(Nat.le_of_ble_eq_true rfl), (Nat.le_of_ble_eq_true rfl)⟩ (r_X7_firstOf (A := A) rfl) rfl rfl (Nat.le_of_ble_eq_true rfl) dX7_depthOf_25 ?_
      refine v_callSi C (av := [.int x2, .int (m_X7_firstOf x4)]) (rest := [.int a3]) gX7_depthOf_X7_holds rfl ⟨rfl, rfl⟩ hS_X7_holds ⟨(Nat.le_of_ble_eq_true rfl), (Nat.le_of_ble_eq_true rfl)⟩ (r_X7_holds (A := A) rfl) rfl rfl (Nat.le_of_ble_eq_true rfl) dX7_depthOf_28 ?_
      refine v_if_eq C (tgt := 38) dX7_depthOf_31 (by decide) (fun q => ?_) (fun q => ?_)
      · have h := ite_t q h
        refine v_iconst C (v := 0) dX7_depthOf_38 (by decide) ?_
        refine v_iadd C dX7_depthOf_39 ?_
        refine v_istore_n C (lv' := [(3, .int (a3 + 0)), (0, .ref a0), (1, .int a1), (2, .int a2), (4, .int a4)]) dX7_depthOf_40 rfl (by decide) rfl ?_
        refine v_iinc C (k := 4) (v := (a4 + 1)) (lv' := [(4, .int (a4 + 1)), (3, .int (a3 + 0)), (0, .ref a0), (1, .int a1), (2, .int a2)]) dX7_depthOf_41 rfl rfl (by decide) rfl ?_
        refine v_goto C (tgt := 5) dX7_depthOf_44 (by decide) ?_
        refine v_sub [2, 3, 4, 1, 0] rfl ?_
        exact ih _ _ _ _ _ _ h
      · have h := ite_f q h
        refine v_iconst C (v := 1) dX7_depthOf_34 (by decide) ?_
        refine v_goto C (tgt := 39) dX7_depthOf_35 (by decide) ?_
        refine v_iadd C dX7_depthOf_39 ?_
        refine v_istore_n C (lv' := [(3, .int (a3 + 1)), (0, .ref a0), (1, .int a1), (2, .int a2), (4, .int a4)]) dX7_depthOf_40 rfl (by decide) rfl ?_
        refine v_iinc C (k := 4) (v := (a4 + 1)) (lv' := [(4, .int (a4 + 1)), (3, .int (a3 + 1)), (0, .ref a0), (1, .int a1), (2, .int a2)]) dX7_depthOf_41 rfl rfl (by decide) rfl ?_
        refine v_goto C (tgt := 5) dX7_depthOf_44 (by decide) ?_
        refine v_sub [2, 3, 4, 1, 0] rfl ?_
        exact ih _ _ _ _ _ _ h
set_option maxRecDepth 100000 in
set_option maxHeartbeats 4000000 in
theorem r_X7_depthOf {l : Launch} {G : GG} {A : Nat → Prop} {n : Nat} {w : Wd} {this : Nat} {a1 : Int32} {a2 : Int32} {z : Int32} (h : m_X7_depthOf n w this a1 a2 = some z) : Con l yX7_depthOf wsX7_depthOf { frames := 2, cells := 0, slots := 0, locals := 41 } G A [.ref this, .int a1, .int a2] w (some (.int z)) w := by
  refine Con.of (own := RX7) (cc := cX7_depthOf) (maxL := 5) (ret := (some .int)) rfl (by decide) rfl (Nat.le_of_ble_eq_true rfl) ?_
  intro p e s m args below meth c C
  show V p l e { frames := 2, cells := 0, slots := 0, locals := 41 } s m args below meth c G A 5 0 [(0, .ref this), (1, .int a1), (2, .int a2)] [] w (some (.int z)) w
  unfold m_X7_depthOf at h
  refine v_iconst C (v := 0) dX7_depthOf_0 (by decide) ?_
  refine v_istore_n C (lv' := [(3, .int 0), (0, .ref this), (1, .int a1), (2, .int a2)]) dX7_depthOf_1 rfl (by decide) rfl ?_
  refine v_iconst C (v := 0) dX7_depthOf_2 (by decide) ?_
  refine v_istore C (lv' := [(4, .int 0), (3, .int 0), (0, .ref this), (1, .int a1), (2, .int a2)]) dX7_depthOf_3 (by decide) rfl ?_
  refine v_sub [2, 3, 4, 1, 0] rfl ?_
  exact r_X7_depthOf_p5 C n n _ _ _ _ _ _ h
theorem fX7_looksAt_175 : Cond.fieldLink RX7 175 (TX7 12).1 (TX7 12).2.1 (TX7 12).2.2.1 ∈ wsX7_looksAt := by decide +kernel
theorem inX7_looksAt_X7 : ∀ x ∈ u_ws RX7 TX7 20, x ∈ wsX7_looksAt := by decide +kernel
theorem fX7_looksAt_178 : Cond.fieldLink RX7 178 (TX7 13).1 (TX7 13).2.1 (TX7 13).2.2.1 ∈ wsX7_looksAt := by decide +kernel
theorem fX7_looksAt_181 : Cond.fieldLink RX7 181 (TX7 14).1 (TX7 14).2.1 (TX7 14).2.2.1 ∈ wsX7_looksAt := by decide +kernel
set_option maxRecDepth 100000 in
set_option maxHeartbeats 4000000 in
theorem r_X7_looksAt_p20 {p : Program} {l : Launch} {e : Env} {s : State} {m : MethodId} {args : Array Value} {below : List Frame} {meth : Method} {c : Code} {G : GG} {A : Nat → Prop} (C : Cx p s m args meth c G A cX7_looksAt 6 RX7 wsX7_looksAt none) (n : Nat) {z : Wd} : ∀ (t : Nat), ∀ (w : Wd) (a0 : Nat) (a1 : Int32) (a2 : Int32) (a3 : Int32) (a4 : Int32), m_X7_looksAt_p20 n t w a0 a1 a2 a3 a4 = some z → V p l e { frames := 2, cells := 0, slots := 0, locals := 44 } s m args below meth c G A 6 20 [(0, .ref a0), (1, .int a1), (2, .int a2), (3, .int a3), (4, .int a4)] [] w (none) z := by
  intro t
  induction t with
  | zero =>
    intro w a0 a1 a2 a3 a4 h
    rw [m_X7_looksAt_p20] at h
    cases h
  | succ t ih =>
    intro w a0 a1 a2 a3 a4 h
    rw [m_X7_looksAt_p20] at h
    refine v_iload C 4 dX7_looksAt_20 rfl ?_
    refine v_bipush C (v := 24) dX7_looksAt_22 (by decide) ?_
    refine v_icmp_ge C (tgt := 119) dX7_looksAt_24 (by decide) (fun q => ?_) (fun q => ?_)
    · have h := ite_t q h
      obtain rfl := Option.some.inj h
      exact v_vret C dX7_looksAt_119
    · have h := ite_f q h
      refine v_aload_n C 0 dX7_looksAt_27 rfl rfl ?_
      refine v_iload C 4 dX7_looksAt_28 rfl ?_
      obtain ⟨u1, e_u1, h⟩ := bnd h
      obtain ⟨x2, e_x2, h⟩ := bnd h
      refine v_callVi C (ci := 6) (av := [.int a4]) (rest := []) rfl gX7_looksAt_X7_placeOf rfl ⟨rfl, rfl⟩ hV_X7_placeOf ⟨(Nat.le_of_ble_eq_true rfl), (Nat.le_of_ble_eq_true rfl)⟩ e_u1 (r_X7_placeOf (A := A) e_x2) rfl rfl (Nat.le_of_ble_eq_true rfl) dX7_looksAt_30 ?_
      refine v_istore C (lv' := [(5, .int x2), (0, .ref a0), (1, .int a1), (2, .int a2), (3, .int a3), (4, .int a4)]) dX7_looksAt_33 (by decide) rfl ?_
      refine v_aload_n C 1 dX7_looksAt_35 rfl rfl ?_
      refine v_iload C 5 dX7_looksAt_36 rfl ?_
      refine v_iload_n C 2 dX7_looksAt_38 rfl rfl ?_
      refine v_at (pc' := 39) rfl ?_
      obtain ⟨u3, e_u3, h⟩ := bnd h
      obtain ⟨x4, e_x4, h⟩ := bnd h
      refine v_callVi C (ci := 6) (av := [.int a4, .int a1]) (rest := []) rfl gX7_looksAt_X7_isOn rfl ⟨rfl, rfl⟩ hV_X7_isOn ⟨(Nat.le_of_ble_eq_true rfl), (Nat.le_of_ble_eq_true rfl)⟩ e_u3 (r_X7_isOn (A := A) e_x4) rfl rfl (Nat.le_of_ble_eq_true rfl) dX7_looksAt_39 ?_
      refine v_if_eq C (tgt := 113) dX7_looksAt_42 (by decide) (fun q => ?_) (fun q => ?_)
      · have h := ite_t q h
        refine v_iinc C (k := 5) (v := (a4 + 1)) (lv' := [(4, .int (a4 + 1)), (5, .int x2), (0, .ref a0), (1, .int a1), (2, .int a2), (3, .int a3)]) dX7_looksAt_113 rfl rfl (by decide) rfl ?_
        refine v_goto C (tgt := 20) dX7_looksAt_116 (by decide) ?_
        refine v_sub [2, 3, 4, 5, 0] rfl ?_
        exact ih _ _ _ _ _ _ h
      · have h := ite_f q h
        refine v_iload C 0 dX7_looksAt_45 rfl ?_
        refine v_iconst C (v := 2) dX7_looksAt_47 (by decide) ?_
        refine v_iload_n C 4 dX7_looksAt_48 rfl rfl ?_
        refine v_imul C dX7_looksAt_49 ?_
        refine v_ishr C dX7_looksAt_50 ?_
        refine v_iload_n C 3 dX7_looksAt_51 rfl rfl ?_
        refine v_iconst C (v := 2) dX7_looksAt_52 (by decide) ?_
        refine v_at (pc' := 53) rfl ?_
        refine v_iload_n C 4 dX7_looksAt_53 rfl rfl ?_
        refine v_imul C dX7_looksAt_54 ?_
        refine v_ishr C dX7_looksAt_55 ?_
        refine v_icmp_ne C (tgt := 113) dX7_looksAt_56 (by decide) (fun q => ?_) (fun q => ?_)
        · have h := ite_f q h
          refine v_iinc C (k := 5) (v := (a4 + 1)) (lv' := [(4, .int (a4 + 1)), (5, .int x2), (0, .ref a0), (1, .int a1), (2, .int a2), (3, .int a3)]) dX7_looksAt_113 rfl rfl (by decide) rfl ?_
          refine v_goto C (tgt := 20) dX7_looksAt_116 (by decide) ?_
          refine v_sub [2, 3, 4, 5, 0] rfl ?_
          exact ih _ _ _ _ _ _ h
        · have h := ite_t q h
          refine v_aload_n C 1 dX7_looksAt_59 rfl rfl ?_
          refine v_dup C dX7_looksAt_60 rfl ?_
          obtain ⟨x5, e_x5, h⟩ := bnd h
          refine v_getf C (ci := 6) (k := 12) rfl inX7_looksAt_X7 (by decide) fX7_looksAt_175 dX7_looksAt_61 (gfI_e e_x5) ?_
          refine v_iconst C (v := 1) dX7_looksAt_64 (by decide) ?_
          refine v_iadd C dX7_looksAt_65 ?_
          obtain ⟨w6, e_w6, h⟩ := bnd h
          refine v_putf C (ci := 6) (k := 12) rfl inX7_looksAt_X7 tyX7_ok nmX7 (by decide) fX7_looksAt_175 rfl (tyX7_ok 12 (by decide)) rfl rfl dX7_looksAt_66 e_w6 ?_
          refine v_aload_n C 1 dX7_looksAt_69 rfl rfl ?_
          refine v_at (pc' := 70) rfl ?_
          refine v_iload C 0 dX7_looksAt_70 rfl ?_
          refine v_aload_n C 1 dX7_looksAt_72 rfl rfl ?_
          obtain ⟨x7, e_x7, h⟩ := bnd h
          refine v_getf C (ci := 6) (k := 13) rfl inX7_looksAt_X7 (by decide) fX7_looksAt_178 dX7_looksAt_73 (gfI_e e_x7) ?_
          refine v_icmp_ge C (tgt := 84) dX7_looksAt_76 (by decide) (fun q => ?_) (fun q => ?_)
          · have h := ite_t q h
            refine v_aload_n C 1 dX7_looksAt_84 rfl rfl ?_
            obtain ⟨x8, e_x8, h⟩ := bnd h
            refine v_getf C (ci := 6) (k := 13) rfl inX7_looksAt_X7 (by decide) fX7_looksAt_178 dX7_looksAt_85 (gfI_e e_x8) ?_
            obtain ⟨w9, e_w9, h⟩ := bnd h
            refine v_putf C (ci := 6) (k := 13) rfl inX7_looksAt_X7 tyX7_ok nmX7 (by decide) fX7_looksAt_178 rfl (tyX7_ok 13 (by decide)) rfl rfl dX7_looksAt_88 e_w9 ?_
            refine v_aload_n C 1 dX7_looksAt_91 rfl rfl ?_
            refine v_iload C 0 dX7_looksAt_92 rfl ?_
            refine v_aload_n C 1 dX7_looksAt_94 rfl rfl ?_
            obtain ⟨x10, e_x10, h⟩ := bnd h
            refine v_getf C (ci := 6) (k := 14) rfl inX7_looksAt_X7 (by decide) fX7_looksAt_181 dX7_looksAt_95 (gfI_e e_x10) ?_
            refine v_at (pc' := 98) rfl ?_
            refine v_icmp_le C (tgt := 106) dX7_looksAt_98 (by decide) (fun q => ?_) (fun q => ?_)
            · have h := ite_t q h
              refine v_aload_n C 1 dX7_looksAt_106 rfl rfl ?_
              obtain ⟨x11, e_x11, h⟩ := bnd h
              refine v_getf C (ci := 6) (k := 14) rfl inX7_looksAt_X7 (by decide) fX7_looksAt_181 dX7_looksAt_107 (gfI_e e_x11) ?_
              obtain ⟨w12, e_w12, h⟩ := bnd h
              refine v_putf C (ci := 6) (k := 14) rfl inX7_looksAt_X7 tyX7_ok nmX7 (by decide) fX7_looksAt_181 rfl (tyX7_ok 14 (by decide)) rfl rfl dX7_looksAt_110 e_w12 ?_
              refine v_iinc C (k := 5) (v := (a4 + 1)) (lv' := [(4, .int (a4 + 1)), (5, .int x2), (0, .ref a0), (1, .int a1), (2, .int a2), (3, .int a3)]) dX7_looksAt_113 rfl rfl (by decide) rfl ?_
              refine v_goto C (tgt := 20) dX7_looksAt_116 (by decide) ?_
              refine v_sub [2, 3, 4, 5, 0] rfl ?_
              exact ih _ _ _ _ _ _ h
            · have h := ite_f q h
              refine v_iload C 0 dX7_looksAt_101 rfl ?_
              refine v_goto C (tgt := 110) dX7_looksAt_103 (by decide) ?_
              obtain ⟨w13, e_w13, h⟩ := bnd h
              refine v_putf C (ci := 6) (k := 14) rfl inX7_looksAt_X7 tyX7_ok nmX7 (by decide) fX7_looksAt_181 rfl (tyX7_ok 14 (by decide)) rfl rfl dX7_looksAt_110 e_w13 ?_
              refine v_iinc C (k := 5) (v := (a4 + 1)) (lv' := [(4, .int (a4 + 1)), (5, .int x2), (0, .ref a0), (1, .int a1), (2, .int a2), (3, .int a3)]) dX7_looksAt_113 rfl rfl (by decide) rfl ?_
              refine v_goto C (tgt := 20) dX7_looksAt_116 (by decide) ?_
              refine v_sub [2, 3, 4, 5, 0] rfl ?_
              exact ih _ _ _ _ _ _ h
          · have h := ite_f q h
            refine v_iload C 0 dX7_looksAt_79 rfl ?_
            refine v_goto C (tgt := 88) dX7_looksAt_81 (by decide) ?_
            obtain ⟨w14, e_w14, h⟩ := bnd h
            refine v_putf C (ci := 6) (k := 13) rfl inX7_looksAt_X7 tyX7_ok nmX7 (by decide) fX7_looksAt_178 rfl (tyX7_ok 13 (by decide)) rfl rfl dX7_looksAt_88 e_w14 ?_
            refine v_aload_n C 1 dX7_looksAt_91 rfl rfl ?_
            refine v_iload C 0 dX7_looksAt_92 rfl ?_
            refine v_aload_n C 1 dX7_looksAt_94 rfl rfl ?_
            obtain ⟨x15, e_x15, h⟩ := bnd h
            refine v_getf C (ci := 6) (k := 14) rfl inX7_looksAt_X7 (by decide) fX7_looksAt_181 dX7_looksAt_95 (gfI_e e_x15) ?_
            refine v_at (pc' := 98) rfl ?_
            refine v_icmp_le C (tgt := 106) dX7_looksAt_98 (by decide) (fun q => ?_) (fun q => ?_)
            · have h := ite_t q h
              refine v_aload_n C 1 dX7_looksAt_106 rfl rfl ?_
              obtain ⟨x16, e_x16, h⟩ := bnd h
              refine v_getf C (ci := 6) (k := 14) rfl inX7_looksAt_X7 (by decide) fX7_looksAt_181 dX7_looksAt_107 (gfI_e e_x16) ?_
              obtain ⟨w17, e_w17, h⟩ := bnd h
              refine v_putf C (ci := 6) (k := 14) rfl inX7_looksAt_X7 tyX7_ok nmX7 (by decide) fX7_looksAt_181 rfl (tyX7_ok 14 (by decide)) rfl rfl dX7_looksAt_110 e_w17 ?_
              refine v_iinc C (k := 5) (v := (a4 + 1)) (lv' := [(4, .int (a4 + 1)), (5, .int x2), (0, .ref a0), (1, .int a1), (2, .int a2), (3, .int a3)]) dX7_looksAt_113 rfl rfl (by decide) rfl ?_
              refine v_goto C (tgt := 20) dX7_looksAt_116 (by decide) ?_
              refine v_sub [2, 3, 4, 5, 0] rfl ?_
              exact ih _ _ _ _ _ _ h
            · have h := ite_f q h
              refine v_iload C 0 dX7_looksAt_101 rfl ?_
              refine v_goto C (tgt := 110) dX7_looksAt_103 (by decide) ?_
              obtain ⟨w18, e_w18, h⟩ := bnd h
              refine v_putf C (ci := 6) (k := 14) rfl inX7_looksAt_X7 tyX7_ok nmX7 (by decide) fX7_looksAt_181 rfl (tyX7_ok 14 (by decide)) rfl rfl dX7_looksAt_110 e_w18 ?_
              refine v_iinc C (k := 5) (v := (a4 + 1)) (lv' := [(4, .int (a4 + 1)), (5, .int x2), (0, .ref a0), (1, .int a1), (2, .int a2), (3, .int a3)]) dX7_looksAt_113 rfl rfl (by decide) rfl ?_
              refine v_goto C (tgt := 20) dX7_looksAt_116 (by decide) ?_
              refine v_sub [2, 3, 4, 5, 0] rfl ?_
              exact ih _ _ _ _ _ _ h
set_option maxRecDepth 100000 in
set_option maxHeartbeats 4000000 in
theorem r_X7_looksAt {l : Launch} {G : GG} {A : Nat → Prop} {n : Nat} {w : Wd} {this : Nat} {a1 : Int32} {a2 : Int32} {a3 : Int32} {z : Wd} (h : m_X7_looksAt n w this a1 a2 a3 = some z) : Con l yX7_looksAt wsX7_looksAt { frames := 2, cells := 0, slots := 0, locals := 44 } G A [.ref this, .int a1, .int a2, .int a3] w (none) z := by
  refine Con.of (own := RX7) (cc := cX7_looksAt) (maxL := 6) (ret := none) rfl (by decide) rfl (Nat.le_of_ble_eq_true rfl) ?_
  intro p e s m args below meth c C
  show V p l e { frames := 2, cells := 0, slots := 0, locals := 44 } s m args below meth c G A 6 0 [(0, .ref this), (1, .int a1), (2, .int a2), (3, .int a3)] [] w (none) z
  unfold m_X7_looksAt at h
  refine v_aload_n C 0 dX7_looksAt_0 rfl rfl ?_
  refine v_iconst C (v := 0) dX7_looksAt_1 (by decide) ?_
  obtain ⟨w1, e_w1, h⟩ := bnd h
  refine v_putf C (ci := 6) (k := 12) rfl inX7_looksAt_X7 tyX7_ok nmX7 (by decide) fX7_looksAt_175 rfl (tyX7_ok 12 (by decide)) rfl rfl dX7_looksAt_2 e_w1 ?_
  refine v_aload_n C 0 dX7_looksAt_5 rfl rfl ?_
  refine v_sipush C (v := 4096) dX7_looksAt_6 (by decide) ?_
  obtain ⟨w2, e_w2, h⟩ := bnd h
  refine v_putf C (ci := 6) (k := 13) rfl inX7_looksAt_X7 tyX7_ok nmX7 (by decide) fX7_looksAt_178 rfl (tyX7_ok 13 (by decide)) rfl rfl dX7_looksAt_9 e_w2 ?_
  refine v_aload_n C 0 dX7_looksAt_12 rfl rfl ?_
  refine v_at (pc' := 13) rfl ?_
  refine v_iconst C (v := (-1)) dX7_looksAt_13 (by decide) ?_
  obtain ⟨w3, e_w3, h⟩ := bnd h
  refine v_putf C (ci := 6) (k := 14) rfl inX7_looksAt_X7 tyX7_ok nmX7 (by decide) fX7_looksAt_181 rfl (tyX7_ok 14 (by decide)) rfl rfl dX7_looksAt_14 e_w3 ?_
  refine v_iconst C (v := 0) dX7_looksAt_17 (by decide) ?_
  refine v_istore C (lv' := [(4, .int 0), (0, .ref this), (1, .int a1), (2, .int a2), (3, .int a3)]) dX7_looksAt_18 (by decide) rfl ?_
  refine v_sub [1, 2, 3, 4, 0] rfl ?_
  exact r_X7_looksAt_p20 C n n _ _ _ _ _ _ h
theorem hV_X7_looksAt : yX7_looksAt.cls = RX7 ∧ yX7_looksAt.cls ≠ "java/lang/invoke/MethodHandle" ∧ yX7_looksAt.cls ≠ "java/lang/invoke/VarHandle" ∧ (parseMethodDescriptor yX7_looksAt.desc).map (fun d => d.parameters.length) = some 3 := by decide +kernel
theorem fX7_childOf_175 : Cond.fieldLink RX7 175 (TX7 12).1 (TX7 12).2.1 (TX7 12).2.2.1 ∈ wsX7_childOf := by decide +kernel
theorem inX7_childOf_X7 : ∀ x ∈ u_ws RX7 TX7 20, x ∈ wsX7_childOf := by decide +kernel
theorem fX7_childOf_178 : Cond.fieldLink RX7 178 (TX7 13).1 (TX7 13).2.1 (TX7 13).2.2.1 ∈ wsX7_childOf := by decide +kernel
theorem fX7_childOf_181 : Cond.fieldLink RX7 181 (TX7 14).1 (TX7 14).2.1 (TX7 14).2.2.1 ∈ wsX7_childOf := by decide +kernel
theorem cX7_childOf_187 : Cond.constant RX7 187 (100000) ∈ wsX7_childOf := by decide +kernel
set_option maxRecDepth 100000 in
set_option maxHeartbeats 4000000 in
theorem r_X7_childOf {l : Launch} {G : GG} {A : Nat → Prop} {n : Nat} {w : Wd} {this : Nat} {a1 : Int32} {a2 : Int32} {a3 : Int32} {z : (Int32 × Wd)} (h : m_X7_childOf n w this a1 a2 a3 = some z) : Con l yX7_childOf wsX7_childOf { frames := 3, cells := 0, slots := 0, locals := 69 } G A [.ref this, .int a1, .int a2, .int a3] w (some (.int z.1)) z.2 := by
  refine Con.of (own := RX7) (cc := cX7_childOf) (maxL := 6) (ret := (some .int)) rfl (by decide) rfl (Nat.le_of_ble_eq_true rfl) ?_
  intro p e s m args below meth c C
  show V p l e { frames := 3, cells := 0, slots := 0, locals := 69 } s m args below meth c G A 6 0 [(0, .ref this), (1, .int a1), (2, .int a2), (3, .int a3)] [] w (some (.int z.1)) z.2
  unfold m_X7_childOf at h
  refine v_iload_n C 2 dX7_childOf_0 rfl rfl ?_
  refine v_callSi C (av := [.int a2]) (rest := []) gX7_childOf_X7_span rfl ⟨rfl, rfl⟩ hS_X7_span ⟨(Nat.le_of_ble_eq_true rfl), (Nat.le_of_ble_eq_true rfl)⟩ (r_X7_span (A := A) rfl) rfl rfl (Nat.le_of_ble_eq_true rfl) dX7_childOf_1 ?_
  refine v_iconst C (v := 1) dX7_childOf_4 (by decide) ?_
  refine v_isub C dX7_childOf_5 ?_
  refine v_istore C (lv' := [(4, .int ((m_X7_span a2) - 1)), (0, .ref this), (1, .int a1), (2, .int a2), (3, .int a3)]) dX7_childOf_6 (by decide) rfl ?_
  refine v_aload_n C 1 dX7_childOf_8 rfl rfl ?_
  refine v_iload_n C 2 dX7_childOf_9 rfl rfl ?_
  refine v_at (pc' := 10) rfl ?_
  refine v_iload_n C 3 dX7_childOf_10 rfl rfl ?_
  refine v_callSi C (av := [.int a2]) (rest := [.int a1, .ref this]) gX7_childOf_X7_firstOf rfl ⟨rfl, rfl⟩ hS_X7_firstOf ⟨(Nat.le_of_ble_eq_true rfl), (Nat.le_of_ble_eq_true rfl)⟩ (r_X7_firstOf (A := A) rfl) rfl rfl (Nat.le_of_ble_eq_true rfl) dX7_childOf_11 ?_
  refine v_iload_n C 4 dX7_childOf_14 rfl rfl ?_
  refine v_iconst C (v := 2) dX7_childOf_15 (by decide) ?_
  refine v_iload C 0 dX7_childOf_16 rfl ?_
  refine v_imul C dX7_childOf_18 ?_
  refine v_ishl C dX7_childOf_19 ?_
  refine v_iadd C dX7_childOf_20 ?_
  refine v_at (pc' := 21) rfl ?_
  refine v_iload C 0 dX7_childOf_21 rfl ?_
  obtain ⟨u1, e_u1, h⟩ := bnd h
  obtain ⟨z2, e_z2, h⟩ := bnd h
  refine v_callVv C (ci := 6) (av := [.int a1, .int ((m_X7_firstOf a2) + (a3 <<< ((2 * ((m_X7_span a2) - 1)) &&& 31 : Int32))), .int ((m_X7_span a2) - 1)]) (rest := []) rfl gX7_childOf_X7_looksAt rfl ⟨rfl, rfl⟩ hV_X7_looksAt ⟨(Nat.le_of_ble_eq_true rfl), (Nat.le_of_ble_eq_true rfl)⟩ e_u1 (r_X7_looksAt (A := A) e_z2) rfl rfl (Nat.le_of_ble_eq_true rfl) dX7_childOf_23 ?_
  refine v_aload_n C 1 dX7_childOf_26 rfl rfl ?_
  obtain ⟨x3, e_x3, h⟩ := bnd h
  refine v_getf C (ci := 6) (k := 12) rfl inX7_childOf_X7 (by decide) fX7_childOf_175 dX7_childOf_27 (gfI_e e_x3) ?_
  refine v_if_ne C (tgt := 35) dX7_childOf_30 (by decide) (fun q => ?_) (fun q => ?_)
  · have h := ite_f q h
    refine v_aload_n C 1 dX7_childOf_35 rfl rfl ?_
    obtain ⟨x4, e_x4, h⟩ := bnd h
    refine v_getf C (ci := 6) (k := 13) rfl inX7_childOf_X7 (by decide) fX7_childOf_178 dX7_childOf_36 (gfI_e e_x4) ?_
    refine v_aload_n C 1 dX7_childOf_39 rfl rfl ?_
    obtain ⟨x5, e_x5, h⟩ := bnd h
    refine v_getf C (ci := 6) (k := 14) rfl inX7_childOf_X7 (by decide) fX7_childOf_181 dX7_childOf_40 (gfI_e e_x5) ?_
    refine v_icmp_ne C (tgt := 54) dX7_childOf_43 (by decide) (fun q => ?_) (fun q => ?_)
    · have h := ite_f q h
      refine v_aload_n C 1 dX7_childOf_54 rfl rfl ?_
      obtain ⟨x6, e_x6, h⟩ := bnd h
      refine v_getf C (ci := 6) (k := 13) rfl inX7_childOf_X7 (by decide) fX7_childOf_178 dX7_childOf_55 (gfI_e e_x6) ?_
      refine v_aload_n C 1 dX7_childOf_58 rfl rfl ?_
      obtain ⟨x7, e_x7, h⟩ := bnd h
      refine v_getf C (ci := 6) (k := 14) rfl inX7_childOf_X7 (by decide) fX7_childOf_181 dX7_childOf_59 (gfI_e e_x7) ?_
      obtain ⟨x8, e_x8, h⟩ := bnd h
      refine v_callSi C (av := [.int x6, .int x7]) (rest := []) gX7_childOf_X7_spanOf rfl ⟨rfl, rfl⟩ hS_X7_spanOf ⟨(Nat.le_of_ble_eq_true rfl), (Nat.le_of_ble_eq_true rfl)⟩ (r_X7_spanOf (A := A) e_x8) rfl rfl (Nat.le_of_ble_eq_true rfl) dX7_childOf_62 ?_
      refine v_istore C (lv' := [(5, .int x8), (4, .int ((m_X7_span a2) - 1)), (0, .ref this), (1, .int a1), (2, .int a2), (3, .int a3)]) dX7_childOf_65 (by decide) rfl ?_
      refine v_bipush C (v := 8) dX7_childOf_67 (by decide) ?_
      refine v_at (pc' := 69) rfl ?_
      refine v_aload_n C 2 dX7_childOf_69 rfl rfl ?_
      obtain ⟨x9, e_x9, h⟩ := bnd h
      refine v_getf C (ci := 6) (k := 13) rfl inX7_childOf_X7 (by decide) fX7_childOf_178 dX7_childOf_70 (gfI_e e_x9) ?_
      refine v_iconst C (v := 2) dX7_childOf_73 (by decide) ?_
      refine v_iload C 0 dX7_childOf_74 rfl ?_
      refine v_imul C dX7_childOf_76 ?_
      refine v_ishr C dX7_childOf_77 ?_
      refine v_iconst C (v := 2) dX7_childOf_78 (by decide) ?_
      refine v_iload C 0 dX7_childOf_79 rfl ?_
      refine v_at (pc' := 81) rfl ?_
      refine v_imul C dX7_childOf_81 ?_
      refine v_ishl C dX7_childOf_82 ?_
      refine v_imul C dX7_childOf_83 ?_
      refine v_bipush C (v := 6) dX7_childOf_84 (by decide) ?_
      refine v_iadd C dX7_childOf_86 ?_
      refine v_iload C 0 dX7_childOf_87 rfl ?_
      refine v_isub C dX7_childOf_89 ?_
      obtain rfl := Option.some.inj h
      exact v_iret C dX7_childOf_90
    · have h := ite_t q h
      refine v_ldc C dX7_childOf_46 cX7_childOf_187 ?_
      refine v_aload_n C 1 dX7_childOf_48 rfl rfl ?_
      obtain ⟨x10, e_x10, h⟩ := bnd h
      refine v_getf C (ci := 6) (k := 13) rfl inX7_childOf_X7 (by decide) fX7_childOf_178 dX7_childOf_49 (gfI_e e_x10) ?_
      refine v_iadd C dX7_childOf_52 ?_
      obtain rfl := Option.some.inj h
      exact v_iret C dX7_childOf_53
  · have h := ite_t q h
    refine v_iconst C (v := (-1)) dX7_childOf_33 (by decide) ?_
    obtain rfl := Option.some.inj h
    exact v_iret C dX7_childOf_34
theorem hV_X7_childOf : yX7_childOf.cls = RX7 ∧ yX7_childOf.cls ≠ "java/lang/invoke/MethodHandle" ∧ yX7_childOf.cls ≠ "java/lang/invoke/VarHandle" ∧ (parseMethodDescriptor yX7_childOf.desc).map (fun d => d.parameters.length) = some 3 := by decide +kernel
theorem cX7_tellChild_187 : Cond.constant RX7 187 (100000) ∈ wsX7_tellChild := by decide +kernel
theorem hS_X7_yOf : yX7_yOf.cls ≠ "java/lang/invoke/MethodHandle" ∧ yX7_yOf.cls ≠ "java/lang/invoke/VarHandle" ∧ (parseMethodDescriptor yX7_yOf.desc).map (fun d => d.parameters.length) = some 1 := by decide +kernel
theorem hV_X7_indexOf : yX7_indexOf.cls = RX7 ∧ yX7_indexOf.cls ≠ "java/lang/invoke/MethodHandle" ∧ yX7_indexOf.cls ≠ "java/lang/invoke/VarHandle" ∧ (parseMethodDescriptor yX7_indexOf.desc).map (fun d => d.parameters.length) = some 2 := by decide +kernel
set_option maxRecDepth 100000 in
set_option maxHeartbeats 4000000 in
theorem r_X7_tellChild {l : Launch} {G : GG} {A : Nat → Prop} {n : Nat} {w : Wd} {this : Nat} {a1 : Int32} {a2 : Int32} {a3 : Int32} {z : (Int32 × Wd)} (h : m_X7_tellChild n w this a1 a2 a3 = some z) : Con l yX7_tellChild wsX7_tellChild { frames := 4, cells := 0, slots := 0, locals := 94 } G A [.ref this, .int a1, .int a2, .int a3] w (some (.int z.1)) z.2 := by
  refine Con.of (own := RX7) (cc := cX7_tellChild) (maxL := 5) (ret := (some .int)) rfl (by decide) rfl (Nat.le_of_ble_eq_true rfl) ?_
  intro p e s m args below meth c C
  show V p l e { frames := 4, cells := 0, slots := 0, locals := 94 } s m args below meth c G A 5 0 [(0, .ref this), (1, .int a1), (2, .int a2), (3, .int a3)] [] w (some (.int z.1)) z.2
  unfold m_X7_tellChild at h
  refine v_aload_n C 0 dX7_tellChild_0 rfl rfl ?_
  refine v_iload_n C 1 dX7_tellChild_1 rfl rfl ?_
  refine v_aload_n C 0 dX7_tellChild_2 rfl rfl ?_
  refine v_iload_n C 1 dX7_tellChild_3 rfl rfl ?_
  refine v_iload_n C 2 dX7_tellChild_4 rfl rfl ?_
  obtain ⟨u1, e_u1, h⟩ := bnd h
  obtain ⟨x2, e_x2, h⟩ := bnd h
  refine v_callVi C (ci := 6) (av := [.int a1, .int a2]) (rest := [.int a1, .ref this]) rfl gX7_tellChild_X7_nodeAt rfl ⟨rfl, rfl⟩ hV_X7_nodeAt ⟨(Nat.le_of_ble_eq_true rfl), (Nat.le_of_ble_eq_true rfl)⟩ e_u1 (r_X7_nodeAt (A := A) e_x2) rfl rfl (Nat.le_of_ble_eq_true rfl) dX7_tellChild_5 ?_
  refine v_iload_n C 3 dX7_tellChild_8 rfl rfl ?_
  refine v_at (pc' := 9) rfl ?_
  obtain ⟨u3, e_u3, h⟩ := bnd h
  obtain ⟨z4, e_z4, h⟩ := bnd h
  refine v_callVi C (ci := 6) (av := [.int a1, .int x2, .int a3]) (rest := []) rfl gX7_tellChild_X7_childOf rfl ⟨rfl, rfl⟩ hV_X7_childOf ⟨(Nat.le_of_ble_eq_true rfl), (Nat.le_of_ble_eq_true rfl)⟩ e_u3 (r_X7_childOf (A := A) e_z4) rfl rfl (Nat.le_of_ble_eq_true rfl) dX7_tellChild_9 ?_
  refine v_istore C (lv' := [(4, .int z4.1), (0, .ref this), (1, .int a1), (2, .int a2), (3, .int a3)]) dX7_tellChild_12 (by decide) rfl ?_
  refine v_iload C 0 dX7_tellChild_14 rfl ?_
  refine v_iconst C (v := (-1)) dX7_tellChild_16 (by decide) ?_
  refine v_icmp_ne C (tgt := 22) dX7_tellChild_17 (by decide) (fun q => ?_) (fun q => ?_)
  · have h := ite_f q h
    refine v_iload C 0 dX7_tellChild_22 rfl ?_
    refine v_ldc C dX7_tellChild_24 cX7_tellChild_187 ?_
    refine v_icmp_ge C (tgt := 39) dX7_tellChild_26 (by decide) (fun q => ?_) (fun q => ?_)
    · have h := ite_t q h
      refine v_sipush C (v := 1000) dX7_tellChild_39 (by decide) ?_
      refine v_bipush C (v := 64) dX7_tellChild_42 (by decide) ?_
      refine v_iload C 0 dX7_tellChild_44 rfl ?_
      refine v_ldc C dX7_tellChild_46 cX7_tellChild_187 ?_
      refine v_isub C dX7_tellChild_48 ?_
      obtain ⟨x5, e_x5, h⟩ := bnd h
      refine v_callSi C (av := [.int (z4.1 - 100000)]) (rest := [.int 64, .int 1000]) gX7_tellChild_X7_yOf rfl ⟨rfl, rfl⟩ hS_X7_yOf ⟨(Nat.le_of_ble_eq_true rfl), (Nat.le_of_ble_eq_true rfl)⟩ (r_X7_yOf (A := A) e_x5) rfl rfl (Nat.le_of_ble_eq_true rfl) dX7_tellChild_49 ?_
      refine v_imul C dX7_tellChild_52 ?_
      refine v_at (pc' := 53) rfl ?_
      refine v_iadd C dX7_tellChild_53 ?_
      refine v_iload C 0 dX7_tellChild_54 rfl ?_
      refine v_ldc C dX7_tellChild_56 cX7_tellChild_187 ?_
      refine v_isub C dX7_tellChild_58 ?_
      obtain ⟨x6, e_x6, h⟩ := bnd h
      refine v_callSi C (av := [.int (z4.1 - 100000)]) (rest := [.int (1000 + (64 * x5))]) gX7_tellChild_X7_xOf rfl ⟨rfl, rfl⟩ hS_X7_xOf ⟨(Nat.le_of_ble_eq_true rfl), (Nat.le_of_ble_eq_true rfl)⟩ (r_X7_xOf (A := A) e_x6) rfl rfl (Nat.le_of_ble_eq_true rfl) dX7_tellChild_59 ?_
      refine v_iadd C dX7_tellChild_62 ?_
      obtain rfl := Option.some.inj h
      exact v_iret C dX7_tellChild_63
    · have h := ite_f q h
      refine v_aload_n C 1 dX7_tellChild_29 rfl rfl ?_
      refine v_iload_n C 2 dX7_tellChild_30 rfl rfl ?_
      refine v_iload C 0 dX7_tellChild_31 rfl ?_
      obtain ⟨u7, e_u7, h⟩ := bnd h
      obtain ⟨x8, e_x8, h⟩ := bnd h
      refine v_callVi C (ci := 6) (av := [.int a1, .int z4.1]) (rest := []) rfl gX7_tellChild_X7_indexOf rfl ⟨rfl, rfl⟩ hV_X7_indexOf ⟨(Nat.le_of_ble_eq_true rfl), (Nat.le_of_ble_eq_true rfl)⟩ e_u7 (r_X7_indexOf (A := A) e_x8) rfl rfl (Nat.le_of_ble_eq_true rfl) dX7_tellChild_33 ?_
      refine v_goto C (tgt := 63) dX7_tellChild_36 (by decide) ?_
      obtain rfl := Option.some.inj h
      exact v_iret C dX7_tellChild_63
  · have h := ite_t q h
    refine v_iconst C (v := (-1)) dX7_tellChild_20 (by decide) ?_
    obtain rfl := Option.some.inj h
    exact v_iret C dX7_tellChild_21
set_option maxRecDepth 100000 in
set_option maxHeartbeats 4000000 in
theorem r_X7_different_p69 {p : Program} {l : Launch} {e : Env} {s : State} {m : MethodId} {args : Array Value} {below : List Frame} {meth : Method} {c : Code} {G : GG} {A : Nat → Prop} (C : Cx p s m args meth c G A cX7_different 6 RX7 wsX7_different (some .int)) (n : Nat) {k4 : Wd → Nat → Int32 → Int32 → Int32 → Option Int32} {z : Int32} (H4 : ∀ (w : Wd) (b0 : Nat) (b1 : Int32) (b2 : Int32) (b3 : Int32), k4 w b0 b1 b2 b3 = some z → V p l e { frames := 2, cells := 0, slots := 0, locals := 44 } s m args below meth c G A 6 4 [(0, .ref b0), (1, .int b1), (2, .int b2), (3, .int b3)] [] w (some (.int z)) w) : ∀ (w : Wd) (a0 : Nat) (a1 : Int32) (a2 : Int32) (a3 : Int32) (a4 : Int32), m_X7_different_p69 n k4 w a0 a1 a2 a3 a4 = some z → V p l e { frames := 2, cells := 0, slots := 0, locals := 44 } s m args below meth c G A 6 69 [(0, .ref a0), (1, .int a1), (2, .int a2), (3, .int a3), (4, .int a4)] [] w (some (.int z)) w := by
  intro w a0 a1 a2 a3 a4 h
  unfold m_X7_different_p69 at h
  refine v_iload_n C 2 dX7_different_69 rfl rfl ?_
  refine v_iload C 4 dX7_different_70 rfl ?_
  refine v_if_eq C (tgt := 79) dX7_different_72 (by decide) (fun q => ?_) (fun q => ?_)
  · have h := ite_t q h
    refine v_iconst C (v := 0) dX7_different_79 (by decide) ?_
    refine v_iadd C dX7_different_80 ?_
    refine v_istore_n C (lv' := [(2, .int (a2 + 0)), (0, .ref a0), (1, .int a1), (3, .int a3), (4, .int a4)]) dX7_different_81 rfl (by decide) rfl ?_
    refine v_iinc C (k := 3) (v := (a3 + 1)) (lv' := [(3, .int (a3 + 1)), (2, .int (a2 + 0)), (0, .ref a0), (1, .int a1), (4, .int a4)]) dX7_different_82 rfl rfl (by decide) rfl ?_
    refine v_goto C (tgt := 4) dX7_different_85 (by decide) ?_
    refine v_sub [2, 3, 1, 0] rfl ?_
    exact H4 _ _ _ _ _ h
  · have h := ite_f q h
    refine v_iconst C (v := 1) dX7_different_75 (by decide) ?_
    refine v_goto C (tgt := 80) dX7_different_76 (by decide) ?_
    refine v_iadd C dX7_different_80 ?_
    refine v_istore_n C (lv' := [(2, .int (a2 + 1)), (0, .ref a0), (1, .int a1), (3, .int a3), (4, .int a4)]) dX7_different_81 rfl (by decide) rfl ?_
    refine v_iinc C (k := 3) (v := (a3 + 1)) (lv' := [(3, .int (a3 + 1)), (2, .int (a2 + 1)), (0, .ref a0), (1, .int a1), (4, .int a4)]) dX7_different_82 rfl rfl (by decide) rfl ?_
    refine v_goto C (tgt := 4) dX7_different_85 (by decide) ?_
    refine v_sub [2, 3, 1, 0] rfl ?_
    exact H4 _ _ _ _ _ h
set_option maxRecDepth 100000 in
set_option maxHeartbeats 4000000 in
theorem r_X7_different_p21 {p : Program} {l : Launch} {e : Env} {s : State} {m : MethodId} {args : Array Value} {below : List Frame} {meth : Method} {c : Code} {G : GG} {A : Nat → Prop} (C : Cx p s m args meth c G A cX7_different 6 RX7 wsX7_different (some .int)) (n : Nat) {k4 : Wd → Nat → Int32 → Int32 → Int32 → Option Int32} {z : Int32} (H4 : ∀ (w : Wd) (b0 : Nat) (b1 : Int32) (b2 : Int32) (b3 : Int32), k4 w b0 b1 b2 b3 = some z → V p l e { frames := 2, cells := 0, slots := 0, locals := 44 } s m args below meth c G A 6 4 [(0, .ref b0), (1, .int b1), (2, .int b2), (3, .int b3)] [] w (some (.int z)) w) : ∀ (t : Nat), ∀ (w : Wd) (a0 : Nat) (a1 : Int32) (a2 : Int32) (a3 : Int32) (a4 : Int32) (a5 : Int32), m_X7_different_p21 n k4 t w a0 a1 a2 a3 a4 a5 = some z → V p l e { frames := 2, cells := 0, slots := 0, locals := 44 } s m args below meth c G A 6 21 [(0, .ref a0), (1, .int a1), (2, .int a2), (3, .int a3), (4, .int a4), (5, .int a5)] [] w (some (.int z)) w := by
  intro t
  induction t with
  | zero =>
    intro w a0 a1 a2 a3 a4 a5 h
    rw [m_X7_different_p21] at h
    cases h
  | succ t ih =>
    intro w a0 a1 a2 a3 a4 a5 h
    rw [m_X7_different_p21] at h
    refine v_iload C 5 dX7_different_21 rfl ?_
    refine v_iload_n C 3 dX7_different_23 rfl rfl ?_
    refine v_icmp_ge C (tgt := 69) dX7_different_24 (by decide) (fun q => ?_) (fun q => ?_)
    · have h := ite_t q h
      refine v_sub [0, 1, 2, 3, 4] rfl ?_
      exact r_X7_different_p69 C n H4 _ _ _ _ _ _ h
    · have h := ite_f q h
      refine v_iload C 4 dX7_different_27 rfl ?_
      refine v_if_eq C (tgt := 69) dX7_different_29 (by decide) (fun q => ?_) (fun q => ?_)
      · have h := ite_t q h
        refine v_sub [0, 1, 2, 3, 4] rfl ?_
        exact r_X7_different_p69 C n H4 _ _ _ _ _ _ h
      · have h := ite_f q h
        refine v_aload_n C 0 dX7_different_32 rfl rfl ?_
        refine v_iload C 5 dX7_different_33 rfl ?_
        refine v_iload_n C 1 dX7_different_35 rfl rfl ?_
        obtain ⟨u1, e_u1, h⟩ := bnd h
        obtain ⟨x2, e_x2, h⟩ := bnd h
        refine v_callVi C (ci := 6) (av := [.int a5, .int a1]) (rest := []) rfl gX7_different_X7_isOn rfl ⟨rfl, rfl⟩ hV_X7_isOn ⟨(Nat.le_of_ble_eq_true rfl), (Nat.le_of_ble_eq_true rfl)⟩ e_u1 (r_X7_isOn (A := A) e_x2) rfl rfl (Nat.le_of_ble_eq_true rfl) dX7_different_36 ?_
        refine v_if_eq C (tgt := 56) dX7_different_39 (by decide) (fun q => ?_) (fun q => ?_)
        · have h := ite_t q h
          refine v_iconst C (v := 1) dX7_different_56 (by decide) ?_
          refine v_goto C (tgt := 61) dX7_different_57 (by decide) ?_
          refine v_istore C (lv' := [(4, .int 1), (0, .ref a0), (1, .int a1), (2, .int a2), (3, .int a3), (5, .int a5)]) dX7_different_61 (by decide) rfl ?_
          refine v_iinc C (k := 5) (v := (a5 + 1)) (lv' := [(5, .int (a5 + 1)), (4, .int 1), (0, .ref a0), (1, .int a1), (2, .int a2), (3, .int a3)]) dX7_different_63 rfl rfl (by decide) rfl ?_
          refine v_goto C (tgt := 21) dX7_different_66 (by decide) ?_
          refine v_sub [2, 3, 4, 5, 1, 0] rfl ?_
          exact ih _ _ _ _ _ _ _ h
        · have h := ite_f q h
          refine v_aload_n C 0 dX7_different_42 rfl rfl ?_
          refine v_iload_n C 3 dX7_different_43 rfl rfl ?_
          obtain ⟨u3, e_u3, h⟩ := bnd h
          obtain ⟨x4, e_x4, h⟩ := bnd h
          refine v_callVi C (ci := 6) (av := [.int a3]) (rest := []) rfl gX7_different_X7_placeOf rfl ⟨rfl, rfl⟩ hV_X7_placeOf ⟨(Nat.le_of_ble_eq_true rfl), (Nat.le_of_ble_eq_true rfl)⟩ e_u3 (r_X7_placeOf (A := A) e_x4) rfl rfl (Nat.le_of_ble_eq_true rfl) dX7_different_44 ?_
          refine v_aload_n C 0 dX7_different_47 rfl rfl ?_
          refine v_iload C 5 dX7_different_48 rfl ?_
          obtain ⟨u5, e_u5, h⟩ := bnd h
          obtain ⟨x6, e_x6, h⟩ := bnd h
          refine v_callVi C (ci := 6) (av := [.int a5]) (rest := [.int x4]) rfl gX7_different_X7_placeOf rfl ⟨rfl, rfl⟩ hV_X7_placeOf ⟨(Nat.le_of_ble_eq_true rfl), (Nat.le_of_ble_eq_true rfl)⟩ e_u5 (r_X7_placeOf (A := A) e_x6) rfl rfl (Nat.le_of_ble_eq_true rfl) dX7_different_50 ?_
          refine v_icmp_eq C (tgt := 60) dX7_different_53 (by decide) (fun q => ?_) (fun q => ?_)
          · have h := ite_t q h
            refine v_iconst C (v := 0) dX7_different_60 (by decide) ?_
            refine v_istore C (lv' := [(4, .int 0), (0, .ref a0), (1, .int a1), (2, .int a2), (3, .int a3), (5, .int a5)]) dX7_different_61 (by decide) rfl ?_
            refine v_iinc C (k := 5) (v := (a5 + 1)) (lv' := [(5, .int (a5 + 1)), (4, .int 0), (0, .ref a0), (1, .int a1), (2, .int a2), (3, .int a3)]) dX7_different_63 rfl rfl (by decide) rfl ?_
            refine v_goto C (tgt := 21) dX7_different_66 (by decide) ?_
            refine v_sub [2, 3, 4, 5, 1, 0] rfl ?_
            exact ih _ _ _ _ _ _ _ h
          · have h := ite_f q h
            refine v_iconst C (v := 1) dX7_different_56 (by decide) ?_
            refine v_goto C (tgt := 61) dX7_different_57 (by decide) ?_
            refine v_istore C (lv' := [(4, .int 1), (0, .ref a0), (1, .int a1), (2, .int a2), (3, .int a3), (5, .int a5)]) dX7_different_61 (by decide) rfl ?_
            refine v_iinc C (k := 5) (v := (a5 + 1)) (lv' := [(5, .int (a5 + 1)), (4, .int 1), (0, .ref a0), (1, .int a1), (2, .int a2), (3, .int a3)]) dX7_different_63 rfl rfl (by decide) rfl ?_
            refine v_goto C (tgt := 21) dX7_different_66 (by decide) ?_
            refine v_sub [2, 3, 4, 5, 1, 0] rfl ?_
            exact ih _ _ _ _ _ _ _ h
set_option maxRecDepth 100000 in
set_option maxHeartbeats 4000000 in
theorem r_X7_different_p4 {p : Program} {l : Launch} {e : Env} {s : State} {m : MethodId} {args : Array Value} {below : List Frame} {meth : Method} {c : Code} {G : GG} {A : Nat → Prop} (C : Cx p s m args meth c G A cX7_different 6 RX7 wsX7_different (some .int)) (n : Nat) {z : Int32} : ∀ (t : Nat), ∀ (w : Wd) (a0 : Nat) (a1 : Int32) (a2 : Int32) (a3 : Int32), m_X7_different_p4 n t w a0 a1 a2 a3 = some z → V p l e { frames := 2, cells := 0, slots := 0, locals := 44 } s m args below meth c G A 6 4 [(0, .ref a0), (1, .int a1), (2, .int a2), (3, .int a3)] [] w (some (.int z)) w := by
  intro t
  induction t with
  | zero =>
    intro w a0 a1 a2 a3 h
    rw [m_X7_different_p4] at h
    cases h
  | succ t ih =>
    intro w a0 a1 a2 a3 h
    rw [m_X7_different_p4] at h
    refine v_iload_n C 3 dX7_different_4 rfl rfl ?_
    refine v_bipush C (v := 24) dX7_different_5 (by decide) ?_
    refine v_icmp_ge C (tgt := 88) dX7_different_7 (by decide) (fun q => ?_) (fun q => ?_)
    · have h := ite_t q h
      refine v_iload_n C 2 dX7_different_88 rfl rfl ?_
      obtain rfl := Option.some.inj h
      exact v_iret C dX7_different_89
    · have h := ite_f q h
      refine v_aload_n C 0 dX7_different_10 rfl rfl ?_
      refine v_iload_n C 3 dX7_different_11 rfl rfl ?_
      refine v_iload_n C 1 dX7_different_12 rfl rfl ?_
      obtain ⟨u1, e_u1, h⟩ := bnd h
      obtain ⟨x2, e_x2, h⟩ := bnd h
      refine v_callVi C (ci := 6) (av := [.int a3, .int a1]) (rest := []) rfl gX7_different_X7_isOn rfl ⟨rfl, rfl⟩ hV_X7_isOn ⟨(Nat.le_of_ble_eq_true rfl), (Nat.le_of_ble_eq_true rfl)⟩ e_u1 (r_X7_isOn (A := A) e_x2) rfl rfl (Nat.le_of_ble_eq_true rfl) dX7_different_13 ?_
      refine v_istore C (lv' := [(4, .int x2), (0, .ref a0), (1, .int a1), (2, .int a2), (3, .int a3)]) dX7_different_16 (by decide) rfl ?_
      refine v_iconst C (v := 0) dX7_different_18 (by decide) ?_
      refine v_istore C (lv' := [(5, .int 0), (4, .int x2), (0, .ref a0), (1, .int a1), (2, .int a2), (3, .int a3)]) dX7_different_19 (by decide) rfl ?_
      refine v_sub [2, 3, 4, 5, 1, 0] rfl ?_
      exact r_X7_different_p21 C n ih n _ _ _ _ _ _ _ h
set_option maxRecDepth 100000 in
set_option maxHeartbeats 4000000 in
theorem r_X7_different {l : Launch} {G : GG} {A : Nat → Prop} {n : Nat} {w : Wd} {this : Nat} {a1 : Int32} {z : Int32} (h : m_X7_different n w this a1 = some z) : Con l yX7_different wsX7_different { frames := 2, cells := 0, slots := 0, locals := 44 } G A [.ref this, .int a1] w (some (.int z)) w := by
  refine Con.of (own := RX7) (cc := cX7_different) (maxL := 6) (ret := (some .int)) rfl (by decide) rfl (Nat.le_of_ble_eq_true rfl) ?_
  intro p e s m args below meth c C
  show V p l e { frames := 2, cells := 0, slots := 0, locals := 44 } s m args below meth c G A 6 0 [(0, .ref this), (1, .int a1)] [] w (some (.int z)) w
  unfold m_X7_different at h
  refine v_iconst C (v := 0) dX7_different_0 (by decide) ?_
  refine v_istore_n C (lv' := [(2, .int 0), (0, .ref this), (1, .int a1)]) dX7_different_1 rfl (by decide) rfl ?_
  refine v_iconst C (v := 0) dX7_different_2 (by decide) ?_
  refine v_istore_n C (lv' := [(3, .int 0), (2, .int 0), (0, .ref this), (1, .int a1)]) dX7_different_3 rfl (by decide) rfl ?_
  refine v_sub [2, 3, 1, 0] rfl ?_
  exact r_X7_different_p4 C n n _ _ _ _ _ h
theorem fX7_tellLevel_25 : Cond.fieldLink RX7 25 (TX7 8).1 (TX7 8).2.1 (TX7 8).2.2.1 ∈ wsX7_tellLevel := by decide +kernel
theorem inX7_tellLevel_X7 : ∀ x ∈ u_ws RX7 TX7 20, x ∈ wsX7_tellLevel := by decide +kernel
theorem hV_X7_depthOf : yX7_depthOf.cls = RX7 ∧ yX7_depthOf.cls ≠ "java/lang/invoke/MethodHandle" ∧ yX7_depthOf.cls ≠ "java/lang/invoke/VarHandle" ∧ (parseMethodDescriptor yX7_depthOf.desc).map (fun d => d.parameters.length) = some 2 := by decide +kernel
theorem cX7_tellLevel_187 : Cond.constant RX7 187 (100000) ∈ wsX7_tellLevel := by decide +kernel
theorem hV_X7_pointsOn : yX7_pointsOn.cls = RX7 ∧ yX7_pointsOn.cls ≠ "java/lang/invoke/MethodHandle" ∧ yX7_pointsOn.cls ≠ "java/lang/invoke/VarHandle" ∧ (parseMethodDescriptor yX7_pointsOn.desc).map (fun d => d.parameters.length) = some 1 := by decide +kernel
theorem hV_X7_different : yX7_different.cls = RX7 ∧ yX7_different.cls ≠ "java/lang/invoke/MethodHandle" ∧ yX7_different.cls ≠ "java/lang/invoke/VarHandle" ∧ (parseMethodDescriptor yX7_different.desc).map (fun d => d.parameters.length) = some 1 := by decide +kernel
set_option maxRecDepth 100000 in
set_option maxHeartbeats 4000000 in
theorem r_X7_tellLevel_p48 {p : Program} {l : Launch} {e : Env} {s : State} {m : MethodId} {args : Array Value} {below : List Frame} {meth : Method} {c : Code} {G : GG} {A : Nat → Prop} (C : Cx p s m args meth c G A cX7_tellLevel 5 RX7 wsX7_tellLevel (some .int)) (n : Nat) {z : (Int32 × Wd)} : ∀ (t : Nat), ∀ (w : Wd) (a0 : Nat) (a1 : Int32) (a3 : Int32) (a4 : Int32), m_X7_tellLevel_p48 n t w a0 a1 a3 a4 = some z → V p l e { frames := 4, cells := 0, slots := 0, locals := 94 } s m args below meth c G A 5 48 [(0, .ref a0), (1, .int a1), (3, .int a3), (4, .int a4)] [] w (some (.int z.1)) z.2 := by
  intro t
  induction t with
  | zero =>
    intro w a0 a1 a3 a4 h
    rw [m_X7_tellLevel_p48] at h
    cases h
  | succ t ih =>
    intro w a0 a1 a3 a4 h
    rw [m_X7_tellLevel_p48] at h
    refine v_iload C 3 dX7_tellLevel_48 rfl ?_
    refine v_aload_n C 0 dX7_tellLevel_50 rfl rfl ?_
    obtain ⟨q1, e_q1, h⟩ := bnd h
    refine v_getf C (ci := 6) (k := 8) rfl inX7_tellLevel_X7 (by decide) fX7_tellLevel_25 dX7_tellLevel_51 (gfR_e e_q1) ?_
    refine v_iload_n C 1 dX7_tellLevel_54 rfl rfl ?_
    obtain ⟨x2, e_x2, h⟩ := bnd h
    refine v_iald C dX7_tellLevel_55 e_x2 ?_
    refine v_icmp_ge C (tgt := 88) dX7_tellLevel_56 (by decide) (fun q => ?_) (fun q => ?_)
    · have h := ite_t q h
      refine v_iload_n C 2 dX7_tellLevel_88 rfl rfl ?_
      obtain rfl := Option.some.inj h
      exact v_iret C dX7_tellLevel_89
    · have h := ite_f q h
      refine v_aload_n C 0 dX7_tellLevel_59 rfl rfl ?_
      refine v_iload_n C 1 dX7_tellLevel_60 rfl rfl ?_
      refine v_iload C 3 dX7_tellLevel_61 rfl ?_
      obtain ⟨u3, e_u3, h⟩ := bnd h
      obtain ⟨x4, e_x4, h⟩ := bnd h
      refine v_callVi C (ci := 6) (av := [.int a1, .int a4]) (rest := []) rfl gX7_tellLevel_X7_depthOf rfl ⟨rfl, rfl⟩ hV_X7_depthOf ⟨(Nat.le_of_ble_eq_true rfl), (Nat.le_of_ble_eq_true rfl)⟩ e_u3 (r_X7_depthOf (A := A) e_x4) rfl rfl (Nat.le_of_ble_eq_true rfl) dX7_tellLevel_63 ?_
      refine v_iload_n C 2 dX7_tellLevel_66 rfl rfl ?_
      refine v_icmp_le C (tgt := 80) dX7_tellLevel_67 (by decide) (fun q => ?_) (fun q => ?_)
      · have h := ite_t q h
        refine v_iload_n C 2 dX7_tellLevel_80 rfl rfl ?_
        refine v_istore_n C (lv' := [(3, .int a3), (0, .ref a0), (1, .int a1), (4, .int a4)]) dX7_tellLevel_81 rfl (by decide) rfl ?_
        refine v_iinc C (k := 3) (v := (a4 + 1)) (lv' := [(4, .int (a4 + 1)), (3, .int a3), (0, .ref a0), (1, .int a1)]) dX7_tellLevel_82 rfl rfl (by decide) rfl ?_
        refine v_goto C (tgt := 48) dX7_tellLevel_85 (by decide) ?_
        refine v_sub [2, 3, 1, 0] rfl ?_
        exact ih _ _ _ _ _ h
      · have h := ite_f q h
        refine v_aload_n C 0 dX7_tellLevel_70 rfl rfl ?_
        refine v_iload_n C 1 dX7_tellLevel_71 rfl rfl ?_
        refine v_iload C 3 dX7_tellLevel_72 rfl ?_
        obtain ⟨u5, e_u5, h⟩ := bnd h
        obtain ⟨x6, e_x6, h⟩ := bnd h
        refine v_callVi C (ci := 6) (av := [.int a1, .int a4]) (rest := []) rfl gX7_tellLevel_X7_depthOf rfl ⟨rfl, rfl⟩ hV_X7_depthOf ⟨(Nat.le_of_ble_eq_true rfl), (Nat.le_of_ble_eq_true rfl)⟩ e_u5 (r_X7_depthOf (A := A) e_x6) rfl rfl (Nat.le_of_ble_eq_true rfl) dX7_tellLevel_74 ?_
        refine v_goto C (tgt := 81) dX7_tellLevel_77 (by decide) ?_
        refine v_istore_n C (lv' := [(3, .int x6), (0, .ref a0), (1, .int a1), (4, .int a4)]) dX7_tellLevel_81 rfl (by decide) rfl ?_
        refine v_iinc C (k := 3) (v := (a4 + 1)) (lv' := [(4, .int (a4 + 1)), (3, .int x6), (0, .ref a0), (1, .int a1)]) dX7_tellLevel_82 rfl rfl (by decide) rfl ?_
        refine v_at (pc' := 85) rfl ?_
        refine v_goto C (tgt := 48) dX7_tellLevel_85 (by decide) ?_
        refine v_sub [2, 3, 1, 0] rfl ?_
        exact ih _ _ _ _ _ h
set_option maxRecDepth 100000 in
set_option maxHeartbeats 4000000 in
theorem r_X7_tellLevel_p93 {p : Program} {l : Launch} {e : Env} {s : State} {m : MethodId} {args : Array Value} {below : List Frame} {meth : Method} {c : Code} {G : GG} {A : Nat → Prop} (C : Cx p s m args meth c G A cX7_tellLevel 5 RX7 wsX7_tellLevel (some .int)) (n : Nat) {z : (Int32 × Wd)} : ∀ (t : Nat), ∀ (w : Wd) (a0 : Nat) (a1 : Int32) (a3 : Int32) (a4 : Int32), m_X7_tellLevel_p93 n t w a0 a1 a3 a4 = some z → V p l e { frames := 4, cells := 0, slots := 0, locals := 94 } s m args below meth c G A 5 93 [(0, .ref a0), (1, .int a1), (3, .int a3), (4, .int a4)] [] w (some (.int z.1)) z.2 := by
  intro t
  induction t with
  | zero =>
    intro w a0 a1 a3 a4 h
    rw [m_X7_tellLevel_p93] at h
    cases h
  | succ t ih =>
    intro w a0 a1 a3 a4 h
    rw [m_X7_tellLevel_p93] at h
    refine v_iload C 3 dX7_tellLevel_93 rfl ?_
    refine v_iconst C (v := 4) dX7_tellLevel_95 (by decide) ?_
    refine v_aload_n C 0 dX7_tellLevel_96 rfl rfl ?_
    obtain ⟨q1, e_q1, h⟩ := bnd h
    refine v_getf C (ci := 6) (k := 8) rfl inX7_tellLevel_X7 (by decide) fX7_tellLevel_25 dX7_tellLevel_97 (gfR_e e_q1) ?_
    refine v_iload_n C 1 dX7_tellLevel_100 rfl rfl ?_
    obtain ⟨x2, e_x2, h⟩ := bnd h
    refine v_iald C dX7_tellLevel_101 e_x2 ?_
    refine v_imul C dX7_tellLevel_102 ?_
    refine v_at (pc' := 103) rfl ?_
    refine v_icmp_ge C (tgt := 143) dX7_tellLevel_103 (by decide) (fun q => ?_) (fun q => ?_)
    · have h := ite_t q h
      refine v_iload_n C 2 dX7_tellLevel_143 rfl rfl ?_
      obtain rfl := Option.some.inj h
      exact v_iret C dX7_tellLevel_144
    · have h := ite_f q h
      refine v_iload_n C 2 dX7_tellLevel_106 rfl rfl ?_
      refine v_aload_n C 0 dX7_tellLevel_107 rfl rfl ?_
      refine v_iload_n C 1 dX7_tellLevel_108 rfl rfl ?_
      refine v_aload_n C 0 dX7_tellLevel_109 rfl rfl ?_
      refine v_iload_n C 1 dX7_tellLevel_110 rfl rfl ?_
      refine v_iload C 3 dX7_tellLevel_111 rfl ?_
      refine v_iconst C (v := 4) dX7_tellLevel_113 (by decide) ?_
      refine v_at (pc' := 114) rfl ?_
      refine v_idiv C dX7_tellLevel_114 (by decide) ?_
      obtain ⟨u3, e_u3, h⟩ := bnd h
      obtain ⟨x4, e_x4, h⟩ := bnd h
      refine v_callVi C (ci := 6) (av := [.int a1, .int (a4 / 4)]) (rest := [.int a1, .ref a0, .int a3]) rfl gX7_tellLevel_X7_nodeAt rfl ⟨rfl, rfl⟩ hV_X7_nodeAt ⟨(Nat.le_of_ble_eq_true rfl), (Nat.le_of_ble_eq_true rfl)⟩ e_u3 (r_X7_nodeAt (A := A) e_x4) rfl rfl (Nat.le_of_ble_eq_true rfl) dX7_tellLevel_115 ?_
      refine v_iload C 3 dX7_tellLevel_118 rfl ?_
      refine v_iconst C (v := 4) dX7_tellLevel_120 (by decide) ?_
      refine v_irem C dX7_tellLevel_121 (by decide) ?_
      obtain ⟨u5, e_u5, h⟩ := bnd h
      obtain ⟨z6, e_z6, h⟩ := bnd h
      refine v_callVi C (ci := 6) (av := [.int a1, .int x4, .int (jrm a4 4)]) (rest := [.int a3]) rfl gX7_tellLevel_X7_childOf rfl ⟨rfl, rfl⟩ hV_X7_childOf ⟨(Nat.le_of_ble_eq_true rfl), (Nat.le_of_ble_eq_true rfl)⟩ e_u5 (r_X7_childOf (A := A) e_z6) rfl rfl (Nat.le_of_ble_eq_true rfl) dX7_tellLevel_122 ?_
      refine v_ldc C dX7_tellLevel_125 cX7_tellLevel_187 ?_
      refine v_icmp_lt C (tgt := 134) dX7_tellLevel_127 (by decide) (fun q => ?_) (fun q => ?_)
      · have h := ite_t q h
        refine v_iconst C (v := 0) dX7_tellLevel_134 (by decide) ?_
        refine v_iadd C dX7_tellLevel_135 ?_
        refine v_istore_n C (lv' := [(3, .int (a3 + 0)), (0, .ref a0), (1, .int a1), (4, .int a4)]) dX7_tellLevel_136 rfl (by decide) rfl ?_
        refine v_iinc C (k := 3) (v := (a4 + 1)) (lv' := [(4, .int (a4 + 1)), (3, .int (a3 + 0)), (0, .ref a0), (1, .int a1)]) dX7_tellLevel_137 rfl rfl (by decide) rfl ?_
        refine v_goto C (tgt := 93) dX7_tellLevel_140 (by decide) ?_
        refine v_sub [2, 3, 1, 0] rfl ?_
        exact ih _ _ _ _ _ h
      · have h := ite_f q h
        refine v_iconst C (v := 1) dX7_tellLevel_130 (by decide) ?_
        refine v_goto C (tgt := 135) dX7_tellLevel_131 (by decide) ?_
        refine v_iadd C dX7_tellLevel_135 ?_
        refine v_istore_n C (lv' := [(3, .int (a3 + 1)), (0, .ref a0), (1, .int a1), (4, .int a4)]) dX7_tellLevel_136 rfl (by decide) rfl ?_
        refine v_iinc C (k := 3) (v := (a4 + 1)) (lv' := [(4, .int (a4 + 1)), (3, .int (a3 + 1)), (0, .ref a0), (1, .int a1)]) dX7_tellLevel_137 rfl rfl (by decide) rfl ?_
        refine v_goto C (tgt := 93) dX7_tellLevel_140 (by decide) ?_
        refine v_sub [2, 3, 1, 0] rfl ?_
        exact ih _ _ _ _ _ h
set_option maxRecDepth 100000 in
set_option maxHeartbeats 4000000 in
theorem r_X7_tellLevel {l : Launch} {G : GG} {A : Nat → Prop} {n : Nat} {w : Wd} {this : Nat} {a1 : Int32} {a2 : Int32} {z : (Int32 × Wd)} (h : m_X7_tellLevel n w this a1 a2 = some z) : Con l yX7_tellLevel wsX7_tellLevel { frames := 4, cells := 0, slots := 0, locals := 94 } G A [.ref this, .int a1, .int a2] w (some (.int z.1)) z.2 := by
  refine Con.of (own := RX7) (cc := cX7_tellLevel) (maxL := 5) (ret := (some .int)) rfl (by decide) rfl (Nat.le_of_ble_eq_true rfl) ?_
  intro p e s m args below meth c C
  show V p l e { frames := 4, cells := 0, slots := 0, locals := 94 } s m args below meth c G A 5 0 [(0, .ref this), (1, .int a1), (2, .int a2)] [] w (some (.int z.1)) z.2
  unfold m_X7_tellLevel at h
  refine v_iconst C (v := 0) dX7_tellLevel_0 (by decide) ?_
  refine v_istore_n C (lv' := [(3, .int 0), (0, .ref this), (1, .int a1), (2, .int a2)]) dX7_tellLevel_1 rfl (by decide) rfl ?_
  refine v_iload_n C 3 dX7_tellLevel_2 rfl rfl ?_
  by_cases q1 : a2 = 0
  · have h := ite_t q1 h
    refine v_tabIn C 0 29 32 dX7_tellLevel_3 q1 (by decide) (by decide) rfl (by decide) ?_
    refine v_aload_n C 1 dX7_tellLevel_32 rfl rfl ?_
    refine v_iload_n C 2 dX7_tellLevel_33 rfl rfl ?_
    obtain ⟨u2, e_u2, h⟩ := bnd h
    obtain ⟨x3, e_x3, h⟩ := bnd h
    refine v_callVi C (ci := 6) (av := [.int a1]) (rest := []) rfl gX7_tellLevel_X7_pointsOn rfl ⟨rfl, rfl⟩ hV_X7_pointsOn ⟨(Nat.le_of_ble_eq_true rfl), (Nat.le_of_ble_eq_true rfl)⟩ e_u2 (r_X7_pointsOn (A := A) e_x3) rfl rfl (Nat.le_of_ble_eq_true rfl) dX7_tellLevel_34 ?_
    obtain rfl := Option.some.inj h
    exact v_iret C dX7_tellLevel_37
  have h := ite_f q1 h
  by_cases q4 : a2 = 1
  · have h := ite_t q4 h
    refine v_tabIn C 1 35 38 dX7_tellLevel_3 q4 (by decide) (by decide) rfl (by decide) ?_
    refine v_aload_n C 1 dX7_tellLevel_38 rfl rfl ?_
    obtain ⟨q5, e_q5, h⟩ := bnd h
    refine v_getf C (ci := 6) (k := 8) rfl inX7_tellLevel_X7 (by decide) fX7_tellLevel_25 dX7_tellLevel_39 (gfR_e e_q5) ?_
    refine v_iload_n C 2 dX7_tellLevel_42 rfl rfl ?_
    obtain ⟨x6, e_x6, h⟩ := bnd h
    refine v_iald C dX7_tellLevel_43 e_x6 ?_
    obtain rfl := Option.some.inj h
    exact v_iret C dX7_tellLevel_44
  have h := ite_f q4 h
  by_cases q7 : a2 = 2
  · have h := ite_t q7 h
    refine v_tabIn C 2 42 45 dX7_tellLevel_3 q7 (by decide) (by decide) rfl (by decide) ?_
    refine v_iconst C (v := 0) dX7_tellLevel_45 (by decide) ?_
    refine v_istore C (lv' := [(4, .int 0), (3, .int 0), (0, .ref this), (1, .int a1), (2, .int a2)]) dX7_tellLevel_46 (by decide) rfl ?_
    refine v_sub [2, 3, 1, 0] rfl ?_
    exact r_X7_tellLevel_p48 C n n _ _ _ _ _ h
  have h := ite_f q7 h
  by_cases q8 : a2 = 3
  · have h := ite_t q8 h
    refine v_tabIn C 3 87 90 dX7_tellLevel_3 q8 (by decide) (by decide) rfl (by decide) ?_
    refine v_iconst C (v := 0) dX7_tellLevel_90 (by decide) ?_
    refine v_istore C (lv' := [(4, .int 0), (3, .int 0), (0, .ref this), (1, .int a1), (2, .int a2)]) dX7_tellLevel_91 (by decide) rfl ?_
    refine v_sub [2, 3, 1, 0] rfl ?_
    exact r_X7_tellLevel_p93 C n n _ _ _ _ _ h
  have h := ite_f q8 h
  have g_q1 := lv_neT q1 (a := 0) rfl
  have g_q4 := lv_neT q4 (a := 1) rfl
  have g_q7 := lv_neT q7 (a := 2) rfl
  have g_q8 := lv_neT q8 (a := 3) rfl
  refine v_tabOut C 145 dX7_tellLevel_3 (by omega) (by decide) ?_
  refine v_aload_n C 1 dX7_tellLevel_145 rfl rfl ?_
  refine v_iload_n C 2 dX7_tellLevel_146 rfl rfl ?_
  obtain ⟨u9, e_u9, h⟩ := bnd h
  obtain ⟨x10, e_x10, h⟩ := bnd h
  refine v_callVi C (ci := 6) (av := [.int a1]) (rest := []) rfl gX7_tellLevel_X7_different rfl ⟨rfl, rfl⟩ hV_X7_different ⟨(Nat.le_of_ble_eq_true rfl), (Nat.le_of_ble_eq_true rfl)⟩ e_u9 (r_X7_different (A := A) e_x10) rfl rfl (Nat.le_of_ble_eq_true rfl) dX7_tellLevel_147 ?_
  obtain rfl := Option.some.inj h
  exact v_iret C dX7_tellLevel_150
theorem z_X7_isLevel (a0 : Int32) : bo (m_X7_isLevel a0) := by
  unfold m_X7_isLevel
  repeat' (first | (refine bo_ite ?_ ?_) | exact bo_0 | exact bo_1 | exact z_X7_in ..)
set_option maxRecDepth 100000 in
set_option maxHeartbeats 4000000 in
theorem r_X7_isLevel {l : Launch} {G : GG} {A : Nat → Prop} {w : Wd} {a0 : Int32} {z : Int32} (h : m_X7_isLevel a0 = z) : Con l yX7_isLevel wsX7_isLevel { frames := 1, cells := 0, slots := 0, locals := 22 } G A [.int a0] w (some (.int z)) w := by
  refine Con.of (own := RX7) (cc := cX7_isLevel) (maxL := 1) (ret := (some .boolean)) rfl (by decide) rfl (Nat.le_of_ble_eq_true rfl) ?_
  intro p e s m args below meth c C
  show V p l e { frames := 1, cells := 0, slots := 0, locals := 22 } s m args below meth c G A 1 0 [(0, .int a0)] [] w (some (.int z)) w
  unfold m_X7_isLevel at h
  refine v_iload_n C 0 dX7_isLevel_0 rfl rfl ?_
  refine v_iconst C (v := 0) dX7_isLevel_1 (by decide) ?_
  refine v_iconst C (v := 4) dX7_isLevel_2 (by decide) ?_
  refine v_callSi C (av := [.int a0, .int 0, .int 4]) (rest := []) gX7_isLevel_X7_in rfl ⟨rfl, rfl⟩ hS_X7_in ⟨(Nat.le_of_ble_eq_true rfl), (Nat.le_of_ble_eq_true rfl)⟩ (r_X7_in (A := A) rfl) rfl rfl (Nat.le_of_ble_eq_true rfl) dX7_isLevel_3 ?_
  subst h
  exact v_zret C dX7_isLevel_6 (z_X7_in ..)
theorem hS_X7_isLevel : yX7_isLevel.cls ≠ "java/lang/invoke/MethodHandle" ∧ yX7_isLevel.cls ≠ "java/lang/invoke/VarHandle" ∧ (parseMethodDescriptor yX7_isLevel.desc).map (fun d => d.parameters.length) = some 1 := by decide +kernel
theorem hV_X7_tellLevel : yX7_tellLevel.cls = RX7 ∧ yX7_tellLevel.cls ≠ "java/lang/invoke/MethodHandle" ∧ yX7_tellLevel.cls ≠ "java/lang/invoke/VarHandle" ∧ (parseMethodDescriptor yX7_tellLevel.desc).map (fun d => d.parameters.length) = some 2 := by decide +kernel
set_option maxRecDepth 100000 in
set_option maxHeartbeats 4000000 in
theorem r_X7_level {l : Launch} {G : GG} {A : Nat → Prop} {n : Nat} {w : Wd} {this : Nat} {a1 : Int32} {a2 : Int32} {z : (Int32 × Wd)} (h : m_X7_level n w this a1 a2 = some z) : Con l yX7_level wsX7_level { frames := 5, cells := 0, slots := 0, locals := 118 } G A [.ref this, .int a1, .int a2] w (some (.int z.1)) z.2 := by
  refine Con.of (own := RX7) (cc := cX7_level) (maxL := 3) (ret := (some .int)) rfl (by decide) rfl (Nat.le_of_ble_eq_true rfl) ?_
  intro p e s m args below meth c C
  show V p l e { frames := 5, cells := 0, slots := 0, locals := 118 } s m args below meth c G A 3 0 [(0, .ref this), (1, .int a1), (2, .int a2)] [] w (some (.int z.1)) z.2
  unfold m_X7_level at h
  refine v_aload_n C 0 dX7_level_0 rfl rfl ?_
  refine v_iload_n C 1 dX7_level_1 rfl rfl ?_
  refine v_callSi C (av := [.int a1]) (rest := [.ref this]) gX7_level_X7_isLevel rfl ⟨rfl, rfl⟩ hS_X7_isLevel ⟨(Nat.le_of_ble_eq_true rfl), (Nat.le_of_ble_eq_true rfl)⟩ (r_X7_isLevel (A := A) rfl) rfl rfl (Nat.le_of_ble_eq_true rfl) dX7_level_2 ?_
  refine v_if_ne C (tgt := 12) dX7_level_5 (by decide) (fun q => ?_) (fun q => ?_)
  · have h := ite_f q h
    refine v_iload_n C 2 dX7_level_12 rfl rfl ?_
    refine v_iconst C (v := 0) dX7_level_13 (by decide) ?_
    refine v_iconst C (v := 4) dX7_level_14 (by decide) ?_
    refine v_callSi C (av := [.int a2, .int 0, .int 4]) (rest := [.ref this]) gX7_level_X7_in rfl ⟨rfl, rfl⟩ hS_X7_in ⟨(Nat.le_of_ble_eq_true rfl), (Nat.le_of_ble_eq_true rfl)⟩ (r_X7_in (A := A) rfl) rfl rfl (Nat.le_of_ble_eq_true rfl) dX7_level_15 ?_
    refine v_if_eq C (tgt := 25) dX7_level_18 (by decide) (fun q => ?_) (fun q => ?_)
    · have h := ite_t q h
      refine v_iconst C (v := 2) dX7_level_25 (by decide) ?_
      obtain ⟨u1, e_u1, h⟩ := bnd h
      obtain ⟨z2, e_z2, h⟩ := bnd h
      refine v_callVi C (ci := 6) (av := [.int 2]) (rest := []) rfl gX7_level_X7_refused rfl ⟨rfl, rfl⟩ hV_X7_refused ⟨(Nat.le_of_ble_eq_true rfl), (Nat.le_of_ble_eq_true rfl)⟩ e_u1 (r_X7_refused (A := A) e_z2) rfl rfl (Nat.le_of_ble_eq_true rfl) dX7_level_26 ?_
      refine v_if_eq C (tgt := 34) dX7_level_29 (by decide) (fun q => ?_) (fun q => ?_)
      · have h := ite_t q h
        refine v_aload_n C 0 dX7_level_34 rfl rfl ?_
        obtain ⟨u3, e_u3, h⟩ := bnd h
        obtain ⟨z4, e_z4, h⟩ := bnd h
        refine v_callVv C (ci := 6) (av := []) (rest := []) rfl gX7_level_X7_lays rfl ⟨rfl, rfl⟩ hV_X7_lays ⟨(Nat.le_of_ble_eq_true rfl), (Nat.le_of_ble_eq_true rfl)⟩ e_u3 (r_X7_lays (A := A) e_z4) rfl rfl (Nat.le_of_ble_eq_true rfl) dX7_level_35 ?_
        refine v_aload_n C 0 dX7_level_38 rfl rfl ?_
        refine v_iload_n C 1 dX7_level_39 rfl rfl ?_
        refine v_iload_n C 2 dX7_level_40 rfl rfl ?_
        obtain ⟨u5, e_u5, h⟩ := bnd h
        obtain ⟨z6, e_z6, h⟩ := bnd h
        refine v_callVi C (ci := 6) (av := [.int a1, .int a2]) (rest := []) rfl gX7_level_X7_tellLevel rfl ⟨rfl, rfl⟩ hV_X7_tellLevel ⟨(Nat.le_of_ble_eq_true rfl), (Nat.le_of_ble_eq_true rfl)⟩ e_u5 (r_X7_tellLevel (A := A) e_z6) rfl rfl (Nat.le_of_ble_eq_true rfl) dX7_level_41 ?_
        obtain rfl := Option.some.inj h
        exact v_iret C dX7_level_44
      · have h := ite_f q h
        refine v_iconst C (v := 0) dX7_level_32 (by decide) ?_
        obtain rfl := Option.some.inj h
        exact v_iret C dX7_level_33
    · have h := ite_f q h
      refine v_iconst C (v := 0) dX7_level_21 (by decide) ?_
      refine v_goto C (tgt := 26) dX7_level_22 (by decide) ?_
      obtain ⟨u7, e_u7, h⟩ := bnd h
      obtain ⟨z8, e_z8, h⟩ := bnd h
      refine v_callVi C (ci := 6) (av := [.int 0]) (rest := []) rfl gX7_level_X7_refused rfl ⟨rfl, rfl⟩ hV_X7_refused ⟨(Nat.le_of_ble_eq_true rfl), (Nat.le_of_ble_eq_true rfl)⟩ e_u7 (r_X7_refused (A := A) e_z8) rfl rfl (Nat.le_of_ble_eq_true rfl) dX7_level_26 ?_
      refine v_if_eq C (tgt := 34) dX7_level_29 (by decide) (fun q => ?_) (fun q => ?_)
      · have h := ite_t q h
        refine v_aload_n C 0 dX7_level_34 rfl rfl ?_
        obtain ⟨u9, e_u9, h⟩ := bnd h
        obtain ⟨z10, e_z10, h⟩ := bnd h
        refine v_callVv C (ci := 6) (av := []) (rest := []) rfl gX7_level_X7_lays rfl ⟨rfl, rfl⟩ hV_X7_lays ⟨(Nat.le_of_ble_eq_true rfl), (Nat.le_of_ble_eq_true rfl)⟩ e_u9 (r_X7_lays (A := A) e_z10) rfl rfl (Nat.le_of_ble_eq_true rfl) dX7_level_35 ?_
        refine v_aload_n C 0 dX7_level_38 rfl rfl ?_
        refine v_iload_n C 1 dX7_level_39 rfl rfl ?_
        refine v_iload_n C 2 dX7_level_40 rfl rfl ?_
        obtain ⟨u11, e_u11, h⟩ := bnd h
        obtain ⟨z12, e_z12, h⟩ := bnd h
        refine v_callVi C (ci := 6) (av := [.int a1, .int a2]) (rest := []) rfl gX7_level_X7_tellLevel rfl ⟨rfl, rfl⟩ hV_X7_tellLevel ⟨(Nat.le_of_ble_eq_true rfl), (Nat.le_of_ble_eq_true rfl)⟩ e_u11 (r_X7_tellLevel (A := A) e_z12) rfl rfl (Nat.le_of_ble_eq_true rfl) dX7_level_41 ?_
        obtain rfl := Option.some.inj h
        exact v_iret C dX7_level_44
      · have h := ite_f q h
        refine v_iconst C (v := 0) dX7_level_32 (by decide) ?_
        obtain rfl := Option.some.inj h
        exact v_iret C dX7_level_33
  · have h := ite_t q h
    refine v_iconst C (v := 1) dX7_level_8 (by decide) ?_
    refine v_goto C (tgt := 26) dX7_level_9 (by decide) ?_
    obtain ⟨u13, e_u13, h⟩ := bnd h
    obtain ⟨z14, e_z14, h⟩ := bnd h
    refine v_callVi C (ci := 6) (av := [.int 1]) (rest := []) rfl gX7_level_X7_refused rfl ⟨rfl, rfl⟩ hV_X7_refused ⟨(Nat.le_of_ble_eq_true rfl), (Nat.le_of_ble_eq_true rfl)⟩ e_u13 (r_X7_refused (A := A) e_z14) rfl rfl (Nat.le_of_ble_eq_true rfl) dX7_level_26 ?_
    refine v_if_eq C (tgt := 34) dX7_level_29 (by decide) (fun q => ?_) (fun q => ?_)
    · have h := ite_t q h
      refine v_aload_n C 0 dX7_level_34 rfl rfl ?_
      obtain ⟨u15, e_u15, h⟩ := bnd h
      obtain ⟨z16, e_z16, h⟩ := bnd h
      refine v_callVv C (ci := 6) (av := []) (rest := []) rfl gX7_level_X7_lays rfl ⟨rfl, rfl⟩ hV_X7_lays ⟨(Nat.le_of_ble_eq_true rfl), (Nat.le_of_ble_eq_true rfl)⟩ e_u15 (r_X7_lays (A := A) e_z16) rfl rfl (Nat.le_of_ble_eq_true rfl) dX7_level_35 ?_
      refine v_aload_n C 0 dX7_level_38 rfl rfl ?_
      refine v_iload_n C 1 dX7_level_39 rfl rfl ?_
      refine v_iload_n C 2 dX7_level_40 rfl rfl ?_
      obtain ⟨u17, e_u17, h⟩ := bnd h
      obtain ⟨z18, e_z18, h⟩ := bnd h
      refine v_callVi C (ci := 6) (av := [.int a1, .int a2]) (rest := []) rfl gX7_level_X7_tellLevel rfl ⟨rfl, rfl⟩ hV_X7_tellLevel ⟨(Nat.le_of_ble_eq_true rfl), (Nat.le_of_ble_eq_true rfl)⟩ e_u17 (r_X7_tellLevel (A := A) e_z18) rfl rfl (Nat.le_of_ble_eq_true rfl) dX7_level_41 ?_
      obtain rfl := Option.some.inj h
      exact v_iret C dX7_level_44
    · have h := ite_f q h
      refine v_iconst C (v := 0) dX7_level_32 (by decide) ?_
      obtain rfl := Option.some.inj h
      exact v_iret C dX7_level_33
theorem fX7_tellNode_175 : Cond.fieldLink RX7 175 (TX7 12).1 (TX7 12).2.1 (TX7 12).2.2.1 ∈ wsX7_tellNode := by decide +kernel
theorem inX7_tellNode_X7 : ∀ x ∈ u_ws RX7 TX7 20, x ∈ wsX7_tellNode := by decide +kernel
set_option maxRecDepth 100000 in
set_option maxHeartbeats 4000000 in
theorem r_X7_tellNode_p104 {p : Program} {l : Launch} {e : Env} {s : State} {m : MethodId} {args : Array Value} {below : List Frame} {meth : Method} {c : Code} {G : GG} {A : Nat → Prop} (C : Cx p s m args meth c G A cX7_tellNode 7 RX7 wsX7_tellNode (some .int)) (n : Nat) {z : (Int32 × Wd)} : ∀ (t : Nat), ∀ (w : Wd) (a0 : Nat) (a1 : Int32) (a4 : Int32) (a5 : Int32) (a6 : Int32), m_X7_tellNode_p104 n t w a0 a1 a4 a5 a6 = some z → V p l e { frames := 4, cells := 0, slots := 0, locals := 94 } s m args below meth c G A 7 104 [(0, .ref a0), (1, .int a1), (4, .int a4), (5, .int a5), (6, .int a6)] [] w (some (.int z.1)) z.2 := by
  intro t
  induction t with
  | zero =>
    intro w a0 a1 a4 a5 a6 h
    rw [m_X7_tellNode_p104] at h
    cases h
  | succ t ih =>
    intro w a0 a1 a4 a5 a6 h
    rw [m_X7_tellNode_p104] at h
    refine v_iload C 4 dX7_tellNode_104 rfl ?_
    refine v_iconst C (v := 4) dX7_tellNode_106 (by decide) ?_
    refine v_icmp_ge C (tgt := 139) dX7_tellNode_107 (by decide) (fun q => ?_) (fun q => ?_)
    · have h := ite_t q h
      refine v_iload C 3 dX7_tellNode_139 rfl ?_
      obtain rfl := Option.some.inj h
      exact v_iret C dX7_tellNode_141
    · have h := ite_f q h
      refine v_iload C 3 dX7_tellNode_110 rfl ?_
      refine v_aload_n C 0 dX7_tellNode_112 rfl rfl ?_
      refine v_iload_n C 1 dX7_tellNode_113 rfl rfl ?_
      refine v_iload C 2 dX7_tellNode_114 rfl ?_
      refine v_iload C 4 dX7_tellNode_116 rfl ?_
      obtain ⟨u1, e_u1, h⟩ := bnd h
      obtain ⟨z2, e_z2, h⟩ := bnd h
      refine v_callVi C (ci := 6) (av := [.int a1, .int a4, .int a6]) (rest := [.int a5]) rfl gX7_tellNode_X7_childOf rfl ⟨rfl, rfl⟩ hV_X7_childOf ⟨(Nat.le_of_ble_eq_true rfl), (Nat.le_of_ble_eq_true rfl)⟩ e_u1 (r_X7_childOf (A := A) e_z2) rfl rfl (Nat.le_of_ble_eq_true rfl) dX7_tellNode_118 ?_
      refine v_iconst C (v := (-1)) dX7_tellNode_121 (by decide) ?_
      refine v_at (pc' := 122) rfl ?_
      refine v_icmp_ne C (tgt := 129) dX7_tellNode_122 (by decide) (fun q => ?_) (fun q => ?_)
      · have h := ite_f q h
        refine v_iconst C (v := 1) dX7_tellNode_129 (by decide) ?_
        refine v_iadd C dX7_tellNode_130 ?_
        refine v_istore C (lv' := [(5, .int (a5 + 1)), (0, .ref a0), (1, .int a1), (4, .int a4), (6, .int a6)]) dX7_tellNode_131 (by decide) rfl ?_
        refine v_iinc C (k := 4) (v := (a6 + 1)) (lv' := [(6, .int (a6 + 1)), (5, .int (a5 + 1)), (0, .ref a0), (1, .int a1), (4, .int a4)]) dX7_tellNode_133 rfl rfl (by decide) rfl ?_
        refine v_goto C (tgt := 104) dX7_tellNode_136 (by decide) ?_
        refine v_sub [2, 3, 4, 1, 0] rfl ?_
        exact ih _ _ _ _ _ _ h
      · have h := ite_t q h
        refine v_iconst C (v := 0) dX7_tellNode_125 (by decide) ?_
        refine v_goto C (tgt := 130) dX7_tellNode_126 (by decide) ?_
        refine v_iadd C dX7_tellNode_130 ?_
        refine v_istore C (lv' := [(5, .int (a5 + 0)), (0, .ref a0), (1, .int a1), (4, .int a4), (6, .int a6)]) dX7_tellNode_131 (by decide) rfl ?_
        refine v_iinc C (k := 4) (v := (a6 + 1)) (lv' := [(6, .int (a6 + 1)), (5, .int (a5 + 0)), (0, .ref a0), (1, .int a1), (4, .int a4)]) dX7_tellNode_133 rfl rfl (by decide) rfl ?_
        refine v_goto C (tgt := 104) dX7_tellNode_136 (by decide) ?_
        refine v_sub [2, 3, 4, 1, 0] rfl ?_
        exact ih _ _ _ _ _ _ h
set_option maxRecDepth 100000 in
set_option maxHeartbeats 4000000 in
theorem r_X7_tellNode {l : Launch} {G : GG} {A : Nat → Prop} {n : Nat} {w : Wd} {this : Nat} {a1 : Int32} {a2 : Int32} {a3 : Int32} {z : (Int32 × Wd)} (h : m_X7_tellNode n w this a1 a2 a3 = some z) : Con l yX7_tellNode wsX7_tellNode { frames := 4, cells := 0, slots := 0, locals := 94 } G A [.ref this, .int a1, .int a2, .int a3] w (some (.int z.1)) z.2 := by
  refine Con.of (own := RX7) (cc := cX7_tellNode) (maxL := 7) (ret := (some .int)) rfl (by decide) rfl (Nat.le_of_ble_eq_true rfl) ?_
  intro p e s m args below meth c C
  show V p l e { frames := 4, cells := 0, slots := 0, locals := 94 } s m args below meth c G A 7 0 [(0, .ref this), (1, .int a1), (2, .int a2), (3, .int a3)] [] w (some (.int z.1)) z.2
  unfold m_X7_tellNode at h
  refine v_aload_n C 0 dX7_tellNode_0 rfl rfl ?_
  refine v_iload_n C 1 dX7_tellNode_1 rfl rfl ?_
  refine v_iload_n C 2 dX7_tellNode_2 rfl rfl ?_
  obtain ⟨u1, e_u1, h⟩ := bnd h
  obtain ⟨x2, e_x2, h⟩ := bnd h
  refine v_callVi C (ci := 6) (av := [.int a1, .int a2]) (rest := []) rfl gX7_tellNode_X7_nodeAt rfl ⟨rfl, rfl⟩ hV_X7_nodeAt ⟨(Nat.le_of_ble_eq_true rfl), (Nat.le_of_ble_eq_true rfl)⟩ e_u1 (r_X7_nodeAt (A := A) e_x2) rfl rfl (Nat.le_of_ble_eq_true rfl) dX7_tellNode_3 ?_
  refine v_istore C (lv' := [(4, .int x2), (0, .ref this), (1, .int a1), (2, .int a2), (3, .int a3)]) dX7_tellNode_6 (by decide) rfl ?_
  refine v_iconst C (v := 0) dX7_tellNode_8 (by decide) ?_
  refine v_istore C (lv' := [(5, .int 0), (4, .int x2), (0, .ref this), (1, .int a1), (2, .int a2), (3, .int a3)]) dX7_tellNode_9 (by decide) rfl ?_
  refine v_at (pc' := 11) rfl ?_
  refine v_iload_n C 5 dX7_tellNode_11 rfl rfl ?_
  by_cases q3 : a3 = 0
  · have h := ite_t q3 h
    refine v_tabIn C 0 36 48 dX7_tellNode_12 q3 (by decide) (by decide) rfl (by decide) ?_
    refine v_iload C 1 dX7_tellNode_48 rfl ?_
    refine v_callSi C (av := [.int x2]) (rest := []) gX7_tellNode_X7_firstOf rfl ⟨rfl, rfl⟩ hS_X7_firstOf ⟨(Nat.le_of_ble_eq_true rfl), (Nat.le_of_ble_eq_true rfl)⟩ (r_X7_firstOf (A := A) rfl) rfl rfl (Nat.le_of_ble_eq_true rfl) dX7_tellNode_50 ?_
    obtain ⟨x4, e_x4, h⟩ := bnd h
    refine v_callSi C (av := [.int (m_X7_firstOf x2)]) (rest := []) gX7_tellNode_X7_xOf rfl ⟨rfl, rfl⟩ hS_X7_xOf ⟨(Nat.le_of_ble_eq_true rfl), (Nat.le_of_ble_eq_true rfl)⟩ (r_X7_xOf (A := A) e_x4) rfl rfl (Nat.le_of_ble_eq_true rfl) dX7_tellNode_53 ?_
    obtain rfl := Option.some.inj h
    exact v_iret C dX7_tellNode_56
  have h := ite_f q3 h
  by_cases q5 : a3 = 1
  · have h := ite_t q5 h
    refine v_tabIn C 1 45 57 dX7_tellNode_12 q5 (by decide) (by decide) rfl (by decide) ?_
    refine v_iload C 1 dX7_tellNode_57 rfl ?_
    refine v_callSi C (av := [.int x2]) (rest := []) gX7_tellNode_X7_firstOf rfl ⟨rfl, rfl⟩ hS_X7_firstOf ⟨(Nat.le_of_ble_eq_true rfl), (Nat.le_of_ble_eq_true rfl)⟩ (r_X7_firstOf (A := A) rfl) rfl rfl (Nat.le_of_ble_eq_true rfl) dX7_tellNode_59 ?_
    obtain ⟨x6, e_x6, h⟩ := bnd h
    refine v_callSi C (av := [.int (m_X7_firstOf x2)]) (rest := []) gX7_tellNode_X7_yOf rfl ⟨rfl, rfl⟩ hS_X7_yOf ⟨(Nat.le_of_ble_eq_true rfl), (Nat.le_of_ble_eq_true rfl)⟩ (r_X7_yOf (A := A) e_x6) rfl rfl (Nat.le_of_ble_eq_true rfl) dX7_tellNode_62 ?_
    obtain rfl := Option.some.inj h
    exact v_iret C dX7_tellNode_65
  have h := ite_f q5 h
  by_cases q7 : a3 = 2
  · have h := ite_t q7 h
    refine v_tabIn C 2 54 66 dX7_tellNode_12 q7 (by decide) (by decide) rfl (by decide) ?_
    refine v_iconst C (v := 1) dX7_tellNode_66 (by decide) ?_
    refine v_iload C 1 dX7_tellNode_67 rfl ?_
    refine v_callSi C (av := [.int x2]) (rest := [.int 1]) gX7_tellNode_X7_span rfl ⟨rfl, rfl⟩ hS_X7_span ⟨(Nat.le_of_ble_eq_true rfl), (Nat.le_of_ble_eq_true rfl)⟩ (r_X7_span (A := A) rfl) rfl rfl (Nat.le_of_ble_eq_true rfl) dX7_tellNode_69 ?_
    refine v_ishl C dX7_tellNode_72 ?_
    obtain rfl := Option.some.inj h
    exact v_iret C dX7_tellNode_73
  have h := ite_f q7 h
  by_cases q8 : a3 = 3
  · have h := ite_t q8 h
    refine v_tabIn C 3 62 74 dX7_tellNode_12 q8 (by decide) (by decide) rfl (by decide) ?_
    refine v_aload_n C 2 dX7_tellNode_74 rfl rfl ?_
    refine v_iload_n C 3 dX7_tellNode_75 rfl rfl ?_
    refine v_iload_n C 4 dX7_tellNode_76 rfl rfl ?_
    obtain ⟨u9, e_u9, h⟩ := bnd h
    obtain ⟨x10, e_x10, h⟩ := bnd h
    refine v_callVi C (ci := 6) (av := [.int a1, .int a2]) (rest := []) rfl gX7_tellNode_X7_depthOf rfl ⟨rfl, rfl⟩ hV_X7_depthOf ⟨(Nat.le_of_ble_eq_true rfl), (Nat.le_of_ble_eq_true rfl)⟩ e_u9 (r_X7_depthOf (A := A) e_x10) rfl rfl (Nat.le_of_ble_eq_true rfl) dX7_tellNode_77 ?_
    obtain rfl := Option.some.inj h
    exact v_iret C dX7_tellNode_80
  have h := ite_f q8 h
  by_cases q11 : a3 = 4
  · have h := ite_t q11 h
    refine v_tabIn C 4 69 81 dX7_tellNode_12 q11 (by decide) (by decide) rfl (by decide) ?_
    refine v_aload_n C 2 dX7_tellNode_81 rfl rfl ?_
    refine v_iload_n C 3 dX7_tellNode_82 rfl rfl ?_
    refine v_iload C 1 dX7_tellNode_83 rfl ?_
    refine v_callSi C (av := [.int x2]) (rest := [.int a1, .ref this]) gX7_tellNode_X7_firstOf rfl ⟨rfl, rfl⟩ hS_X7_firstOf ⟨(Nat.le_of_ble_eq_true rfl), (Nat.le_of_ble_eq_true rfl)⟩ (r_X7_firstOf (A := A) rfl) rfl rfl (Nat.le_of_ble_eq_true rfl) dX7_tellNode_85 ?_
    refine v_iload C 1 dX7_tellNode_88 rfl ?_
    refine v_callSi C (av := [.int x2]) (rest := [.int (m_X7_firstOf x2), .int a1, .ref this]) gX7_tellNode_X7_span rfl ⟨rfl, rfl⟩ hS_X7_span ⟨(Nat.le_of_ble_eq_true rfl), (Nat.le_of_ble_eq_true rfl)⟩ (r_X7_span (A := A) rfl) rfl rfl (Nat.le_of_ble_eq_true rfl) dX7_tellNode_90 ?_
    obtain ⟨u12, e_u12, h⟩ := bnd h
    obtain ⟨z13, e_z13, h⟩ := bnd h
    refine v_callVv C (ci := 6) (av := [.int a1, .int (m_X7_firstOf x2), .int (m_X7_span x2)]) (rest := []) rfl gX7_tellNode_X7_looksAt rfl ⟨rfl, rfl⟩ hV_X7_looksAt ⟨(Nat.le_of_ble_eq_true rfl), (Nat.le_of_ble_eq_true rfl)⟩ e_u12 (r_X7_looksAt (A := A) e_z13) rfl rfl (Nat.le_of_ble_eq_true rfl) dX7_tellNode_93 ?_
    refine v_at (pc' := 96) rfl ?_
    refine v_aload_n C 2 dX7_tellNode_96 rfl rfl ?_
    obtain ⟨x14, e_x14, h⟩ := bnd h
    refine v_getf C (ci := 6) (k := 12) rfl inX7_tellNode_X7 (by decide) fX7_tellNode_175 dX7_tellNode_97 (gfI_e e_x14) ?_
    obtain rfl := Option.some.inj h
    exact v_iret C dX7_tellNode_100
  have h := ite_f q11 h
  have g_q3 := lv_neT q3 (a := 0) rfl
  have g_q5 := lv_neT q5 (a := 1) rfl
  have g_q7 := lv_neT q7 (a := 2) rfl
  have g_q8 := lv_neT q8 (a := 3) rfl
  have g_q11 := lv_neT q11 (a := 4) rfl
  refine v_tabOut C 101 dX7_tellNode_12 (by omega) (by decide) ?_
  refine v_iconst C (v := 0) dX7_tellNode_101 (by decide) ?_
  refine v_istore C (lv' := [(6, .int 0), (5, .int 0), (4, .int x2), (0, .ref this), (1, .int a1), (2, .int a2), (3, .int a3)]) dX7_tellNode_102 (by decide) rfl ?_
  refine v_sub [3, 4, 2, 1, 0] rfl ?_
  exact r_X7_tellNode_p104 C n n _ _ _ _ _ _ h
theorem fX7_isNodeOf_25 : Cond.fieldLink RX7 25 (TX7 8).1 (TX7 8).2.1 (TX7 8).2.2.1 ∈ wsX7_isNodeOf := by decide +kernel
theorem inX7_isNodeOf_X7 : ∀ x ∈ u_ws RX7 TX7 20, x ∈ wsX7_isNodeOf := by decide +kernel
set_option maxRecDepth 100000 in
set_option maxHeartbeats 4000000 in
theorem r_X7_isNodeOf {l : Launch} {G : GG} {A : Nat → Prop} {n : Nat} {w : Wd} {this : Nat} {a1 : Int32} {a2 : Int32} {z : (Int32 × Wd)} (h : m_X7_isNodeOf n w this a1 a2 = some z) : Con l yX7_isNodeOf wsX7_isNodeOf { frames := 3, cells := 0, slots := 0, locals := 70 } G A [.ref this, .int a1, .int a2] w (some (.int z.1)) z.2 := by
  refine Con.of (own := RX7) (cc := cX7_isNodeOf) (maxL := 3) (ret := (some .boolean)) rfl (by decide) rfl (Nat.le_of_ble_eq_true rfl) ?_
  intro p e s m args below meth c C
  show V p l e { frames := 3, cells := 0, slots := 0, locals := 70 } s m args below meth c G A 3 0 [(0, .ref this), (1, .int a1), (2, .int a2)] [] w (some (.int z.1)) z.2
  unfold m_X7_isNodeOf at h
  refine v_aload_n C 0 dX7_isNodeOf_0 rfl rfl ?_
  obtain ⟨u1, e_u1, h⟩ := bnd h
  obtain ⟨z2, e_z2, h⟩ := bnd h
  refine v_callVv C (ci := 6) (av := []) (rest := []) rfl gX7_isNodeOf_X7_lays rfl ⟨rfl, rfl⟩ hV_X7_lays ⟨(Nat.le_of_ble_eq_true rfl), (Nat.le_of_ble_eq_true rfl)⟩ e_u1 (r_X7_lays (A := A) e_z2) rfl rfl (Nat.le_of_ble_eq_true rfl) dX7_isNodeOf_1 ?_
  refine v_iload_n C 1 dX7_isNodeOf_4 rfl rfl ?_
  refine v_callSi C (av := [.int a1]) (rest := []) gX7_isNodeOf_X7_isLevel rfl ⟨rfl, rfl⟩ hS_X7_isLevel ⟨(Nat.le_of_ble_eq_true rfl), (Nat.le_of_ble_eq_true rfl)⟩ (r_X7_isLevel (A := A) rfl) rfl rfl (Nat.le_of_ble_eq_true rfl) dX7_isNodeOf_5 ?_
  refine v_if_eq C (tgt := 31) dX7_isNodeOf_8 (by decide) (fun q => ?_) (fun q => ?_)
  · have h := ite_t q h
    refine v_iconst C (v := 0) dX7_isNodeOf_31 (by decide) ?_
    obtain rfl := Option.some.inj h
    exact v_zret C dX7_isNodeOf_32 bo_0
  · have h := ite_f q h
    refine v_iload_n C 2 dX7_isNodeOf_11 rfl rfl ?_
    refine v_iconst C (v := 0) dX7_isNodeOf_12 (by decide) ?_
    refine v_aload_n C 0 dX7_isNodeOf_13 rfl rfl ?_
    obtain ⟨q3, e_q3, h⟩ := bnd h
    refine v_getf C (ci := 6) (k := 8) rfl inX7_isNodeOf_X7 (by decide) fX7_isNodeOf_25 dX7_isNodeOf_14 (gfR_e e_q3) ?_
    refine v_iload_n C 1 dX7_isNodeOf_17 rfl rfl ?_
    obtain ⟨x4, e_x4, h⟩ := bnd h
    refine v_iald C dX7_isNodeOf_18 e_x4 ?_
    refine v_iconst C (v := 1) dX7_isNodeOf_19 (by decide) ?_
    refine v_at (pc' := 20) rfl ?_
    refine v_isub C dX7_isNodeOf_20 ?_
    refine v_callSi C (av := [.int a2, .int 0, .int (x4 - 1)]) (rest := []) gX7_isNodeOf_X7_in rfl ⟨rfl, rfl⟩ hS_X7_in ⟨(Nat.le_of_ble_eq_true rfl), (Nat.le_of_ble_eq_true rfl)⟩ (r_X7_in (A := A) rfl) rfl rfl (Nat.le_of_ble_eq_true rfl) dX7_isNodeOf_21 ?_
    refine v_if_eq C (tgt := 31) dX7_isNodeOf_24 (by decide) (fun q => ?_) (fun q => ?_)
    · have h := ite_t q h
      refine v_iconst C (v := 0) dX7_isNodeOf_31 (by decide) ?_
      obtain rfl := Option.some.inj h
      exact v_zret C dX7_isNodeOf_32 bo_0
    · have h := ite_f q h
      refine v_iconst C (v := 1) dX7_isNodeOf_27 (by decide) ?_
      refine v_goto C (tgt := 32) dX7_isNodeOf_28 (by decide) ?_
      obtain rfl := Option.some.inj h
      exact v_zret C dX7_isNodeOf_32 bo_1
theorem hV_X7_isNodeOf : yX7_isNodeOf.cls = RX7 ∧ yX7_isNodeOf.cls ≠ "java/lang/invoke/MethodHandle" ∧ yX7_isNodeOf.cls ≠ "java/lang/invoke/VarHandle" ∧ (parseMethodDescriptor yX7_isNodeOf.desc).map (fun d => d.parameters.length) = some 2 := by decide +kernel
theorem hV_X7_tellNode : yX7_tellNode.cls = RX7 ∧ yX7_tellNode.cls ≠ "java/lang/invoke/MethodHandle" ∧ yX7_tellNode.cls ≠ "java/lang/invoke/VarHandle" ∧ (parseMethodDescriptor yX7_tellNode.desc).map (fun d => d.parameters.length) = some 3 := by decide +kernel
set_option maxRecDepth 100000 in
set_option maxHeartbeats 4000000 in
theorem r_X7_node {l : Launch} {G : GG} {A : Nat → Prop} {n : Nat} {w : Wd} {this : Nat} {a1 : Int32} {a2 : Int32} {a3 : Int32} {z : (Int32 × Wd)} (h : m_X7_node n w this a1 a2 a3 = some z) : Con l yX7_node wsX7_node { frames := 5, cells := 0, slots := 0, locals := 120 } G A [.ref this, .int a1, .int a2, .int a3] w (some (.int z.1)) z.2 := by
  refine Con.of (own := RX7) (cc := cX7_node) (maxL := 4) (ret := (some .int)) rfl (by decide) rfl (Nat.le_of_ble_eq_true rfl) ?_
  intro p e s m args below meth c C
  show V p l e { frames := 5, cells := 0, slots := 0, locals := 120 } s m args below meth c G A 4 0 [(0, .ref this), (1, .int a1), (2, .int a2), (3, .int a3)] [] w (some (.int z.1)) z.2
  unfold m_X7_node at h
  refine v_aload_n C 0 dX7_node_0 rfl rfl ?_
  refine v_aload_n C 0 dX7_node_1 rfl rfl ?_
  refine v_iload_n C 1 dX7_node_2 rfl rfl ?_
  refine v_iload_n C 2 dX7_node_3 rfl rfl ?_
  obtain ⟨u1, e_u1, h⟩ := bnd h
  obtain ⟨z2, e_z2, h⟩ := bnd h
  refine v_callVi C (ci := 6) (av := [.int a1, .int a2]) (rest := [.ref this]) rfl gX7_node_X7_isNodeOf rfl ⟨rfl, rfl⟩ hV_X7_isNodeOf ⟨(Nat.le_of_ble_eq_true rfl), (Nat.le_of_ble_eq_true rfl)⟩ e_u1 (r_X7_isNodeOf (A := A) e_z2) rfl rfl (Nat.le_of_ble_eq_true rfl) dX7_node_4 ?_
  refine v_if_ne C (tgt := 14) dX7_node_7 (by decide) (fun q => ?_) (fun q => ?_)
  · have h := ite_f q h
    refine v_iload_n C 3 dX7_node_14 rfl rfl ?_
    refine v_iconst C (v := 0) dX7_node_15 (by decide) ?_
    refine v_iconst C (v := 5) dX7_node_16 (by decide) ?_
    refine v_callSi C (av := [.int a3, .int 0, .int 5]) (rest := [.ref this]) gX7_node_X7_in rfl ⟨rfl, rfl⟩ hS_X7_in ⟨(Nat.le_of_ble_eq_true rfl), (Nat.le_of_ble_eq_true rfl)⟩ (r_X7_in (A := A) rfl) rfl rfl (Nat.le_of_ble_eq_true rfl) dX7_node_17 ?_
    refine v_if_eq C (tgt := 27) dX7_node_20 (by decide) (fun q => ?_) (fun q => ?_)
    · have h := ite_t q h
      refine v_iconst C (v := 2) dX7_node_27 (by decide) ?_
      obtain ⟨u3, e_u3, h⟩ := bnd h
      obtain ⟨z4, e_z4, h⟩ := bnd h
      refine v_callVi C (ci := 6) (av := [.int 2]) (rest := []) rfl gX7_node_X7_refused rfl ⟨rfl, rfl⟩ hV_X7_refused ⟨(Nat.le_of_ble_eq_true rfl), (Nat.le_of_ble_eq_true rfl)⟩ e_u3 (r_X7_refused (A := A) e_z4) rfl rfl (Nat.le_of_ble_eq_true rfl) dX7_node_28 ?_
      refine v_if_eq C (tgt := 38) dX7_node_31 (by decide) (fun q => ?_) (fun q => ?_)
      · have h := ite_t q h
        refine v_aload_n C 0 dX7_node_38 rfl rfl ?_
        refine v_iload_n C 1 dX7_node_39 rfl rfl ?_
        refine v_iload_n C 2 dX7_node_40 rfl rfl ?_
        refine v_iload_n C 3 dX7_node_41 rfl rfl ?_
        obtain ⟨u5, e_u5, h⟩ := bnd h
        obtain ⟨z6, e_z6, h⟩ := bnd h
        refine v_callVi C (ci := 6) (av := [.int a1, .int a2, .int a3]) (rest := []) rfl gX7_node_X7_tellNode rfl ⟨rfl, rfl⟩ hV_X7_tellNode ⟨(Nat.le_of_ble_eq_true rfl), (Nat.le_of_ble_eq_true rfl)⟩ e_u5 (r_X7_tellNode (A := A) e_z6) rfl rfl (Nat.le_of_ble_eq_true rfl) dX7_node_42 ?_
        obtain rfl := Option.some.inj h
        exact v_iret C dX7_node_45
      · have h := ite_f q h
        refine v_iconst C (v := 0) dX7_node_34 (by decide) ?_
        refine v_goto C (tgt := 45) dX7_node_35 (by decide) ?_
        obtain rfl := Option.some.inj h
        exact v_iret C dX7_node_45
    · have h := ite_f q h
      refine v_iconst C (v := 0) dX7_node_23 (by decide) ?_
      refine v_goto C (tgt := 28) dX7_node_24 (by decide) ?_
      obtain ⟨u7, e_u7, h⟩ := bnd h
      obtain ⟨z8, e_z8, h⟩ := bnd h
      refine v_callVi C (ci := 6) (av := [.int 0]) (rest := []) rfl gX7_node_X7_refused rfl ⟨rfl, rfl⟩ hV_X7_refused ⟨(Nat.le_of_ble_eq_true rfl), (Nat.le_of_ble_eq_true rfl)⟩ e_u7 (r_X7_refused (A := A) e_z8) rfl rfl (Nat.le_of_ble_eq_true rfl) dX7_node_28 ?_
      refine v_if_eq C (tgt := 38) dX7_node_31 (by decide) (fun q => ?_) (fun q => ?_)
      · have h := ite_t q h
        refine v_aload_n C 0 dX7_node_38 rfl rfl ?_
        refine v_iload_n C 1 dX7_node_39 rfl rfl ?_
        refine v_iload_n C 2 dX7_node_40 rfl rfl ?_
        refine v_iload_n C 3 dX7_node_41 rfl rfl ?_
        obtain ⟨u9, e_u9, h⟩ := bnd h
        obtain ⟨z10, e_z10, h⟩ := bnd h
        refine v_callVi C (ci := 6) (av := [.int a1, .int a2, .int a3]) (rest := []) rfl gX7_node_X7_tellNode rfl ⟨rfl, rfl⟩ hV_X7_tellNode ⟨(Nat.le_of_ble_eq_true rfl), (Nat.le_of_ble_eq_true rfl)⟩ e_u9 (r_X7_tellNode (A := A) e_z10) rfl rfl (Nat.le_of_ble_eq_true rfl) dX7_node_42 ?_
        obtain rfl := Option.some.inj h
        exact v_iret C dX7_node_45
      · have h := ite_f q h
        refine v_iconst C (v := 0) dX7_node_34 (by decide) ?_
        refine v_goto C (tgt := 45) dX7_node_35 (by decide) ?_
        obtain rfl := Option.some.inj h
        exact v_iret C dX7_node_45
  · have h := ite_t q h
    refine v_iconst C (v := 1) dX7_node_10 (by decide) ?_
    refine v_goto C (tgt := 28) dX7_node_11 (by decide) ?_
    obtain ⟨u11, e_u11, h⟩ := bnd h
    obtain ⟨z12, e_z12, h⟩ := bnd h
    refine v_callVi C (ci := 6) (av := [.int 1]) (rest := []) rfl gX7_node_X7_refused rfl ⟨rfl, rfl⟩ hV_X7_refused ⟨(Nat.le_of_ble_eq_true rfl), (Nat.le_of_ble_eq_true rfl)⟩ e_u11 (r_X7_refused (A := A) e_z12) rfl rfl (Nat.le_of_ble_eq_true rfl) dX7_node_28 ?_
    refine v_if_eq C (tgt := 38) dX7_node_31 (by decide) (fun q => ?_) (fun q => ?_)
    · have h := ite_t q h
      refine v_aload_n C 0 dX7_node_38 rfl rfl ?_
      refine v_iload_n C 1 dX7_node_39 rfl rfl ?_
      refine v_iload_n C 2 dX7_node_40 rfl rfl ?_
      refine v_iload_n C 3 dX7_node_41 rfl rfl ?_
      obtain ⟨u13, e_u13, h⟩ := bnd h
      obtain ⟨z14, e_z14, h⟩ := bnd h
      refine v_callVi C (ci := 6) (av := [.int a1, .int a2, .int a3]) (rest := []) rfl gX7_node_X7_tellNode rfl ⟨rfl, rfl⟩ hV_X7_tellNode ⟨(Nat.le_of_ble_eq_true rfl), (Nat.le_of_ble_eq_true rfl)⟩ e_u13 (r_X7_tellNode (A := A) e_z14) rfl rfl (Nat.le_of_ble_eq_true rfl) dX7_node_42 ?_
      obtain rfl := Option.some.inj h
      exact v_iret C dX7_node_45
    · have h := ite_f q h
      refine v_iconst C (v := 0) dX7_node_34 (by decide) ?_
      refine v_goto C (tgt := 45) dX7_node_35 (by decide) ?_
      obtain rfl := Option.some.inj h
      exact v_iret C dX7_node_45
theorem hV_X7_tellChild : yX7_tellChild.cls = RX7 ∧ yX7_tellChild.cls ≠ "java/lang/invoke/MethodHandle" ∧ yX7_tellChild.cls ≠ "java/lang/invoke/VarHandle" ∧ (parseMethodDescriptor yX7_tellChild.desc).map (fun d => d.parameters.length) = some 3 := by decide +kernel
set_option maxRecDepth 100000 in
set_option maxHeartbeats 4000000 in
theorem r_X7_child {l : Launch} {G : GG} {A : Nat → Prop} {n : Nat} {w : Wd} {this : Nat} {a1 : Int32} {a2 : Int32} {a3 : Int32} {z : (Int32 × Wd)} (h : m_X7_child n w this a1 a2 a3 = some z) : Con l yX7_child wsX7_child { frames := 5, cells := 0, slots := 0, locals := 118 } G A [.ref this, .int a1, .int a2, .int a3] w (some (.int z.1)) z.2 := by
  refine Con.of (own := RX7) (cc := cX7_child) (maxL := 4) (ret := (some .int)) rfl (by decide) rfl (Nat.le_of_ble_eq_true rfl) ?_
  intro p e s m args below meth c C
  show V p l e { frames := 5, cells := 0, slots := 0, locals := 118 } s m args below meth c G A 4 0 [(0, .ref this), (1, .int a1), (2, .int a2), (3, .int a3)] [] w (some (.int z.1)) z.2
  unfold m_X7_child at h
  refine v_aload_n C 0 dX7_child_0 rfl rfl ?_
  refine v_aload_n C 0 dX7_child_1 rfl rfl ?_
  refine v_iload_n C 1 dX7_child_2 rfl rfl ?_
  refine v_iload_n C 2 dX7_child_3 rfl rfl ?_
  obtain ⟨u1, e_u1, h⟩ := bnd h
  obtain ⟨z2, e_z2, h⟩ := bnd h
  refine v_callVi C (ci := 6) (av := [.int a1, .int a2]) (rest := [.ref this]) rfl gX7_child_X7_isNodeOf rfl ⟨rfl, rfl⟩ hV_X7_isNodeOf ⟨(Nat.le_of_ble_eq_true rfl), (Nat.le_of_ble_eq_true rfl)⟩ e_u1 (r_X7_isNodeOf (A := A) e_z2) rfl rfl (Nat.le_of_ble_eq_true rfl) dX7_child_4 ?_
  refine v_if_ne C (tgt := 14) dX7_child_7 (by decide) (fun q => ?_) (fun q => ?_)
  · have h := ite_f q h
    refine v_iload_n C 3 dX7_child_14 rfl rfl ?_
    refine v_iconst C (v := 0) dX7_child_15 (by decide) ?_
    refine v_iconst C (v := 3) dX7_child_16 (by decide) ?_
    refine v_callSi C (av := [.int a3, .int 0, .int 3]) (rest := [.ref this]) gX7_child_X7_in rfl ⟨rfl, rfl⟩ hS_X7_in ⟨(Nat.le_of_ble_eq_true rfl), (Nat.le_of_ble_eq_true rfl)⟩ (r_X7_in (A := A) rfl) rfl rfl (Nat.le_of_ble_eq_true rfl) dX7_child_17 ?_
    refine v_if_eq C (tgt := 27) dX7_child_20 (by decide) (fun q => ?_) (fun q => ?_)
    · have h := ite_t q h
      refine v_iconst C (v := 2) dX7_child_27 (by decide) ?_
      obtain ⟨u3, e_u3, h⟩ := bnd h
      obtain ⟨z4, e_z4, h⟩ := bnd h
      refine v_callVi C (ci := 6) (av := [.int 2]) (rest := []) rfl gX7_child_X7_refused rfl ⟨rfl, rfl⟩ hV_X7_refused ⟨(Nat.le_of_ble_eq_true rfl), (Nat.le_of_ble_eq_true rfl)⟩ e_u3 (r_X7_refused (A := A) e_z4) rfl rfl (Nat.le_of_ble_eq_true rfl) dX7_child_28 ?_
      refine v_if_eq C (tgt := 38) dX7_child_31 (by decide) (fun q => ?_) (fun q => ?_)
      · have h := ite_t q h
        refine v_aload_n C 0 dX7_child_38 rfl rfl ?_
        refine v_iload_n C 1 dX7_child_39 rfl rfl ?_
        refine v_iload_n C 2 dX7_child_40 rfl rfl ?_
        refine v_iload_n C 3 dX7_child_41 rfl rfl ?_
        obtain ⟨u5, e_u5, h⟩ := bnd h
        obtain ⟨z6, e_z6, h⟩ := bnd h
        refine v_callVi C (ci := 6) (av := [.int a1, .int a2, .int a3]) (rest := []) rfl gX7_child_X7_tellChild rfl ⟨rfl, rfl⟩ hV_X7_tellChild ⟨(Nat.le_of_ble_eq_true rfl), (Nat.le_of_ble_eq_true rfl)⟩ e_u5 (r_X7_tellChild (A := A) e_z6) rfl rfl (Nat.le_of_ble_eq_true rfl) dX7_child_42 ?_
        obtain rfl := Option.some.inj h
        exact v_iret C dX7_child_45
      · have h := ite_f q h
        refine v_iconst C (v := 0) dX7_child_34 (by decide) ?_
        refine v_goto C (tgt := 45) dX7_child_35 (by decide) ?_
        obtain rfl := Option.some.inj h
        exact v_iret C dX7_child_45
    · have h := ite_f q h
      refine v_iconst C (v := 0) dX7_child_23 (by decide) ?_
      refine v_goto C (tgt := 28) dX7_child_24 (by decide) ?_
      obtain ⟨u7, e_u7, h⟩ := bnd h
      obtain ⟨z8, e_z8, h⟩ := bnd h
      refine v_callVi C (ci := 6) (av := [.int 0]) (rest := []) rfl gX7_child_X7_refused rfl ⟨rfl, rfl⟩ hV_X7_refused ⟨(Nat.le_of_ble_eq_true rfl), (Nat.le_of_ble_eq_true rfl)⟩ e_u7 (r_X7_refused (A := A) e_z8) rfl rfl (Nat.le_of_ble_eq_true rfl) dX7_child_28 ?_
      refine v_if_eq C (tgt := 38) dX7_child_31 (by decide) (fun q => ?_) (fun q => ?_)
      · have h := ite_t q h
        refine v_aload_n C 0 dX7_child_38 rfl rfl ?_
        refine v_iload_n C 1 dX7_child_39 rfl rfl ?_
        refine v_iload_n C 2 dX7_child_40 rfl rfl ?_
        refine v_iload_n C 3 dX7_child_41 rfl rfl ?_
        obtain ⟨u9, e_u9, h⟩ := bnd h
        obtain ⟨z10, e_z10, h⟩ := bnd h
        refine v_callVi C (ci := 6) (av := [.int a1, .int a2, .int a3]) (rest := []) rfl gX7_child_X7_tellChild rfl ⟨rfl, rfl⟩ hV_X7_tellChild ⟨(Nat.le_of_ble_eq_true rfl), (Nat.le_of_ble_eq_true rfl)⟩ e_u9 (r_X7_tellChild (A := A) e_z10) rfl rfl (Nat.le_of_ble_eq_true rfl) dX7_child_42 ?_
        obtain rfl := Option.some.inj h
        exact v_iret C dX7_child_45
      · have h := ite_f q h
        refine v_iconst C (v := 0) dX7_child_34 (by decide) ?_
        refine v_goto C (tgt := 45) dX7_child_35 (by decide) ?_
        obtain rfl := Option.some.inj h
        exact v_iret C dX7_child_45
  · have h := ite_t q h
    refine v_iconst C (v := 1) dX7_child_10 (by decide) ?_
    refine v_goto C (tgt := 28) dX7_child_11 (by decide) ?_
    obtain ⟨u11, e_u11, h⟩ := bnd h
    obtain ⟨z12, e_z12, h⟩ := bnd h
    refine v_callVi C (ci := 6) (av := [.int 1]) (rest := []) rfl gX7_child_X7_refused rfl ⟨rfl, rfl⟩ hV_X7_refused ⟨(Nat.le_of_ble_eq_true rfl), (Nat.le_of_ble_eq_true rfl)⟩ e_u11 (r_X7_refused (A := A) e_z12) rfl rfl (Nat.le_of_ble_eq_true rfl) dX7_child_28 ?_
    refine v_if_eq C (tgt := 38) dX7_child_31 (by decide) (fun q => ?_) (fun q => ?_)
    · have h := ite_t q h
      refine v_aload_n C 0 dX7_child_38 rfl rfl ?_
      refine v_iload_n C 1 dX7_child_39 rfl rfl ?_
      refine v_iload_n C 2 dX7_child_40 rfl rfl ?_
      refine v_iload_n C 3 dX7_child_41 rfl rfl ?_
      obtain ⟨u13, e_u13, h⟩ := bnd h
      obtain ⟨z14, e_z14, h⟩ := bnd h
      refine v_callVi C (ci := 6) (av := [.int a1, .int a2, .int a3]) (rest := []) rfl gX7_child_X7_tellChild rfl ⟨rfl, rfl⟩ hV_X7_tellChild ⟨(Nat.le_of_ble_eq_true rfl), (Nat.le_of_ble_eq_true rfl)⟩ e_u13 (r_X7_tellChild (A := A) e_z14) rfl rfl (Nat.le_of_ble_eq_true rfl) dX7_child_42 ?_
      obtain rfl := Option.some.inj h
      exact v_iret C dX7_child_45
    · have h := ite_f q h
      refine v_iconst C (v := 0) dX7_child_34 (by decide) ?_
      refine v_goto C (tgt := 45) dX7_child_35 (by decide) ?_
      obtain rfl := Option.some.inj h
      exact v_iret C dX7_child_45
theorem fX7_finds_221 : Cond.fieldLink RX7 221 (TX7 15).1 (TX7 15).2.1 (TX7 15).2.2.1 ∈ wsX7_finds := by decide +kernel
theorem inX7_finds_X7 : ∀ x ∈ u_ws RX7 TX7 20, x ∈ wsX7_finds := by decide +kernel
theorem cX7_finds_187 : Cond.constant RX7 187 (100000) ∈ wsX7_finds := by decide +kernel
set_option maxRecDepth 100000 in
set_option maxHeartbeats 4000000 in
theorem r_X7_finds_p45 {p : Program} {l : Launch} {e : Env} {s : State} {m : MethodId} {args : Array Value} {below : List Frame} {meth : Method} {c : Code} {G : GG} {A : Nat → Prop} (C : Cx p s m args meth c G A cX7_finds 6 RX7 wsX7_finds (some .int)) (n : Nat) {z : (Int32 × Wd)} : ∀ (t : Nat), ∀ (w : Wd) (a0 : Nat) (a1 : Int32) (a3 : Int32) (a4 : Int32), m_X7_finds_p45 n t w a0 a1 a3 a4 = some z → V p l e { frames := 4, cells := 0, slots := 0, locals := 94 } s m args below meth c G A 6 45 [(0, .ref a0), (1, .int a1), (3, .int a3), (4, .int a4)] [] w (some (.int z.1)) z.2 := by
  intro t
  induction t with
  | zero =>
    intro w a0 a1 a3 a4 h
    rw [m_X7_finds_p45] at h
    cases h
  | succ t ih =>
    intro w a0 a1 a3 a4 h
    rw [m_X7_finds_p45] at h
    refine v_iload_n C 2 dX7_finds_45 rfl rfl ?_
    refine v_if_lt C (tgt := 134) dX7_finds_46 (by decide) (fun q => ?_) (fun q => ?_)
    · have h := ite_t q h
      refine v_iload C 3 dX7_finds_134 rfl ?_
      obtain rfl := Option.some.inj h
      exact v_iret C dX7_finds_136
    · have h := ite_f q h
      refine v_aload_n C 0 dX7_finds_49 rfl rfl ?_
      refine v_iload_n C 2 dX7_finds_50 rfl rfl ?_
      refine v_iload C 3 dX7_finds_51 rfl ?_
      refine v_iload_n C 1 dX7_finds_53 rfl rfl ?_
      refine v_iconst C (v := 2) dX7_finds_54 (by decide) ?_
      refine v_iload C 3 dX7_finds_55 rfl ?_
      refine v_callSi C (av := [.int a4]) (rest := [.int 2, .int a1, .int a4, .int a3, .ref a0]) gX7_finds_X7_span rfl ⟨rfl, rfl⟩ hS_X7_span ⟨(Nat.le_of_ble_eq_true rfl), (Nat.le_of_ble_eq_true rfl)⟩ (r_X7_span (A := A) rfl) rfl rfl (Nat.le_of_ble_eq_true rfl) dX7_finds_57 ?_
      refine v_at (pc' := 60) rfl ?_
      refine v_imul C dX7_finds_60 ?_
      refine v_iconst C (v := 2) dX7_finds_61 (by decide) ?_
      refine v_isub C dX7_finds_62 ?_
      refine v_ishr C dX7_finds_63 ?_
      refine v_iconst C (v := 3) dX7_finds_64 (by decide) ?_
      refine v_iand C dX7_finds_65 ?_
      obtain ⟨u1, e_u1, h⟩ := bnd h
      obtain ⟨z2, e_z2, h⟩ := bnd h
      refine v_callVi C (ci := 6) (av := [.int a3, .int a4, .int ((a1 >>> (((2 * (m_X7_span a4)) - 2) &&& 31 : Int32)) &&& 3)]) (rest := []) rfl gX7_finds_X7_childOf rfl ⟨rfl, rfl⟩ hV_X7_childOf ⟨(Nat.le_of_ble_eq_true rfl), (Nat.le_of_ble_eq_true rfl)⟩ e_u1 (r_X7_childOf (A := A) e_z2) rfl rfl (Nat.le_of_ble_eq_true rfl) dX7_finds_66 ?_
      refine v_istore C (lv' := [(5, .int z2.1), (0, .ref a0), (1, .int a1), (3, .int a3), (4, .int a4)]) dX7_finds_69 (by decide) rfl ?_
      refine v_at (pc' := 71) rfl ?_
      refine v_iload C 0 dX7_finds_71 rfl ?_
      refine v_iconst C (v := (-1)) dX7_finds_73 (by decide) ?_
      refine v_icmp_eq C (tgt := 110) dX7_finds_74 (by decide) (fun q => ?_) (fun q => ?_)
      · have h := ite_t q h
        refine v_aload_n C 1 dX7_finds_110 rfl rfl ?_
        refine v_dup C dX7_finds_111 rfl ?_
        obtain ⟨x3, e_x3, h⟩ := bnd h
        refine v_getf C (ci := 6) (k := 15) rfl inX7_finds_X7 (by decide) fX7_finds_221 dX7_finds_112 (gfI_e e_x3) ?_
        refine v_iload_n C 3 dX7_finds_115 rfl rfl ?_
        refine v_if_le C (tgt := 123) dX7_finds_116 (by decide) (fun q => ?_) (fun q => ?_)
        · have h := ite_t q h
          refine v_iconst C (v := 0) dX7_finds_123 (by decide) ?_
          refine v_iadd C dX7_finds_124 ?_
          obtain ⟨w4, e_w4, h⟩ := bnd h
          refine v_putf C (ci := 6) (k := 15) rfl inX7_finds_X7 tyX7_ok nmX7 (by decide) fX7_finds_221 rfl (tyX7_ok 15 (by decide)) rfl rfl dX7_finds_125 e_w4 ?_
          refine v_iinc C (k := 3) (v := (a3 + (-1))) (lv' := [(3, .int (a3 + (-1))), (5, .int z2.1), (0, .ref a0), (1, .int a1), (4, .int a4)]) dX7_finds_128 rfl rfl (by decide) rfl ?_
          refine v_goto C (tgt := 45) dX7_finds_131 (by decide) ?_
          refine v_sub [2, 3, 0, 4] rfl ?_
          exact ih _ _ _ _ _ h
        · have h := ite_f q h
          refine v_iconst C (v := 1) dX7_finds_119 (by decide) ?_
          refine v_goto C (tgt := 124) dX7_finds_120 (by decide) ?_
          refine v_iadd C dX7_finds_124 ?_
          obtain ⟨w5, e_w5, h⟩ := bnd h
          refine v_putf C (ci := 6) (k := 15) rfl inX7_finds_X7 tyX7_ok nmX7 (by decide) fX7_finds_221 rfl (tyX7_ok 15 (by decide)) rfl rfl dX7_finds_125 e_w5 ?_
          refine v_iinc C (k := 3) (v := (a3 + (-1))) (lv' := [(3, .int (a3 + (-1))), (5, .int z2.1), (0, .ref a0), (1, .int a1), (4, .int a4)]) dX7_finds_128 rfl rfl (by decide) rfl ?_
          refine v_goto C (tgt := 45) dX7_finds_131 (by decide) ?_
          refine v_sub [2, 3, 0, 4] rfl ?_
          exact ih _ _ _ _ _ h
      · have h := ite_f q h
        refine v_iload C 0 dX7_finds_77 rfl ?_
        refine v_ldc C dX7_finds_79 cX7_finds_187 ?_
        refine v_icmp_ge C (tgt := 110) dX7_finds_81 (by decide) (fun q => ?_) (fun q => ?_)
        · have h := ite_t q h
          refine v_aload_n C 1 dX7_finds_110 rfl rfl ?_
          refine v_dup C dX7_finds_111 rfl ?_
          obtain ⟨x6, e_x6, h⟩ := bnd h
          refine v_getf C (ci := 6) (k := 15) rfl inX7_finds_X7 (by decide) fX7_finds_221 dX7_finds_112 (gfI_e e_x6) ?_
          refine v_iload_n C 3 dX7_finds_115 rfl rfl ?_
          refine v_if_le C (tgt := 123) dX7_finds_116 (by decide) (fun q => ?_) (fun q => ?_)
          · have h := ite_t q h
            refine v_iconst C (v := 0) dX7_finds_123 (by decide) ?_
            refine v_iadd C dX7_finds_124 ?_
            obtain ⟨w7, e_w7, h⟩ := bnd h
            refine v_putf C (ci := 6) (k := 15) rfl inX7_finds_X7 tyX7_ok nmX7 (by decide) fX7_finds_221 rfl (tyX7_ok 15 (by decide)) rfl rfl dX7_finds_125 e_w7 ?_
            refine v_iinc C (k := 3) (v := (a3 + (-1))) (lv' := [(3, .int (a3 + (-1))), (5, .int z2.1), (0, .ref a0), (1, .int a1), (4, .int a4)]) dX7_finds_128 rfl rfl (by decide) rfl ?_
            refine v_goto C (tgt := 45) dX7_finds_131 (by decide) ?_
            refine v_sub [2, 3, 0, 4] rfl ?_
            exact ih _ _ _ _ _ h
          · have h := ite_f q h
            refine v_iconst C (v := 1) dX7_finds_119 (by decide) ?_
            refine v_goto C (tgt := 124) dX7_finds_120 (by decide) ?_
            refine v_iadd C dX7_finds_124 ?_
            obtain ⟨w8, e_w8, h⟩ := bnd h
            refine v_putf C (ci := 6) (k := 15) rfl inX7_finds_X7 tyX7_ok nmX7 (by decide) fX7_finds_221 rfl (tyX7_ok 15 (by decide)) rfl rfl dX7_finds_125 e_w8 ?_
            refine v_iinc C (k := 3) (v := (a3 + (-1))) (lv' := [(3, .int (a3 + (-1))), (5, .int z2.1), (0, .ref a0), (1, .int a1), (4, .int a4)]) dX7_finds_128 rfl rfl (by decide) rfl ?_
            refine v_goto C (tgt := 45) dX7_finds_131 (by decide) ?_
            refine v_sub [2, 3, 0, 4] rfl ?_
            exact ih _ _ _ _ _ h
        · have h := ite_f q h
          refine v_iload C 0 dX7_finds_84 rfl ?_
          refine v_iload_n C 2 dX7_finds_86 rfl rfl ?_
          refine v_callSi C (av := [.int z2.1, .int a1]) (rest := []) gX7_finds_X7_holds rfl ⟨rfl, rfl⟩ hS_X7_holds ⟨(Nat.le_of_ble_eq_true rfl), (Nat.le_of_ble_eq_true rfl)⟩ (r_X7_holds (A := A) rfl) rfl rfl (Nat.le_of_ble_eq_true rfl) dX7_finds_87 ?_
          refine v_if_eq C (tgt := 110) dX7_finds_90 (by decide) (fun q => ?_) (fun q => ?_)
          · have h := ite_t q h
            refine v_aload_n C 1 dX7_finds_110 rfl rfl ?_
            refine v_dup C dX7_finds_111 rfl ?_
            obtain ⟨x9, e_x9, h⟩ := bnd h
            refine v_getf C (ci := 6) (k := 15) rfl inX7_finds_X7 (by decide) fX7_finds_221 dX7_finds_112 (gfI_e e_x9) ?_
            refine v_iload_n C 3 dX7_finds_115 rfl rfl ?_
            refine v_if_le C (tgt := 123) dX7_finds_116 (by decide) (fun q => ?_) (fun q => ?_)
            · have h := ite_t q h
              refine v_iconst C (v := 0) dX7_finds_123 (by decide) ?_
              refine v_iadd C dX7_finds_124 ?_
              obtain ⟨w10, e_w10, h⟩ := bnd h
              refine v_putf C (ci := 6) (k := 15) rfl inX7_finds_X7 tyX7_ok nmX7 (by decide) fX7_finds_221 rfl (tyX7_ok 15 (by decide)) rfl rfl dX7_finds_125 e_w10 ?_
              refine v_iinc C (k := 3) (v := (a3 + (-1))) (lv' := [(3, .int (a3 + (-1))), (5, .int z2.1), (0, .ref a0), (1, .int a1), (4, .int a4)]) dX7_finds_128 rfl rfl (by decide) rfl ?_
              refine v_goto C (tgt := 45) dX7_finds_131 (by decide) ?_
              refine v_sub [2, 3, 0, 4] rfl ?_
              exact ih _ _ _ _ _ h
            · have h := ite_f q h
              refine v_iconst C (v := 1) dX7_finds_119 (by decide) ?_
              refine v_goto C (tgt := 124) dX7_finds_120 (by decide) ?_
              refine v_iadd C dX7_finds_124 ?_
              obtain ⟨w11, e_w11, h⟩ := bnd h
              refine v_putf C (ci := 6) (k := 15) rfl inX7_finds_X7 tyX7_ok nmX7 (by decide) fX7_finds_221 rfl (tyX7_ok 15 (by decide)) rfl rfl dX7_finds_125 e_w11 ?_
              refine v_iinc C (k := 3) (v := (a3 + (-1))) (lv' := [(3, .int (a3 + (-1))), (5, .int z2.1), (0, .ref a0), (1, .int a1), (4, .int a4)]) dX7_finds_128 rfl rfl (by decide) rfl ?_
              refine v_goto C (tgt := 45) dX7_finds_131 (by decide) ?_
              refine v_sub [2, 3, 0, 4] rfl ?_
              exact ih _ _ _ _ _ h
          · have h := ite_f q h
            refine v_iload C 0 dX7_finds_93 rfl ?_
            refine v_istore C (lv' := [(4, .int z2.1), (5, .int z2.1), (0, .ref a0), (1, .int a1), (3, .int a3)]) dX7_finds_95 (by decide) rfl ?_
            refine v_aload_n C 2 dX7_finds_97 rfl rfl ?_
            refine v_dup C dX7_finds_98 rfl ?_
            obtain ⟨x12, e_x12, h⟩ := bnd h
            refine v_getf C (ci := 6) (k := 15) rfl inX7_finds_X7 (by decide) fX7_finds_221 dX7_finds_99 (gfI_e e_x12) ?_
            refine v_iconst C (v := 1) dX7_finds_102 (by decide) ?_
            refine v_iadd C dX7_finds_103 ?_
            refine v_at (pc' := 104) rfl ?_
            obtain ⟨w13, e_w13, h⟩ := bnd h
            refine v_putf C (ci := 6) (k := 15) rfl inX7_finds_X7 tyX7_ok nmX7 (by decide) fX7_finds_221 rfl (tyX7_ok 15 (by decide)) rfl rfl dX7_finds_104 e_w13 ?_
            refine v_goto C (tgt := 131) dX7_finds_107 (by decide) ?_
            refine v_goto C (tgt := 45) dX7_finds_131 (by decide) ?_
            refine v_sub [2, 3, 4, 0] rfl ?_
            exact ih _ _ _ _ _ h
set_option maxRecDepth 100000 in
set_option maxHeartbeats 4000000 in
theorem r_X7_finds_p37 {p : Program} {l : Launch} {e : Env} {s : State} {m : MethodId} {args : Array Value} {below : List Frame} {meth : Method} {c : Code} {G : GG} {A : Nat → Prop} (C : Cx p s m args meth c G A cX7_finds 6 RX7 wsX7_finds (some .int)) (n : Nat) {z : (Int32 × Wd)} : ∀ (w : Wd) (a0 : Nat) (a1 : Int32) (a3 : Int32), m_X7_finds_p37 n w a0 a1 a3 = some z → V p l e { frames := 4, cells := 0, slots := 0, locals := 94 } s m args below meth c G A 6 37 [(0, .ref a0), (1, .int a1), (3, .int a3)] [] w (some (.int z.1)) z.2 := by
  intro w a0 a1 a3 h
  unfold m_X7_finds_p37 at h
  refine v_iconst C (v := 0) dX7_finds_37 (by decide) ?_
  refine v_istore C (lv' := [(4, .int 0), (0, .ref a0), (1, .int a1), (3, .int a3)]) dX7_finds_38 (by decide) rfl ?_
  refine v_aload_n C 1 dX7_finds_40 rfl rfl ?_
  refine v_iconst C (v := 0) dX7_finds_41 (by decide) ?_
  obtain ⟨w1, e_w1, h⟩ := bnd h
  refine v_putf C (ci := 6) (k := 15) rfl inX7_finds_X7 tyX7_ok nmX7 (by decide) fX7_finds_221 rfl (tyX7_ok 15 (by decide)) rfl rfl dX7_finds_42 e_w1 ?_
  refine v_sub [1, 2, 3, 0] rfl ?_
  exact r_X7_finds_p45 C n n _ _ _ _ _ h
set_option maxRecDepth 100000 in
set_option maxHeartbeats 4000000 in
theorem r_X7_finds_p5 {p : Program} {l : Launch} {e : Env} {s : State} {m : MethodId} {args : Array Value} {below : List Frame} {meth : Method} {c : Code} {G : GG} {A : Nat → Prop} (C : Cx p s m args meth c G A cX7_finds 6 RX7 wsX7_finds (some .int)) (n : Nat) {z : (Int32 × Wd)} : ∀ (t : Nat), ∀ (w : Wd) (a0 : Nat) (a1 : Int32) (a2 : Int32) (a3 : Int32) (a4 : Int32), m_X7_finds_p5 n t w a0 a1 a2 a3 a4 = some z → V p l e { frames := 4, cells := 0, slots := 0, locals := 94 } s m args below meth c G A 6 5 [(0, .ref a0), (1, .int a1), (2, .int a2), (3, .int a3), (4, .int a4)] [] w (some (.int z.1)) z.2 := by
  intro t
  induction t with
  | zero =>
    intro w a0 a1 a2 a3 a4 h
    rw [m_X7_finds_p5] at h
    cases h
  | succ t ih =>
    intro w a0 a1 a2 a3 a4 h
    rw [m_X7_finds_p5] at h
    refine v_iload C 4 dX7_finds_5 rfl ?_
    refine v_iconst C (v := 5) dX7_finds_7 (by decide) ?_
    refine v_icmp_ge C (tgt := 37) dX7_finds_8 (by decide) (fun q => ?_) (fun q => ?_)
    · have h := ite_t q h
      refine v_sub [0, 1, 3] rfl ?_
      exact r_X7_finds_p37 C n _ _ _ _ h
    · have h := ite_f q h
      refine v_iload_n C 2 dX7_finds_11 rfl rfl ?_
      refine v_if_eq C (tgt := 37) dX7_finds_12 (by decide) (fun q => ?_) (fun q => ?_)
      · have h := ite_t q h
        refine v_sub [0, 1, 3] rfl ?_
        exact r_X7_finds_p37 C n _ _ _ _ h
      · have h := ite_f q h
        refine v_aload_n C 0 dX7_finds_15 rfl rfl ?_
        refine v_iload C 4 dX7_finds_16 rfl ?_
        obtain ⟨u1, e_u1, h⟩ := bnd h
        obtain ⟨x2, e_x2, h⟩ := bnd h
        refine v_callVi C (ci := 6) (av := [.int a4]) (rest := []) rfl gX7_finds_X7_pointsOn rfl ⟨rfl, rfl⟩ hV_X7_pointsOn ⟨(Nat.le_of_ble_eq_true rfl), (Nat.le_of_ble_eq_true rfl)⟩ e_u1 (r_X7_pointsOn (A := A) e_x2) rfl rfl (Nat.le_of_ble_eq_true rfl) dX7_finds_18 ?_
        refine v_if_le C (tgt := 29) dX7_finds_21 (by decide) (fun q => ?_) (fun q => ?_)
        · have h := ite_t q h
          refine v_iload_n C 3 dX7_finds_29 rfl rfl ?_
          refine v_istore_n C (lv' := [(3, .int a3), (0, .ref a0), (1, .int a1), (2, .int a2), (4, .int a4)]) dX7_finds_30 rfl (by decide) rfl ?_
          refine v_iinc C (k := 4) (v := (a4 + 1)) (lv' := [(4, .int (a4 + 1)), (3, .int a3), (0, .ref a0), (1, .int a1), (2, .int a2)]) dX7_finds_31 rfl rfl (by decide) rfl ?_
          refine v_goto C (tgt := 5) dX7_finds_34 (by decide) ?_
          refine v_sub [2, 3, 4, 1, 0] rfl ?_
          exact ih _ _ _ _ _ _ h
        · have h := ite_f q h
          refine v_iload C 4 dX7_finds_24 rfl ?_
          refine v_goto C (tgt := 30) dX7_finds_26 (by decide) ?_
          refine v_istore_n C (lv' := [(3, .int a4), (0, .ref a0), (1, .int a1), (2, .int a2), (4, .int a4)]) dX7_finds_30 rfl (by decide) rfl ?_
          refine v_iinc C (k := 4) (v := (a4 + 1)) (lv' := [(4, .int (a4 + 1)), (3, .int a4), (0, .ref a0), (1, .int a1), (2, .int a2)]) dX7_finds_31 rfl rfl (by decide) rfl ?_
          refine v_goto C (tgt := 5) dX7_finds_34 (by decide) ?_
          refine v_sub [2, 3, 4, 1, 0] rfl ?_
          exact ih _ _ _ _ _ _ h
set_option maxRecDepth 100000 in
set_option maxHeartbeats 4000000 in
theorem r_X7_finds {l : Launch} {G : GG} {A : Nat → Prop} {n : Nat} {w : Wd} {this : Nat} {a1 : Int32} {a2 : Int32} {z : (Int32 × Wd)} (h : m_X7_finds n w this a1 a2 = some z) : Con l yX7_finds wsX7_finds { frames := 4, cells := 0, slots := 0, locals := 94 } G A [.ref this, .int a1, .int a2] w (some (.int z.1)) z.2 := by
  refine Con.of (own := RX7) (cc := cX7_finds) (maxL := 6) (ret := (some .int)) rfl (by decide) rfl (Nat.le_of_ble_eq_true rfl) ?_
  intro p e s m args below meth c C
  show V p l e { frames := 4, cells := 0, slots := 0, locals := 94 } s m args below meth c G A 6 0 [(0, .ref this), (1, .int a1), (2, .int a2)] [] w (some (.int z.1)) z.2
  unfold m_X7_finds at h
  refine v_iconst C (v := 0) dX7_finds_0 (by decide) ?_
  refine v_istore_n C (lv' := [(3, .int 0), (0, .ref this), (1, .int a1), (2, .int a2)]) dX7_finds_1 rfl (by decide) rfl ?_
  refine v_iconst C (v := 1) dX7_finds_2 (by decide) ?_
  refine v_istore C (lv' := [(4, .int 1), (3, .int 0), (0, .ref this), (1, .int a1), (2, .int a2)]) dX7_finds_3 (by decide) rfl ?_
  refine v_sub [2, 3, 4, 1, 0] rfl ?_
  exact r_X7_finds_p5 C n n _ _ _ _ _ _ h
theorem hV_X7_finds : yX7_finds.cls = RX7 ∧ yX7_finds.cls ≠ "java/lang/invoke/MethodHandle" ∧ yX7_finds.cls ≠ "java/lang/invoke/VarHandle" ∧ (parseMethodDescriptor yX7_finds.desc).map (fun d => d.parameters.length) = some 2 := by decide +kernel
theorem fX7_search_221 : Cond.fieldLink RX7 221 (TX7 15).1 (TX7 15).2.1 (TX7 15).2.2.1 ∈ wsX7_search := by decide +kernel
theorem inX7_search_X7 : ∀ x ∈ u_ws RX7 TX7 20, x ∈ wsX7_search := by decide +kernel
set_option maxRecDepth 100000 in
set_option maxHeartbeats 4000000 in
theorem r_X7_search {l : Launch} {G : GG} {A : Nat → Prop} {n : Nat} {w : Wd} {this : Nat} {a1 : Int32} {a2 : Int32} {a3 : Int32} {a4 : Int32} {z : (Int32 × Wd)} (h : m_X7_search n w this a1 a2 a3 a4 = some z) : Con l yX7_search wsX7_search { frames := 5, cells := 0, slots := 0, locals := 119 } G A [.ref this, .int a1, .int a2, .int a3, .int a4] w (some (.int z.1)) z.2 := by
  refine Con.of (own := RX7) (cc := cX7_search) (maxL := 6) (ret := (some .int)) rfl (by decide) rfl (Nat.le_of_ble_eq_true rfl) ?_
  intro p e s m args below meth c C
  show V p l e { frames := 5, cells := 0, slots := 0, locals := 119 } s m args below meth c G A 6 0 [(0, .ref this), (1, .int a1), (2, .int a2), (3, .int a3), (4, .int a4)] [] w (some (.int z.1)) z.2
  unfold m_X7_search at h
  refine v_aload_n C 0 dX7_search_0 rfl rfl ?_
  refine v_iload_n C 1 dX7_search_1 rfl rfl ?_
  refine v_iload_n C 2 dX7_search_2 rfl rfl ?_
  refine v_callSi C (av := [.int a1, .int a2]) (rest := [.ref this]) gX7_search_X7_isPlace rfl ⟨rfl, rfl⟩ hS_X7_isPlace ⟨(Nat.le_of_ble_eq_true rfl), (Nat.le_of_ble_eq_true rfl)⟩ (r_X7_isPlace (A := A) rfl) rfl rfl (Nat.le_of_ble_eq_true rfl) dX7_search_3 ?_
  refine v_if_eq C (tgt := 23) dX7_search_6 (by decide) (fun q => ?_) (fun q => ?_)
  · have h := ite_t q h
    refine v_iconst C (v := 1) dX7_search_23 (by decide) ?_
    obtain ⟨u1, e_u1, h⟩ := bnd h
    obtain ⟨z2, e_z2, h⟩ := bnd h
    refine v_callVi C (ci := 6) (av := [.int 1]) (rest := []) rfl gX7_search_X7_refused rfl ⟨rfl, rfl⟩ hV_X7_refused ⟨(Nat.le_of_ble_eq_true rfl), (Nat.le_of_ble_eq_true rfl)⟩ e_u1 (r_X7_refused (A := A) e_z2) rfl rfl (Nat.le_of_ble_eq_true rfl) dX7_search_24 ?_
    refine v_if_eq C (tgt := 32) dX7_search_27 (by decide) (fun q => ?_) (fun q => ?_)
    · have h := ite_t q h
      refine v_aload_n C 0 dX7_search_32 rfl rfl ?_
      obtain ⟨u3, e_u3, h⟩ := bnd h
      obtain ⟨z4, e_z4, h⟩ := bnd h
      refine v_callVv C (ci := 6) (av := []) (rest := []) rfl gX7_search_X7_lays rfl ⟨rfl, rfl⟩ hV_X7_lays ⟨(Nat.le_of_ble_eq_true rfl), (Nat.le_of_ble_eq_true rfl)⟩ e_u3 (r_X7_lays (A := A) e_z4) rfl rfl (Nat.le_of_ble_eq_true rfl) dX7_search_33 ?_
      refine v_aload_n C 0 dX7_search_36 rfl rfl ?_
      refine v_iload_n C 1 dX7_search_37 rfl rfl ?_
      refine v_iload_n C 2 dX7_search_38 rfl rfl ?_
      obtain ⟨x5, e_x5, h⟩ := bnd h
      refine v_callSi C (av := [.int a1, .int a2]) (rest := [.ref this]) gX7_search_X7_codeOf rfl ⟨rfl, rfl⟩ hS_X7_codeOf ⟨(Nat.le_of_ble_eq_true rfl), (Nat.le_of_ble_eq_true rfl)⟩ (r_X7_codeOf (A := A) e_x5) rfl rfl (Nat.le_of_ble_eq_true rfl) dX7_search_39 ?_
      refine v_iload_n C 3 dX7_search_42 rfl rfl ?_
      refine v_at (pc' := 43) rfl ?_
      obtain ⟨u6, e_u6, h⟩ := bnd h
      obtain ⟨z7, e_z7, h⟩ := bnd h
      refine v_callVi C (ci := 6) (av := [.int x5, .int a3]) (rest := []) rfl gX7_search_X7_finds rfl ⟨rfl, rfl⟩ hV_X7_finds ⟨(Nat.le_of_ble_eq_true rfl), (Nat.le_of_ble_eq_true rfl)⟩ e_u6 (r_X7_finds (A := A) e_z7) rfl rfl (Nat.le_of_ble_eq_true rfl) dX7_search_43 ?_
      refine v_istore C (lv' := [(5, .int z7.1), (0, .ref this), (1, .int a1), (2, .int a2), (3, .int a3), (4, .int a4)]) dX7_search_46 (by decide) rfl ?_
      refine v_iload C 5 dX7_search_48 rfl ?_
      refine v_if_ne C (tgt := 60) dX7_search_50 (by decide) (fun q => ?_) (fun q => ?_)
      · have h := ite_f q h
        refine v_iload C 5 dX7_search_60 rfl ?_
        refine v_iconst C (v := 1) dX7_search_62 (by decide) ?_
        refine v_icmp_ne C (tgt := 76) dX7_search_63 (by decide) (fun q => ?_) (fun q => ?_)
        · have h := ite_f q h
          refine v_iconst C (v := 1) dX7_search_76 (by decide) ?_
          refine v_iload C 0 dX7_search_77 rfl ?_
          refine v_callSi C (av := [.int z7.1]) (rest := [.int 1]) gX7_search_X7_span rfl ⟨rfl, rfl⟩ hS_X7_span ⟨(Nat.le_of_ble_eq_true rfl), (Nat.le_of_ble_eq_true rfl)⟩ (r_X7_span (A := A) rfl) rfl rfl (Nat.le_of_ble_eq_true rfl) dX7_search_79 ?_
          refine v_ishl C dX7_search_82 ?_
          obtain rfl := Option.some.inj h
          exact v_iret C dX7_search_83
        · have h := ite_t q h
          refine v_aload_n C 1 dX7_search_66 rfl rfl ?_
          refine v_iconst C (v := 0) dX7_search_67 (by decide) ?_
          refine v_iload C 0 dX7_search_68 rfl ?_
          obtain ⟨u8, e_u8, h⟩ := bnd h
          obtain ⟨x9, e_x9, h⟩ := bnd h
          refine v_callVi C (ci := 6) (av := [.int 0, .int z7.1]) (rest := []) rfl gX7_search_X7_indexOf rfl ⟨rfl, rfl⟩ hV_X7_indexOf ⟨(Nat.le_of_ble_eq_true rfl), (Nat.le_of_ble_eq_true rfl)⟩ e_u8 (r_X7_indexOf (A := A) e_x9) rfl rfl (Nat.le_of_ble_eq_true rfl) dX7_search_70 ?_
          refine v_goto C (tgt := 83) dX7_search_73 (by decide) ?_
          obtain rfl := Option.some.inj h
          exact v_iret C dX7_search_83
      · have h := ite_t q h
        refine v_aload_n C 1 dX7_search_53 rfl rfl ?_
        obtain ⟨x10, e_x10, h⟩ := bnd h
        refine v_getf C (ci := 6) (k := 15) rfl inX7_search_X7 (by decide) fX7_search_221 dX7_search_54 (gfI_e e_x10) ?_
        refine v_goto C (tgt := 83) dX7_search_57 (by decide) ?_
        obtain rfl := Option.some.inj h
        exact v_iret C dX7_search_83
    · have h := ite_f q h
      refine v_iconst C (v := 0) dX7_search_30 (by decide) ?_
      obtain rfl := Option.some.inj h
      exact v_iret C dX7_search_31
  · have h := ite_f q h
    refine v_iload C 4 dX7_search_9 rfl ?_
    refine v_iconst C (v := 0) dX7_search_11 (by decide) ?_
    refine v_iconst C (v := 2) dX7_search_12 (by decide) ?_
    refine v_callSi C (av := [.int a4, .int 0, .int 2]) (rest := [.ref this]) gX7_search_X7_in rfl ⟨rfl, rfl⟩ hS_X7_in ⟨(Nat.le_of_ble_eq_true rfl), (Nat.le_of_ble_eq_true rfl)⟩ (r_X7_in (A := A) rfl) rfl rfl (Nat.le_of_ble_eq_true rfl) dX7_search_13 ?_
    refine v_if_eq C (tgt := 23) dX7_search_16 (by decide) (fun q => ?_) (fun q => ?_)
    · have h := ite_t q h
      refine v_iconst C (v := 1) dX7_search_23 (by decide) ?_
      obtain ⟨u11, e_u11, h⟩ := bnd h
      obtain ⟨z12, e_z12, h⟩ := bnd h
      refine v_callVi C (ci := 6) (av := [.int 1]) (rest := []) rfl gX7_search_X7_refused rfl ⟨rfl, rfl⟩ hV_X7_refused ⟨(Nat.le_of_ble_eq_true rfl), (Nat.le_of_ble_eq_true rfl)⟩ e_u11 (r_X7_refused (A := A) e_z12) rfl rfl (Nat.le_of_ble_eq_true rfl) dX7_search_24 ?_
      refine v_if_eq C (tgt := 32) dX7_search_27 (by decide) (fun q => ?_) (fun q => ?_)
      · have h := ite_t q h
        refine v_aload_n C 0 dX7_search_32 rfl rfl ?_
        obtain ⟨u13, e_u13, h⟩ := bnd h
        obtain ⟨z14, e_z14, h⟩ := bnd h
        refine v_callVv C (ci := 6) (av := []) (rest := []) rfl gX7_search_X7_lays rfl ⟨rfl, rfl⟩ hV_X7_lays ⟨(Nat.le_of_ble_eq_true rfl), (Nat.le_of_ble_eq_true rfl)⟩ e_u13 (r_X7_lays (A := A) e_z14) rfl rfl (Nat.le_of_ble_eq_true rfl) dX7_search_33 ?_
        refine v_aload_n C 0 dX7_search_36 rfl rfl ?_
        refine v_iload_n C 1 dX7_search_37 rfl rfl ?_
        refine v_iload_n C 2 dX7_search_38 rfl rfl ?_
        obtain ⟨x15, e_x15, h⟩ := bnd h
        refine v_callSi C (av := [.int a1, .int a2]) (rest := [.ref this]) gX7_search_X7_codeOf rfl ⟨rfl, rfl⟩ hS_X7_codeOf ⟨(Nat.le_of_ble_eq_true rfl), (Nat.le_of_ble_eq_true rfl)⟩ (r_X7_codeOf (A := A) e_x15) rfl rfl (Nat.le_of_ble_eq_true rfl) dX7_search_39 ?_
        refine v_iload_n C 3 dX7_search_42 rfl rfl ?_
        refine v_at (pc' := 43) rfl ?_
        obtain ⟨u16, e_u16, h⟩ := bnd h
        obtain ⟨z17, e_z17, h⟩ := bnd h
        refine v_callVi C (ci := 6) (av := [.int x15, .int a3]) (rest := []) rfl gX7_search_X7_finds rfl ⟨rfl, rfl⟩ hV_X7_finds ⟨(Nat.le_of_ble_eq_true rfl), (Nat.le_of_ble_eq_true rfl)⟩ e_u16 (r_X7_finds (A := A) e_z17) rfl rfl (Nat.le_of_ble_eq_true rfl) dX7_search_43 ?_
        refine v_istore C (lv' := [(5, .int z17.1), (0, .ref this), (1, .int a1), (2, .int a2), (3, .int a3), (4, .int a4)]) dX7_search_46 (by decide) rfl ?_
        refine v_iload C 5 dX7_search_48 rfl ?_
        refine v_if_ne C (tgt := 60) dX7_search_50 (by decide) (fun q => ?_) (fun q => ?_)
        · have h := ite_f q h
          refine v_iload C 5 dX7_search_60 rfl ?_
          refine v_iconst C (v := 1) dX7_search_62 (by decide) ?_
          refine v_icmp_ne C (tgt := 76) dX7_search_63 (by decide) (fun q => ?_) (fun q => ?_)
          · have h := ite_f q h
            refine v_iconst C (v := 1) dX7_search_76 (by decide) ?_
            refine v_iload C 0 dX7_search_77 rfl ?_
            refine v_callSi C (av := [.int z17.1]) (rest := [.int 1]) gX7_search_X7_span rfl ⟨rfl, rfl⟩ hS_X7_span ⟨(Nat.le_of_ble_eq_true rfl), (Nat.le_of_ble_eq_true rfl)⟩ (r_X7_span (A := A) rfl) rfl rfl (Nat.le_of_ble_eq_true rfl) dX7_search_79 ?_
            refine v_ishl C dX7_search_82 ?_
            obtain rfl := Option.some.inj h
            exact v_iret C dX7_search_83
          · have h := ite_t q h
            refine v_aload_n C 1 dX7_search_66 rfl rfl ?_
            refine v_iconst C (v := 0) dX7_search_67 (by decide) ?_
            refine v_iload C 0 dX7_search_68 rfl ?_
            obtain ⟨u18, e_u18, h⟩ := bnd h
            obtain ⟨x19, e_x19, h⟩ := bnd h
            refine v_callVi C (ci := 6) (av := [.int 0, .int z17.1]) (rest := []) rfl gX7_search_X7_indexOf rfl ⟨rfl, rfl⟩ hV_X7_indexOf ⟨(Nat.le_of_ble_eq_true rfl), (Nat.le_of_ble_eq_true rfl)⟩ e_u18 (r_X7_indexOf (A := A) e_x19) rfl rfl (Nat.le_of_ble_eq_true rfl) dX7_search_70 ?_
            refine v_goto C (tgt := 83) dX7_search_73 (by decide) ?_
            obtain rfl := Option.some.inj h
            exact v_iret C dX7_search_83
        · have h := ite_t q h
          refine v_aload_n C 1 dX7_search_53 rfl rfl ?_
          obtain ⟨x20, e_x20, h⟩ := bnd h
          refine v_getf C (ci := 6) (k := 15) rfl inX7_search_X7 (by decide) fX7_search_221 dX7_search_54 (gfI_e e_x20) ?_
          refine v_goto C (tgt := 83) dX7_search_57 (by decide) ?_
          obtain rfl := Option.some.inj h
          exact v_iret C dX7_search_83
      · have h := ite_f q h
        refine v_iconst C (v := 0) dX7_search_30 (by decide) ?_
        obtain rfl := Option.some.inj h
        exact v_iret C dX7_search_31
    · have h := ite_f q h
      refine v_iconst C (v := 0) dX7_search_19 (by decide) ?_
      refine v_goto C (tgt := 24) dX7_search_20 (by decide) ?_
      obtain ⟨u21, e_u21, h⟩ := bnd h
      obtain ⟨z22, e_z22, h⟩ := bnd h
      refine v_callVi C (ci := 6) (av := [.int 0]) (rest := []) rfl gX7_search_X7_refused rfl ⟨rfl, rfl⟩ hV_X7_refused ⟨(Nat.le_of_ble_eq_true rfl), (Nat.le_of_ble_eq_true rfl)⟩ e_u21 (r_X7_refused (A := A) e_z22) rfl rfl (Nat.le_of_ble_eq_true rfl) dX7_search_24 ?_
      refine v_if_eq C (tgt := 32) dX7_search_27 (by decide) (fun q => ?_) (fun q => ?_)
      · have h := ite_t q h
        refine v_aload_n C 0 dX7_search_32 rfl rfl ?_
        obtain ⟨u23, e_u23, h⟩ := bnd h
        obtain ⟨z24, e_z24, h⟩ := bnd h
        refine v_callVv C (ci := 6) (av := []) (rest := []) rfl gX7_search_X7_lays rfl ⟨rfl, rfl⟩ hV_X7_lays ⟨(Nat.le_of_ble_eq_true rfl), (Nat.le_of_ble_eq_true rfl)⟩ e_u23 (r_X7_lays (A := A) e_z24) rfl rfl (Nat.le_of_ble_eq_true rfl) dX7_search_33 ?_
        refine v_aload_n C 0 dX7_search_36 rfl rfl ?_
        refine v_iload_n C 1 dX7_search_37 rfl rfl ?_
        refine v_iload_n C 2 dX7_search_38 rfl rfl ?_
        obtain ⟨x25, e_x25, h⟩ := bnd h
        refine v_callSi C (av := [.int a1, .int a2]) (rest := [.ref this]) gX7_search_X7_codeOf rfl ⟨rfl, rfl⟩ hS_X7_codeOf ⟨(Nat.le_of_ble_eq_true rfl), (Nat.le_of_ble_eq_true rfl)⟩ (r_X7_codeOf (A := A) e_x25) rfl rfl (Nat.le_of_ble_eq_true rfl) dX7_search_39 ?_
        refine v_iload_n C 3 dX7_search_42 rfl rfl ?_
        refine v_at (pc' := 43) rfl ?_
        obtain ⟨u26, e_u26, h⟩ := bnd h
        obtain ⟨z27, e_z27, h⟩ := bnd h
        refine v_callVi C (ci := 6) (av := [.int x25, .int a3]) (rest := []) rfl gX7_search_X7_finds rfl ⟨rfl, rfl⟩ hV_X7_finds ⟨(Nat.le_of_ble_eq_true rfl), (Nat.le_of_ble_eq_true rfl)⟩ e_u26 (r_X7_finds (A := A) e_z27) rfl rfl (Nat.le_of_ble_eq_true rfl) dX7_search_43 ?_
        refine v_istore C (lv' := [(5, .int z27.1), (0, .ref this), (1, .int a1), (2, .int a2), (3, .int a3), (4, .int a4)]) dX7_search_46 (by decide) rfl ?_
        refine v_iload C 5 dX7_search_48 rfl ?_
        refine v_if_ne C (tgt := 60) dX7_search_50 (by decide) (fun q => ?_) (fun q => ?_)
        · have h := ite_f q h
          refine v_iload C 5 dX7_search_60 rfl ?_
          refine v_iconst C (v := 1) dX7_search_62 (by decide) ?_
          refine v_icmp_ne C (tgt := 76) dX7_search_63 (by decide) (fun q => ?_) (fun q => ?_)
          · have h := ite_f q h
            refine v_iconst C (v := 1) dX7_search_76 (by decide) ?_
            refine v_iload C 0 dX7_search_77 rfl ?_
            refine v_callSi C (av := [.int z27.1]) (rest := [.int 1]) gX7_search_X7_span rfl ⟨rfl, rfl⟩ hS_X7_span ⟨(Nat.le_of_ble_eq_true rfl), (Nat.le_of_ble_eq_true rfl)⟩ (r_X7_span (A := A) rfl) rfl rfl (Nat.le_of_ble_eq_true rfl) dX7_search_79 ?_
            refine v_ishl C dX7_search_82 ?_
            obtain rfl := Option.some.inj h
            exact v_iret C dX7_search_83
          · have h := ite_t q h
            refine v_aload_n C 1 dX7_search_66 rfl rfl ?_
            refine v_iconst C (v := 0) dX7_search_67 (by decide) ?_
            refine v_iload C 0 dX7_search_68 rfl ?_
            obtain ⟨u28, e_u28, h⟩ := bnd h
            obtain ⟨x29, e_x29, h⟩ := bnd h
            refine v_callVi C (ci := 6) (av := [.int 0, .int z27.1]) (rest := []) rfl gX7_search_X7_indexOf rfl ⟨rfl, rfl⟩ hV_X7_indexOf ⟨(Nat.le_of_ble_eq_true rfl), (Nat.le_of_ble_eq_true rfl)⟩ e_u28 (r_X7_indexOf (A := A) e_x29) rfl rfl (Nat.le_of_ble_eq_true rfl) dX7_search_70 ?_
            refine v_goto C (tgt := 83) dX7_search_73 (by decide) ?_
            obtain rfl := Option.some.inj h
            exact v_iret C dX7_search_83
        · have h := ite_t q h
          refine v_aload_n C 1 dX7_search_53 rfl rfl ?_
          obtain ⟨x30, e_x30, h⟩ := bnd h
          refine v_getf C (ci := 6) (k := 15) rfl inX7_search_X7 (by decide) fX7_search_221 dX7_search_54 (gfI_e e_x30) ?_
          refine v_goto C (tgt := 83) dX7_search_57 (by decide) ?_
          obtain rfl := Option.some.inj h
          exact v_iret C dX7_search_83
      · have h := ite_f q h
        refine v_iconst C (v := 0) dX7_search_30 (by decide) ?_
        obtain rfl := Option.some.inj h
        exact v_iret C dX7_search_31
theorem fX7_most_221 : Cond.fieldLink RX7 221 (TX7 15).1 (TX7 15).2.1 (TX7 15).2.2.1 ∈ wsX7_most := by decide +kernel
theorem inX7_most_X7 : ∀ x ∈ u_ws RX7 TX7 20, x ∈ wsX7_most := by decide +kernel
set_option maxRecDepth 100000 in
set_option maxHeartbeats 4000000 in
theorem r_X7_most_p4 {p : Program} {l : Launch} {e : Env} {s : State} {m : MethodId} {args : Array Value} {below : List Frame} {meth : Method} {c : Code} {G : GG} {A : Nat → Prop} (C : Cx p s m args meth c G A cX7_most 5 RX7 wsX7_most (some .int)) (n : Nat) {z : (Int32 × Wd)} : ∀ (t : Nat), ∀ (w : Wd) (a0 : Nat) (a1 : Int32) (a2 : Int32) (a3 : Int32), m_X7_most_p4 n t w a0 a1 a2 a3 = some z → V p l e { frames := 5, cells := 0, slots := 0, locals := 119 } s m args below meth c G A 5 4 [(0, .ref a0), (1, .int a1), (2, .int a2), (3, .int a3)] [] w (some (.int z.1)) z.2 := by
  intro t
  induction t with
  | zero =>
    intro w a0 a1 a2 a3 h
    rw [m_X7_most_p4] at h
    cases h
  | succ t ih =>
    intro w a0 a1 a2 a3 h
    rw [m_X7_most_p4] at h
    refine v_iload_n C 3 dX7_most_4 rfl rfl ?_
    refine v_bipush C (v := 24) dX7_most_5 (by decide) ?_
    refine v_icmp_ge C (tgt := 53) dX7_most_7 (by decide) (fun q => ?_) (fun q => ?_)
    · have h := ite_t q h
      refine v_iload_n C 2 dX7_most_53 rfl rfl ?_
      obtain rfl := Option.some.inj h
      exact v_iret C dX7_most_54
    · have h := ite_f q h
      refine v_aload_n C 0 dX7_most_10 rfl rfl ?_
      refine v_iload_n C 3 dX7_most_11 rfl rfl ?_
      obtain ⟨u1, e_u1, h⟩ := bnd h
      obtain ⟨x2, e_x2, h⟩ := bnd h
      refine v_callVi C (ci := 6) (av := [.int a3]) (rest := []) rfl gX7_most_X7_isThere rfl ⟨rfl, rfl⟩ hV_X7_isThere ⟨(Nat.le_of_ble_eq_true rfl), (Nat.le_of_ble_eq_true rfl)⟩ e_u1 (r_X7_isThere (A := A) e_x2) rfl rfl (Nat.le_of_ble_eq_true rfl) dX7_most_12 ?_
      refine v_if_eq C (tgt := 47) dX7_most_15 (by decide) (fun q => ?_) (fun q => ?_)
      · have h := ite_t q h
        refine v_iinc C (k := 3) (v := (a3 + 1)) (lv' := [(3, .int (a3 + 1)), (0, .ref a0), (1, .int a1), (2, .int a2)]) dX7_most_47 rfl rfl (by decide) rfl ?_
        refine v_goto C (tgt := 4) dX7_most_50 (by decide) ?_
        refine v_sub [1, 2, 3, 0] rfl ?_
        exact ih _ _ _ _ _ h
      · have h := ite_f q h
        refine v_aload_n C 0 dX7_most_18 rfl rfl ?_
        refine v_aload_n C 0 dX7_most_19 rfl rfl ?_
        refine v_iload_n C 3 dX7_most_20 rfl rfl ?_
        obtain ⟨u3, e_u3, h⟩ := bnd h
        obtain ⟨x4, e_x4, h⟩ := bnd h
        refine v_callVi C (ci := 6) (av := [.int a3]) (rest := [.ref a0]) rfl gX7_most_X7_placeOf rfl ⟨rfl, rfl⟩ hV_X7_placeOf ⟨(Nat.le_of_ble_eq_true rfl), (Nat.le_of_ble_eq_true rfl)⟩ e_u3 (r_X7_placeOf (A := A) e_x4) rfl rfl (Nat.le_of_ble_eq_true rfl) dX7_most_21 ?_
        refine v_iload_n C 1 dX7_most_24 rfl rfl ?_
        obtain ⟨u5, e_u5, h⟩ := bnd h
        obtain ⟨z6, e_z6, h⟩ := bnd h
        refine v_callVi C (ci := 6) (av := [.int x4, .int a1]) (rest := []) rfl gX7_most_X7_finds rfl ⟨rfl, rfl⟩ hV_X7_finds ⟨(Nat.le_of_ble_eq_true rfl), (Nat.le_of_ble_eq_true rfl)⟩ e_u5 (r_X7_finds (A := A) e_z6) rfl rfl (Nat.le_of_ble_eq_true rfl) dX7_most_25 ?_
        refine v_istore C (lv' := [(4, .int z6.1), (0, .ref a0), (1, .int a1), (2, .int a2), (3, .int a3)]) dX7_most_28 (by decide) rfl ?_
        refine v_at (pc' := 30) rfl ?_
        refine v_aload_n C 1 dX7_most_30 rfl rfl ?_
        obtain ⟨x7, e_x7, h⟩ := bnd h
        refine v_getf C (ci := 6) (k := 15) rfl inX7_most_X7 (by decide) fX7_most_221 dX7_most_31 (gfI_e e_x7) ?_
        refine v_iload_n C 3 dX7_most_34 rfl rfl ?_
        refine v_icmp_le C (tgt := 45) dX7_most_35 (by decide) (fun q => ?_) (fun q => ?_)
        · have h := ite_t q h
          refine v_iload_n C 3 dX7_most_45 rfl rfl ?_
          refine v_istore_n C (lv' := [(2, .int a2), (4, .int z6.1), (0, .ref a0), (1, .int a1), (3, .int a3)]) dX7_most_46 rfl (by decide) rfl ?_
          refine v_iinc C (k := 4) (v := (a3 + 1)) (lv' := [(3, .int (a3 + 1)), (2, .int a2), (4, .int z6.1), (0, .ref a0), (1, .int a1)]) dX7_most_47 rfl rfl (by decide) rfl ?_
          refine v_goto C (tgt := 4) dX7_most_50 (by decide) ?_
          refine v_sub [3, 4, 1, 0] rfl ?_
          exact ih _ _ _ _ _ h
        · have h := ite_f q h
          refine v_aload_n C 1 dX7_most_38 rfl rfl ?_
          obtain ⟨x8, e_x8, h⟩ := bnd h
          refine v_getf C (ci := 6) (k := 15) rfl inX7_most_X7 (by decide) fX7_most_221 dX7_most_39 (gfI_e e_x8) ?_
          refine v_goto C (tgt := 46) dX7_most_42 (by decide) ?_
          refine v_istore_n C (lv' := [(2, .int x8), (4, .int z6.1), (0, .ref a0), (1, .int a1), (3, .int a3)]) dX7_most_46 rfl (by decide) rfl ?_
          refine v_iinc C (k := 4) (v := (a3 + 1)) (lv' := [(3, .int (a3 + 1)), (2, .int x8), (4, .int z6.1), (0, .ref a0), (1, .int a1)]) dX7_most_47 rfl rfl (by decide) rfl ?_
          refine v_goto C (tgt := 4) dX7_most_50 (by decide) ?_
          refine v_sub [3, 4, 1, 0] rfl ?_
          exact ih _ _ _ _ _ h
set_option maxRecDepth 100000 in
set_option maxHeartbeats 4000000 in
theorem r_X7_most {l : Launch} {G : GG} {A : Nat → Prop} {n : Nat} {w : Wd} {this : Nat} {a1 : Int32} {z : (Int32 × Wd)} (h : m_X7_most n w this a1 = some z) : Con l yX7_most wsX7_most { frames := 5, cells := 0, slots := 0, locals := 119 } G A [.ref this, .int a1] w (some (.int z.1)) z.2 := by
  refine Con.of (own := RX7) (cc := cX7_most) (maxL := 5) (ret := (some .int)) rfl (by decide) rfl (Nat.le_of_ble_eq_true rfl) ?_
  intro p e s m args below meth c C
  show V p l e { frames := 5, cells := 0, slots := 0, locals := 119 } s m args below meth c G A 5 0 [(0, .ref this), (1, .int a1)] [] w (some (.int z.1)) z.2
  unfold m_X7_most at h
  refine v_iconst C (v := 0) dX7_most_0 (by decide) ?_
  refine v_istore_n C (lv' := [(2, .int 0), (0, .ref this), (1, .int a1)]) dX7_most_1 rfl (by decide) rfl ?_
  refine v_iconst C (v := 0) dX7_most_2 (by decide) ?_
  refine v_istore_n C (lv' := [(3, .int 0), (2, .int 0), (0, .ref this), (1, .int a1)]) dX7_most_3 rfl (by decide) rfl ?_
  refine v_sub [2, 3, 1, 0] rfl ?_
  exact r_X7_most_p4 C n n _ _ _ _ _ h
theorem fX7_worst_37 : Cond.fieldLink RX7 37 (TX7 4).1 (TX7 4).2.1 (TX7 4).2.2.1 ∈ wsX7_worst := by decide +kernel
theorem inX7_worst_X7 : ∀ x ∈ u_ws RX7 TX7 20, x ∈ wsX7_worst := by decide +kernel
theorem hV_X7_most : yX7_most.cls = RX7 ∧ yX7_most.cls ≠ "java/lang/invoke/MethodHandle" ∧ yX7_most.cls ≠ "java/lang/invoke/VarHandle" ∧ (parseMethodDescriptor yX7_most.desc).map (fun d => d.parameters.length) = some 1 := by decide +kernel
set_option maxRecDepth 100000 in
set_option maxHeartbeats 4000000 in
theorem r_X7_worst {l : Launch} {G : GG} {A : Nat → Prop} {n : Nat} {w : Wd} {this : Nat} {a1 : Int32} {z : (Int32 × Wd)} (h : m_X7_worst n w this a1 = some z) : Con l yX7_worst wsX7_worst { frames := 6, cells := 0, slots := 0, locals := 143 } G A [.ref this, .int a1] w (some (.int z.1)) z.2 := by
  refine Con.of (own := RX7) (cc := cX7_worst) (maxL := 2) (ret := (some .int)) rfl (by decide) rfl (Nat.le_of_ble_eq_true rfl) ?_
  intro p e s m args below meth c C
  show V p l e { frames := 6, cells := 0, slots := 0, locals := 143 } s m args below meth c G A 2 0 [(0, .ref this), (1, .int a1)] [] w (some (.int z.1)) z.2
  unfold m_X7_worst at h
  refine v_aload_n C 0 dX7_worst_0 rfl rfl ?_
  refine v_iconst C (v := 0) dX7_worst_1 (by decide) ?_
  obtain ⟨w1, e_w1, h⟩ := bnd h
  refine v_putf C (ci := 6) (k := 4) rfl inX7_worst_X7 tyX7_ok nmX7 (by decide) fX7_worst_37 rfl (tyX7_ok 4 (by decide)) rfl rfl dX7_worst_2 e_w1 ?_
  refine v_aload_n C 0 dX7_worst_5 rfl rfl ?_
  refine v_iload_n C 1 dX7_worst_6 rfl rfl ?_
  obtain ⟨u2, e_u2, h⟩ := bnd h
  obtain ⟨z3, e_z3, h⟩ := bnd h
  refine v_callVi C (ci := 6) (av := [.int a1]) (rest := []) rfl gX7_worst_X7_most rfl ⟨rfl, rfl⟩ hV_X7_most ⟨(Nat.le_of_ble_eq_true rfl), (Nat.le_of_ble_eq_true rfl)⟩ e_u2 (r_X7_most (A := A) e_z3) rfl rfl (Nat.le_of_ble_eq_true rfl) dX7_worst_7 ?_
  obtain rfl := Option.some.inj h
  exact v_iret C dX7_worst_10
theorem fX7_wouldTouch_7 : Cond.fieldLink RX7 7 (TX7 0).1 (TX7 0).2.1 (TX7 0).2.2.1 ∈ wsX7_wouldTouch := by decide +kernel
theorem inX7_wouldTouch_X7 : ∀ x ∈ u_ws RX7 TX7 20, x ∈ wsX7_wouldTouch := by decide +kernel
set_option maxRecDepth 100000 in
set_option maxHeartbeats 4000000 in
theorem r_X7_wouldTouch {l : Launch} {G : GG} {A : Nat → Prop} {n : Nat} {w : Wd} {this : Nat} {a1 : Int32} {a2 : Int32} {a3 : Int32} {z : (Int32 × Wd)} (h : m_X7_wouldTouch n w this a1 a2 a3 = some z) : Con l yX7_wouldTouch wsX7_wouldTouch { frames := 5, cells := 0, slots := 0, locals := 117 } G A [.ref this, .int a1, .int a2, .int a3] w (some (.int z.1)) z.2 := by
  refine Con.of (own := RX7) (cc := cX7_wouldTouch) (maxL := 7) (ret := (some .int)) rfl (by decide) rfl (Nat.le_of_ble_eq_true rfl) ?_
  intro p e s m args below meth c C
  show V p l e { frames := 5, cells := 0, slots := 0, locals := 117 } s m args below meth c G A 7 0 [(0, .ref this), (1, .int a1), (2, .int a2), (3, .int a3)] [] w (some (.int z.1)) z.2
  unfold m_X7_wouldTouch at h
  refine v_aload_n C 0 dX7_wouldTouch_0 rfl rfl ?_
  refine v_aload_n C 0 dX7_wouldTouch_1 rfl rfl ?_
  refine v_iload_n C 1 dX7_wouldTouch_2 rfl rfl ?_
  refine v_iload_n C 2 dX7_wouldTouch_3 rfl rfl ?_
  refine v_iload_n C 3 dX7_wouldTouch_4 rfl rfl ?_
  obtain ⟨u1, e_u1, h⟩ := bnd h
  obtain ⟨x2, e_x2, h⟩ := bnd h
  refine v_callVi C (ci := 6) (av := [.int a1, .int a2, .int a3]) (rest := [.ref this]) rfl gX7_wouldTouch_X7_badMove rfl ⟨rfl, rfl⟩ hV_X7_badMove ⟨(Nat.le_of_ble_eq_true rfl), (Nat.le_of_ble_eq_true rfl)⟩ e_u1 (r_X7_badMove (A := A) e_x2) rfl rfl (Nat.le_of_ble_eq_true rfl) dX7_wouldTouch_5 ?_
  obtain ⟨u3, e_u3, h⟩ := bnd h
  obtain ⟨z4, e_z4, h⟩ := bnd h
  refine v_callVi C (ci := 6) (av := [.int x2]) (rest := []) rfl gX7_wouldTouch_X7_refused rfl ⟨rfl, rfl⟩ hV_X7_refused ⟨(Nat.le_of_ble_eq_true rfl), (Nat.le_of_ble_eq_true rfl)⟩ e_u3 (r_X7_refused (A := A) e_z4) rfl rfl (Nat.le_of_ble_eq_true rfl) dX7_wouldTouch_8 ?_
  refine v_at (pc' := 11) rfl ?_
  refine v_if_eq C (tgt := 16) dX7_wouldTouch_11 (by decide) (fun q => ?_) (fun q => ?_)
  · have h := ite_t q h
    refine v_aload_n C 0 dX7_wouldTouch_16 rfl rfl ?_
    obtain ⟨q5, e_q5, h⟩ := bnd h
    refine v_getf C (ci := 6) (k := 0) rfl inX7_wouldTouch_X7 (by decide) fX7_wouldTouch_7 dX7_wouldTouch_17 (gfR_e e_q5) ?_
    refine v_iconst C (v := 5) dX7_wouldTouch_20 (by decide) ?_
    refine v_iload_n C 1 dX7_wouldTouch_21 rfl rfl ?_
    refine v_imul C dX7_wouldTouch_22 ?_
    refine v_iconst C (v := 1) dX7_wouldTouch_23 (by decide) ?_
    refine v_iadd C dX7_wouldTouch_24 ?_
    refine v_at (pc' := 25) rfl ?_
    obtain ⟨x6, e_x6, h⟩ := bnd h
    refine v_iald C dX7_wouldTouch_25 e_x6 ?_
    refine v_istore C (lv' := [(4, .int x6), (0, .ref this), (1, .int a1), (2, .int a2), (3, .int a3)]) dX7_wouldTouch_26 (by decide) rfl ?_
    refine v_aload_n C 1 dX7_wouldTouch_28 rfl rfl ?_
    obtain ⟨q7, e_q7, h⟩ := bnd h
    refine v_getf C (ci := 6) (k := 0) rfl inX7_wouldTouch_X7 (by decide) fX7_wouldTouch_7 dX7_wouldTouch_29 (gfR_e e_q7) ?_
    refine v_iconst C (v := 5) dX7_wouldTouch_32 (by decide) ?_
    refine v_iload_n C 2 dX7_wouldTouch_33 rfl rfl ?_
    refine v_imul C dX7_wouldTouch_34 ?_
    refine v_iconst C (v := 2) dX7_wouldTouch_35 (by decide) ?_
    refine v_at (pc' := 36) rfl ?_
    refine v_iadd C dX7_wouldTouch_36 ?_
    obtain ⟨x8, e_x8, h⟩ := bnd h
    refine v_iald C dX7_wouldTouch_37 e_x8 ?_
    refine v_istore C (lv' := [(5, .int x8), (4, .int x6), (0, .ref this), (1, .int a1), (2, .int a2), (3, .int a3)]) dX7_wouldTouch_38 (by decide) rfl ?_
    refine v_aload_n C 2 dX7_wouldTouch_40 rfl rfl ?_
    refine v_iload_n C 3 dX7_wouldTouch_41 rfl rfl ?_
    refine v_iload_n C 4 dX7_wouldTouch_42 rfl rfl ?_
    refine v_iload_n C 5 dX7_wouldTouch_43 rfl rfl ?_
    obtain ⟨u9, e_u9, h⟩ := bnd h
    obtain ⟨z10, e_z10, h⟩ := bnd h
    refine v_callVi C (ci := 6) (av := [.int a1, .int a2, .int a3]) (rest := []) rfl gX7_wouldTouch_X7_adds rfl ⟨rfl, rfl⟩ hV_X7_adds ⟨(Nat.le_of_ble_eq_true rfl), (Nat.le_of_ble_eq_true rfl)⟩ e_u9 (r_X7_adds (A := A) e_z10) rfl rfl (Nat.le_of_ble_eq_true rfl) dX7_wouldTouch_44 ?_
    refine v_at (pc' := 47) rfl ?_
    refine v_istore C (lv' := [(6, .int z10.1), (5, .int x8), (4, .int x6), (0, .ref this), (1, .int a1), (2, .int a2), (3, .int a3)]) dX7_wouldTouch_47 (by decide) rfl ?_
    refine v_aload_n C 3 dX7_wouldTouch_49 rfl rfl ?_
    refine v_iload_n C 4 dX7_wouldTouch_50 rfl rfl ?_
    refine v_iload C 2 dX7_wouldTouch_51 rfl ?_
    refine v_iload C 1 dX7_wouldTouch_53 rfl ?_
    obtain ⟨u11, e_u11, h⟩ := bnd h
    obtain ⟨z12, e_z12, h⟩ := bnd h
    refine v_callVv C (ci := 6) (av := [.int a1, .int x6, .int x8]) (rest := []) rfl gX7_wouldTouch_X7_puts rfl ⟨rfl, rfl⟩ hV_X7_puts ⟨(Nat.le_of_ble_eq_true rfl), (Nat.le_of_ble_eq_true rfl)⟩ e_u11 (r_X7_puts (A := A) e_z12) rfl rfl (Nat.le_of_ble_eq_true rfl) dX7_wouldTouch_55 ?_
    refine v_iload C 0 dX7_wouldTouch_58 rfl ?_
    obtain rfl := Option.some.inj h
    exact v_iret C dX7_wouldTouch_60
  · have h := ite_f q h
    refine v_iconst C (v := 0) dX7_wouldTouch_14 (by decide) ?_
    obtain rfl := Option.some.inj h
    exact v_iret C dX7_wouldTouch_15
theorem fX7_far_7 : Cond.fieldLink RX7 7 (TX7 0).1 (TX7 0).2.1 (TX7 0).2.2.1 ∈ wsX7_far := by decide +kernel
theorem inX7_far_X7 : ∀ x ∈ u_ws RX7 TX7 20, x ∈ wsX7_far := by decide +kernel
set_option maxRecDepth 100000 in
set_option maxHeartbeats 4000000 in
theorem r_X7_far {l : Launch} {G : GG} {A : Nat → Prop} {n : Nat} {w : Wd} {this : Nat} {a1 : Int32} {a2 : Int32} {a3 : Int32} {z : Int32} (h : m_X7_far n w this a1 a2 a3 = some z) : Con l yX7_far wsX7_far { frames := 0, cells := 0, slots := 0, locals := 0 } G A [.ref this, .int a1, .int a2, .int a3] w (some (.int z)) w := by
  refine Con.of (own := RX7) (cc := cX7_far) (maxL := 6) (ret := (some .int)) rfl (by decide) rfl (Nat.le_of_ble_eq_true rfl) ?_
  intro p e s m args below meth c C
  show V p l e { frames := 0, cells := 0, slots := 0, locals := 0 } s m args below meth c G A 6 0 [(0, .ref this), (1, .int a1), (2, .int a2), (3, .int a3)] [] w (some (.int z)) w
  unfold m_X7_far at h
  refine v_aload_n C 0 dX7_far_0 rfl rfl ?_
  obtain ⟨q1, e_q1, h⟩ := bnd h
  refine v_getf C (ci := 6) (k := 0) rfl inX7_far_X7 (by decide) fX7_far_7 dX7_far_1 (gfR_e e_q1) ?_
  refine v_iconst C (v := 5) dX7_far_4 (by decide) ?_
  refine v_iload_n C 1 dX7_far_5 rfl rfl ?_
  refine v_imul C dX7_far_6 ?_
  refine v_iconst C (v := 1) dX7_far_7 (by decide) ?_
  refine v_iadd C dX7_far_8 ?_
  refine v_at (pc' := 9) rfl ?_
  obtain ⟨x2, e_x2, h⟩ := bnd h
  refine v_iald C dX7_far_9 e_x2 ?_
  refine v_iload_n C 2 dX7_far_10 rfl rfl ?_
  refine v_isub C dX7_far_11 ?_
  refine v_istore C (lv' := [(4, .int (x2 - a2)), (0, .ref this), (1, .int a1), (2, .int a2), (3, .int a3)]) dX7_far_12 (by decide) rfl ?_
  refine v_aload_n C 1 dX7_far_14 rfl rfl ?_
  obtain ⟨q3, e_q3, h⟩ := bnd h
  refine v_getf C (ci := 6) (k := 0) rfl inX7_far_X7 (by decide) fX7_far_7 dX7_far_15 (gfR_e e_q3) ?_
  refine v_iconst C (v := 5) dX7_far_18 (by decide) ?_
  refine v_iload_n C 2 dX7_far_19 rfl rfl ?_
  refine v_at (pc' := 20) rfl ?_
  refine v_imul C dX7_far_20 ?_
  refine v_iconst C (v := 2) dX7_far_21 (by decide) ?_
  refine v_iadd C dX7_far_22 ?_
  obtain ⟨x4, e_x4, h⟩ := bnd h
  refine v_iald C dX7_far_23 e_x4 ?_
  refine v_iload_n C 4 dX7_far_24 rfl rfl ?_
  refine v_isub C dX7_far_25 ?_
  refine v_istore C (lv' := [(5, .int (x4 - a3)), (4, .int (x2 - a2)), (0, .ref this), (1, .int a1), (2, .int a2), (3, .int a3)]) dX7_far_26 (by decide) rfl ?_
  refine v_iload C 1 dX7_far_28 rfl ?_
  refine v_at (pc' := 30) rfl ?_
  refine v_iload C 1 dX7_far_30 rfl ?_
  refine v_imul C dX7_far_32 ?_
  refine v_iload C 0 dX7_far_33 rfl ?_
  refine v_iload C 0 dX7_far_35 rfl ?_
  refine v_imul C dX7_far_37 ?_
  refine v_iadd C dX7_far_38 ?_
  obtain rfl := Option.some.inj h
  exact v_iret C dX7_far_39
theorem z_X7_isCursor (a0 : Int32) : bo (m_X7_isCursor a0) := by
  unfold m_X7_isCursor
  repeat' (first | (refine bo_ite ?_ ?_) | exact bo_0 | exact bo_1 | exact z_X7_in ..)
set_option maxRecDepth 100000 in
set_option maxHeartbeats 4000000 in
theorem r_X7_isCursor {l : Launch} {G : GG} {A : Nat → Prop} {w : Wd} {a0 : Int32} {z : Int32} (h : m_X7_isCursor a0 = z) : Con l yX7_isCursor wsX7_isCursor { frames := 1, cells := 0, slots := 0, locals := 22 } G A [.int a0] w (some (.int z)) w := by
  refine Con.of (own := RX7) (cc := cX7_isCursor) (maxL := 1) (ret := (some .boolean)) rfl (by decide) rfl (Nat.le_of_ble_eq_true rfl) ?_
  intro p e s m args below meth c C
  show V p l e { frames := 1, cells := 0, slots := 0, locals := 22 } s m args below meth c G A 1 0 [(0, .int a0)] [] w (some (.int z)) w
  unfold m_X7_isCursor at h
  refine v_iload_n C 0 dX7_isCursor_0 rfl rfl ?_
  refine v_iconst C (v := 0) dX7_isCursor_1 (by decide) ?_
  refine v_iconst C (v := 3) dX7_isCursor_2 (by decide) ?_
  refine v_callSi C (av := [.int a0, .int 0, .int 3]) (rest := []) gX7_isCursor_X7_in rfl ⟨rfl, rfl⟩ hS_X7_in ⟨(Nat.le_of_ble_eq_true rfl), (Nat.le_of_ble_eq_true rfl)⟩ (r_X7_in (A := A) rfl) rfl rfl (Nat.le_of_ble_eq_true rfl) dX7_isCursor_3 ?_
  subst h
  exact v_zret C dX7_isCursor_6 (z_X7_in ..)
