theorem fX7_open_7 : Cond.fieldLink RX7 7 (TX7 0).1 (TX7 0).2.1 (TX7 0).2.2.1 ∈ wsX7_open := by decide +kernel
theorem inX7_open_X7 : ∀ x ∈ u_ws RX7 TX7 20, x ∈ wsX7_open := by decide +kernel
theorem hS_X7_isCursor : yX7_isCursor.cls ≠ "java/lang/invoke/MethodHandle" ∧ yX7_isCursor.cls ≠ "java/lang/invoke/VarHandle" ∧ (parseMethodDescriptor yX7_isCursor.desc).map (fun d => d.parameters.length) = some 1 := by decide +kernel
set_option maxRecDepth 100000 in
set_option maxHeartbeats 4000000 in
theorem r_X7_open_p25 {p : Program} {l : Launch} {e : Env} {s : State} {m : MethodId} {args : Array Value} {below : List Frame} {meth : Method} {c : Code} {G : GG} {A : Nat → Prop} (C : Cx p s m args meth c G A cX7_open 5 RX7 wsX7_open (some .int)) (n : Nat) {z : (Int32 × Wd)} : ∀ (w : Wd) (s0 : Int32) (s1 : Nat) (a0 : Nat) (a1 : Int32) (a2 : Int32) (a3 : Int32), m_X7_open_p25 n w s0 s1 a0 a1 a2 a3 = some z → V p l e { frames := 2, cells := 0, slots := 0, locals := 43 } s m args below meth c G A 5 25 [(0, .ref a0), (1, .int a1), (2, .int a2), (3, .int a3)] [.int s0, .ref s1] w (some (.int z.1)) z.2 := by
  intro w s0 s1 a0 a1 a2 a3 h
  unfold m_X7_open_p25 at h
  obtain ⟨u1, e_u1, h⟩ := bnd h
  obtain ⟨z2, e_z2, h⟩ := bnd h
  refine v_callVi C (ci := 6) (av := [.int s0]) (rest := []) rfl gX7_open_X7_refused rfl ⟨rfl, rfl⟩ hV_X7_refused ⟨(Nat.le_of_ble_eq_true rfl), (Nat.le_of_ble_eq_true rfl)⟩ e_u1 (r_X7_refused (A := A) e_z2) rfl rfl (Nat.le_of_ble_eq_true rfl) dX7_open_25 ?_
  refine v_if_eq C (tgt := 33) dX7_open_28 (by decide) (fun q => ?_) (fun q => ?_)
  · have h := ite_t q h
    refine v_aload_n C 0 dX7_open_33 rfl rfl ?_
    obtain ⟨u3, e_u3, h⟩ := bnd h
    obtain ⟨z4, e_z4, h⟩ := bnd h
    refine v_callVv C (ci := 6) (av := []) (rest := []) rfl gX7_open_X7_saves rfl ⟨rfl, rfl⟩ hV_X7_saves ⟨(Nat.le_of_ble_eq_true rfl), (Nat.le_of_ble_eq_true rfl)⟩ e_u3 (r_X7_saves (A := A) e_z4) rfl rfl (Nat.le_of_ble_eq_true rfl) dX7_open_34 ?_
    refine v_bipush C (v := 120) dX7_open_37 (by decide) ?_
    refine v_iconst C (v := 5) dX7_open_39 (by decide) ?_
    refine v_iload_n C 1 dX7_open_40 rfl rfl ?_
    refine v_imul C dX7_open_41 ?_
    refine v_iadd C dX7_open_42 ?_
    refine v_at (pc' := 43) rfl ?_
    refine v_istore C (lv' := [(4, .int (120 + (5 * a1))), (0, .ref a0), (1, .int a1), (2, .int a2), (3, .int a3)]) dX7_open_43 (by decide) rfl ?_
    refine v_aload_n C 1 dX7_open_45 rfl rfl ?_
    obtain ⟨q5, e_q5, h⟩ := bnd h
    refine v_getf C (ci := 6) (k := 0) rfl inX7_open_X7 (by decide) fX7_open_7 dX7_open_46 (gfR_e e_q5) ?_
    refine v_iload C 0 dX7_open_49 rfl ?_
    refine v_iload_n C 3 dX7_open_51 rfl rfl ?_
    obtain ⟨w6, e_w6, h⟩ := bnd h
    refine v_iast C dX7_open_52 e_w6 ?_
    refine v_aload_n C 1 dX7_open_53 rfl rfl ?_
    obtain ⟨q7, e_q7, h⟩ := bnd h
    refine v_getf C (ci := 6) (k := 0) rfl inX7_open_X7 (by decide) fX7_open_7 dX7_open_54 (gfR_e e_q7) ?_
    refine v_at (pc' := 57) rfl ?_
    refine v_iload C 0 dX7_open_57 rfl ?_
    refine v_iconst C (v := 1) dX7_open_59 (by decide) ?_
    refine v_iadd C dX7_open_60 ?_
    refine v_iload_n C 4 dX7_open_61 rfl rfl ?_
    obtain ⟨w8, e_w8, h⟩ := bnd h
    refine v_iast C dX7_open_62 e_w8 ?_
    refine v_aload_n C 1 dX7_open_63 rfl rfl ?_
    obtain ⟨q9, e_q9, h⟩ := bnd h
    refine v_getf C (ci := 6) (k := 0) rfl inX7_open_X7 (by decide) fX7_open_7 dX7_open_64 (gfR_e e_q9) ?_
    refine v_iload C 0 dX7_open_67 rfl ?_
    refine v_at (pc' := 69) rfl ?_
    refine v_iconst C (v := 2) dX7_open_69 (by decide) ?_
    refine v_iadd C dX7_open_70 ?_
    refine v_iconst C (v := 0) dX7_open_71 (by decide) ?_
    obtain ⟨w10, e_w10, h⟩ := bnd h
    refine v_iast C dX7_open_72 e_w10 ?_
    refine v_aload_n C 1 dX7_open_73 rfl rfl ?_
    obtain ⟨u11, e_u11, h⟩ := bnd h
    obtain ⟨x12, e_x12, h⟩ := bnd h
    refine v_callVi C (ci := 6) (av := []) (rest := []) rfl gX7_open_X7_pointMany rfl ⟨rfl, rfl⟩ hV_X7_pointMany ⟨(Nat.le_of_ble_eq_true rfl), (Nat.le_of_ble_eq_true rfl)⟩ e_u11 (r_X7_pointMany (A := A) e_x12) rfl rfl (Nat.le_of_ble_eq_true rfl) dX7_open_74 ?_
    obtain rfl := Option.some.inj h
    exact v_iret C dX7_open_77
  · have h := ite_f q h
    refine v_iconst C (v := 0) dX7_open_31 (by decide) ?_
    obtain rfl := Option.some.inj h
    exact v_iret C dX7_open_32
set_option maxRecDepth 100000 in
set_option maxHeartbeats 4000000 in
theorem r_X7_open {l : Launch} {G : GG} {A : Nat → Prop} {n : Nat} {w : Wd} {this : Nat} {a1 : Int32} {a2 : Int32} {a3 : Int32} {z : (Int32 × Wd)} (h : m_X7_open n w this a1 a2 a3 = some z) : Con l yX7_open wsX7_open { frames := 2, cells := 0, slots := 0, locals := 43 } G A [.ref this, .int a1, .int a2, .int a3] w (some (.int z.1)) z.2 := by
  refine Con.of (own := RX7) (cc := cX7_open) (maxL := 5) (ret := (some .int)) rfl (by decide) rfl (Nat.le_of_ble_eq_true rfl) ?_
  intro p e s m args below meth c C
  show V p l e { frames := 2, cells := 0, slots := 0, locals := 43 } s m args below meth c G A 5 0 [(0, .ref this), (1, .int a1), (2, .int a2), (3, .int a3)] [] w (some (.int z.1)) z.2
  unfold m_X7_open at h
  refine v_aload_n C 0 dX7_open_0 rfl rfl ?_
  refine v_iload_n C 1 dX7_open_1 rfl rfl ?_
  refine v_callSi C (av := [.int a1]) (rest := [.ref this]) gX7_open_X7_isCursor rfl ⟨rfl, rfl⟩ hS_X7_isCursor ⟨(Nat.le_of_ble_eq_true rfl), (Nat.le_of_ble_eq_true rfl)⟩ (r_X7_isCursor (A := A) rfl) rfl rfl (Nat.le_of_ble_eq_true rfl) dX7_open_2 ?_
  refine v_if_ne C (tgt := 12) dX7_open_5 (by decide) (fun q => ?_) (fun q => ?_)
  · have h := ite_f q h
    refine v_iload_n C 2 dX7_open_12 rfl rfl ?_
    refine v_iload_n C 3 dX7_open_13 rfl rfl ?_
    refine v_callSi C (av := [.int a2, .int a3]) (rest := [.ref this]) gX7_open_X7_isPlace rfl ⟨rfl, rfl⟩ hS_X7_isPlace ⟨(Nat.le_of_ble_eq_true rfl), (Nat.le_of_ble_eq_true rfl)⟩ (r_X7_isPlace (A := A) rfl) rfl rfl (Nat.le_of_ble_eq_true rfl) dX7_open_14 ?_
    refine v_if_eq C (tgt := 24) dX7_open_17 (by decide) (fun q => ?_) (fun q => ?_)
    · have h := ite_t q h
      refine v_iconst C (v := 2) dX7_open_24 (by decide) ?_
      exact r_X7_open_p25 C n _ _ _ _ _ _ _ h
    · have h := ite_f q h
      refine v_iconst C (v := 0) dX7_open_20 (by decide) ?_
      refine v_goto C (tgt := 25) dX7_open_21 (by decide) ?_
      exact r_X7_open_p25 C n _ _ _ _ _ _ _ h
  · have h := ite_t q h
    refine v_iconst C (v := 1) dX7_open_8 (by decide) ?_
    refine v_goto C (tgt := 25) dX7_open_9 (by decide) ?_
    exact r_X7_open_p25 C n _ _ _ _ _ _ _ h
theorem fX7_isBehind_7 : Cond.fieldLink RX7 7 (TX7 0).1 (TX7 0).2.1 (TX7 0).2.2.1 ∈ wsX7_isBehind := by decide +kernel
theorem inX7_isBehind_X7 : ∀ x ∈ u_ws RX7 TX7 20, x ∈ wsX7_isBehind := by decide +kernel
theorem hV_X7_far : yX7_far.cls = RX7 ∧ yX7_far.cls ≠ "java/lang/invoke/MethodHandle" ∧ yX7_far.cls ≠ "java/lang/invoke/VarHandle" ∧ (parseMethodDescriptor yX7_far.desc).map (fun d => d.parameters.length) = some 3 := by decide +kernel
set_option maxRecDepth 100000 in
set_option maxHeartbeats 4000000 in
theorem r_X7_isBehind {l : Launch} {G : GG} {A : Nat → Prop} {n : Nat} {w : Wd} {this : Nat} {a1 : Int32} {a2 : Int32} {z : Int32} (h : m_X7_isBehind n w this a1 a2 = some z) : Con l yX7_isBehind wsX7_isBehind { frames := 1, cells := 0, slots := 0, locals := 25 } G A [.ref this, .int a1, .int a2] w (some (.int z)) w := by
  refine Con.of (own := RX7) (cc := cX7_isBehind) (maxL := 5) (ret := (some .boolean)) rfl (by decide) rfl (Nat.le_of_ble_eq_true rfl) ?_
  intro p e s m args below meth c C
  show V p l e { frames := 1, cells := 0, slots := 0, locals := 25 } s m args below meth c G A 5 0 [(0, .ref this), (1, .int a1), (2, .int a2)] [] w (some (.int z)) w
  unfold m_X7_isBehind at h
  refine v_bipush C (v := 120) dX7_isBehind_0 (by decide) ?_
  refine v_iconst C (v := 5) dX7_isBehind_2 (by decide) ?_
  refine v_iload_n C 1 dX7_isBehind_3 rfl rfl ?_
  refine v_imul C dX7_isBehind_4 ?_
  refine v_iadd C dX7_isBehind_5 ?_
  refine v_istore_n C (lv' := [(3, .int (120 + (5 * a1))), (0, .ref this), (1, .int a1), (2, .int a2)]) dX7_isBehind_6 rfl (by decide) rfl ?_
  refine v_aload_n C 1 dX7_isBehind_7 rfl rfl ?_
  refine v_at (pc' := 8) rfl ?_
  refine v_iload_n C 3 dX7_isBehind_8 rfl rfl ?_
  refine v_aload_n C 1 dX7_isBehind_9 rfl rfl ?_
  obtain ⟨q1, e_q1, h⟩ := bnd h
  refine v_getf C (ci := 6) (k := 0) rfl inX7_isBehind_X7 (by decide) fX7_isBehind_7 dX7_isBehind_10 (gfR_e e_q1) ?_
  refine v_iload_n C 0 dX7_isBehind_13 rfl rfl ?_
  obtain ⟨x2, e_x2, h⟩ := bnd h
  refine v_iald C dX7_isBehind_14 e_x2 ?_
  refine v_aload_n C 1 dX7_isBehind_15 rfl rfl ?_
  obtain ⟨q3, e_q3, h⟩ := bnd h
  refine v_getf C (ci := 6) (k := 0) rfl inX7_isBehind_X7 (by decide) fX7_isBehind_7 dX7_isBehind_16 (gfR_e e_q3) ?_
  refine v_iload_n C 0 dX7_isBehind_19 rfl rfl ?_
  refine v_at (pc' := 20) rfl ?_
  refine v_iconst C (v := 1) dX7_isBehind_20 (by decide) ?_
  refine v_iadd C dX7_isBehind_21 ?_
  obtain ⟨x4, e_x4, h⟩ := bnd h
  refine v_iald C dX7_isBehind_22 e_x4 ?_
  obtain ⟨u5, e_u5, h⟩ := bnd h
  obtain ⟨x6, e_x6, h⟩ := bnd h
  refine v_callVi C (ci := 6) (av := [.int a2, .int x2, .int x4]) (rest := []) rfl gX7_isBehind_X7_far rfl ⟨rfl, rfl⟩ hV_X7_far ⟨(Nat.le_of_ble_eq_true rfl), (Nat.le_of_ble_eq_true rfl)⟩ e_u5 (r_X7_far (A := A) e_x6) rfl rfl (Nat.le_of_ble_eq_true rfl) dX7_isBehind_23 ?_
  refine v_istore C (lv' := [(4, .int x6), (3, .int (120 + (5 * a1))), (0, .ref this), (1, .int a1), (2, .int a2)]) dX7_isBehind_26 (by decide) rfl ?_
  refine v_aload_n C 2 dX7_isBehind_28 rfl rfl ?_
  refine v_iload_n C 4 dX7_isBehind_29 rfl rfl ?_
  obtain ⟨u7, e_u7, h⟩ := bnd h
  obtain ⟨x8, e_x8, h⟩ := bnd h
  refine v_callVi C (ci := 6) (av := [.int a2]) (rest := []) rfl gX7_isBehind_X7_isThere rfl ⟨rfl, rfl⟩ hV_X7_isThere ⟨(Nat.le_of_ble_eq_true rfl), (Nat.le_of_ble_eq_true rfl)⟩ e_u7 (r_X7_isThere (A := A) e_x8) rfl rfl (Nat.le_of_ble_eq_true rfl) dX7_isBehind_30 ?_
  refine v_at (pc' := 33) rfl ?_
  refine v_if_eq C (tgt := 89) dX7_isBehind_33 (by decide) (fun q => ?_) (fun q => ?_)
  · have h := ite_t q h
    refine v_iconst C (v := 0) dX7_isBehind_89 (by decide) ?_
    obtain rfl := Option.some.inj h
    exact v_zret C dX7_isBehind_90 bo_0
  · have h := ite_f q h
    refine v_aload_n C 2 dX7_isBehind_36 rfl rfl ?_
    obtain ⟨q9, e_q9, h⟩ := bnd h
    refine v_getf C (ci := 6) (k := 0) rfl inX7_isBehind_X7 (by decide) fX7_isBehind_7 dX7_isBehind_37 (gfR_e e_q9) ?_
    refine v_iload_n C 1 dX7_isBehind_40 rfl rfl ?_
    refine v_iconst C (v := 2) dX7_isBehind_41 (by decide) ?_
    refine v_iadd C dX7_isBehind_42 ?_
    obtain ⟨x10, e_x10, h⟩ := bnd h
    refine v_iald C dX7_isBehind_43 e_x10 ?_
    refine v_if_eq C (tgt := 85) dX7_isBehind_44 (by decide) (fun q => ?_) (fun q => ?_)
    · have h := ite_t q h
      refine v_iconst C (v := 1) dX7_isBehind_85 (by decide) ?_
      refine v_goto C (tgt := 90) dX7_isBehind_86 (by decide) ?_
      obtain rfl := Option.some.inj h
      exact v_zret C dX7_isBehind_90 bo_1
    · have h := ite_f q h
      refine v_iload C 0 dX7_isBehind_47 rfl ?_
      refine v_aload_n C 2 dX7_isBehind_49 rfl rfl ?_
      obtain ⟨q11, e_q11, h⟩ := bnd h
      refine v_getf C (ci := 6) (k := 0) rfl inX7_isBehind_X7 (by decide) fX7_isBehind_7 dX7_isBehind_50 (gfR_e e_q11) ?_
      refine v_iload_n C 1 dX7_isBehind_53 rfl rfl ?_
      refine v_iconst C (v := 3) dX7_isBehind_54 (by decide) ?_
      refine v_iadd C dX7_isBehind_55 ?_
      obtain ⟨x12, e_x12, h⟩ := bnd h
      refine v_iald C dX7_isBehind_56 e_x12 ?_
      refine v_at (pc' := 57) rfl ?_
      refine v_icmp_gt C (tgt := 85) dX7_isBehind_57 (by decide) (fun q => ?_) (fun q => ?_)
      · have h := ite_t q h
        refine v_iconst C (v := 1) dX7_isBehind_85 (by decide) ?_
        refine v_goto C (tgt := 90) dX7_isBehind_86 (by decide) ?_
        obtain rfl := Option.some.inj h
        exact v_zret C dX7_isBehind_90 bo_1
      · have h := ite_f q h
        refine v_iload C 0 dX7_isBehind_60 rfl ?_
        refine v_aload_n C 2 dX7_isBehind_62 rfl rfl ?_
        obtain ⟨q13, e_q13, h⟩ := bnd h
        refine v_getf C (ci := 6) (k := 0) rfl inX7_isBehind_X7 (by decide) fX7_isBehind_7 dX7_isBehind_63 (gfR_e e_q13) ?_
        refine v_iload_n C 1 dX7_isBehind_66 rfl rfl ?_
        refine v_iconst C (v := 3) dX7_isBehind_67 (by decide) ?_
        refine v_iadd C dX7_isBehind_68 ?_
        obtain ⟨x14, e_x14, h⟩ := bnd h
        refine v_iald C dX7_isBehind_69 e_x14 ?_
        refine v_at (pc' := 70) rfl ?_
        refine v_icmp_ne C (tgt := 89) dX7_isBehind_70 (by decide) (fun q => ?_) (fun q => ?_)
        · have h := ite_f q h
          refine v_iconst C (v := 0) dX7_isBehind_89 (by decide) ?_
          obtain rfl := Option.some.inj h
          exact v_zret C dX7_isBehind_90 bo_0
        · have h := ite_t q h
          refine v_iload_n C 4 dX7_isBehind_73 rfl rfl ?_
          refine v_aload_n C 2 dX7_isBehind_74 rfl rfl ?_
          obtain ⟨q15, e_q15, h⟩ := bnd h
          refine v_getf C (ci := 6) (k := 0) rfl inX7_isBehind_X7 (by decide) fX7_isBehind_7 dX7_isBehind_75 (gfR_e e_q15) ?_
          refine v_iload_n C 1 dX7_isBehind_78 rfl rfl ?_
          refine v_iconst C (v := 4) dX7_isBehind_79 (by decide) ?_
          refine v_iadd C dX7_isBehind_80 ?_
          obtain ⟨x16, e_x16, h⟩ := bnd h
          refine v_iald C dX7_isBehind_81 e_x16 ?_
          refine v_at (pc' := 82) rfl ?_
          refine v_icmp_le C (tgt := 89) dX7_isBehind_82 (by decide) (fun q => ?_) (fun q => ?_)
          · have h := ite_t q h
            refine v_iconst C (v := 0) dX7_isBehind_89 (by decide) ?_
            obtain rfl := Option.some.inj h
            exact v_zret C dX7_isBehind_90 bo_0
          · have h := ite_f q h
            refine v_iconst C (v := 1) dX7_isBehind_85 (by decide) ?_
            refine v_goto C (tgt := 90) dX7_isBehind_86 (by decide) ?_
            obtain rfl := Option.some.inj h
            exact v_zret C dX7_isBehind_90 bo_1
theorem fX7_next_7 : Cond.fieldLink RX7 7 (TX7 0).1 (TX7 0).2.1 (TX7 0).2.2.1 ∈ wsX7_next := by decide +kernel
theorem inX7_next_X7 : ∀ x ∈ u_ws RX7 TX7 20, x ∈ wsX7_next := by decide +kernel
theorem hV_X7_isBehind : yX7_isBehind.cls = RX7 ∧ yX7_isBehind.cls ≠ "java/lang/invoke/MethodHandle" ∧ yX7_isBehind.cls ≠ "java/lang/invoke/VarHandle" ∧ (parseMethodDescriptor yX7_isBehind.desc).map (fun d => d.parameters.length) = some 2 := by decide +kernel
set_option maxRecDepth 100000 in
set_option maxHeartbeats 4000000 in
theorem r_X7_next_p126 {p : Program} {l : Launch} {e : Env} {s : State} {m : MethodId} {args : Array Value} {below : List Frame} {meth : Method} {c : Code} {G : GG} {A : Nat → Prop} (C : Cx p s m args meth c G A cX7_next 6 RX7 wsX7_next (some .int)) (n : Nat) {z : (Int32 × Wd)} : ∀ (w : Wd) (a0 : Nat) (a2 : Int32) (a3 : Int32), m_X7_next_p126 n w a0 a2 a3 = some z → V p l e { frames := 2, cells := 0, slots := 0, locals := 49 } s m args below meth c G A 6 126 [(0, .ref a0), (2, .int a2), (3, .int a3)] [] w (some (.int z.1)) z.2 := by
  intro w a0 a2 a3 h
  unfold m_X7_next_p126 at h
  refine v_iload_n C 2 dX7_next_126 rfl rfl ?_
  refine v_iconst C (v := (-1)) dX7_next_127 (by decide) ?_
  refine v_icmp_eq C (tgt := 176) dX7_next_128 (by decide) (fun q => ?_) (fun q => ?_)
  · have h := ite_t q h
    refine v_iload_n C 2 dX7_next_176 rfl rfl ?_
    obtain rfl := Option.some.inj h
    exact v_iret C dX7_next_177
  · have h := ite_f q h
    refine v_aload_n C 0 dX7_next_131 rfl rfl ?_
    obtain ⟨q1, e_q1, h⟩ := bnd h
    refine v_getf C (ci := 6) (k := 0) rfl inX7_next_X7 (by decide) fX7_next_7 dX7_next_132 (gfR_e e_q1) ?_
    refine v_iload_n C 1 dX7_next_135 rfl rfl ?_
    refine v_iconst C (v := 2) dX7_next_136 (by decide) ?_
    refine v_iadd C dX7_next_137 ?_
    refine v_iconst C (v := 1) dX7_next_138 (by decide) ?_
    obtain ⟨w2, e_w2, h⟩ := bnd h
    refine v_iast C dX7_next_139 e_w2 ?_
    refine v_at (pc' := 140) rfl ?_
    refine v_aload_n C 0 dX7_next_140 rfl rfl ?_
    obtain ⟨q3, e_q3, h⟩ := bnd h
    refine v_getf C (ci := 6) (k := 0) rfl inX7_next_X7 (by decide) fX7_next_7 dX7_next_141 (gfR_e e_q3) ?_
    refine v_iload_n C 1 dX7_next_144 rfl rfl ?_
    refine v_iconst C (v := 3) dX7_next_145 (by decide) ?_
    refine v_iadd C dX7_next_146 ?_
    refine v_aload_n C 0 dX7_next_147 rfl rfl ?_
    refine v_iload_n C 2 dX7_next_148 rfl rfl ?_
    refine v_aload_n C 0 dX7_next_149 rfl rfl ?_
    refine v_at (pc' := 150) rfl ?_
    obtain ⟨q4, e_q4, h⟩ := bnd h
    refine v_getf C (ci := 6) (k := 0) rfl inX7_next_X7 (by decide) fX7_next_7 dX7_next_150 (gfR_e e_q4) ?_
    refine v_iload_n C 1 dX7_next_153 rfl rfl ?_
    obtain ⟨x5, e_x5, h⟩ := bnd h
    refine v_iald C dX7_next_154 e_x5 ?_
    refine v_aload_n C 0 dX7_next_155 rfl rfl ?_
    obtain ⟨q6, e_q6, h⟩ := bnd h
    refine v_getf C (ci := 6) (k := 0) rfl inX7_next_X7 (by decide) fX7_next_7 dX7_next_156 (gfR_e e_q6) ?_
    refine v_iload_n C 1 dX7_next_159 rfl rfl ?_
    refine v_iconst C (v := 1) dX7_next_160 (by decide) ?_
    refine v_iadd C dX7_next_161 ?_
    refine v_at (pc' := 162) rfl ?_
    obtain ⟨x7, e_x7, h⟩ := bnd h
    refine v_iald C dX7_next_162 e_x7 ?_
    obtain ⟨u8, e_u8, h⟩ := bnd h
    obtain ⟨x9, e_x9, h⟩ := bnd h
    refine v_callVi C (ci := 6) (av := [.int a3, .int x5, .int x7]) (rest := [.int (a2 + 3), .ref q3]) rfl gX7_next_X7_far rfl ⟨rfl, rfl⟩ hV_X7_far ⟨(Nat.le_of_ble_eq_true rfl), (Nat.le_of_ble_eq_true rfl)⟩ e_u8 (r_X7_far (A := A) e_x9) rfl rfl (Nat.le_of_ble_eq_true rfl) dX7_next_163 ?_
    obtain ⟨w10, e_w10, h⟩ := bnd h
    refine v_iast C dX7_next_166 e_w10 ?_
    refine v_aload_n C 0 dX7_next_167 rfl rfl ?_
    obtain ⟨q11, e_q11, h⟩ := bnd h
    refine v_getf C (ci := 6) (k := 0) rfl inX7_next_X7 (by decide) fX7_next_7 dX7_next_168 (gfR_e e_q11) ?_
    refine v_iload_n C 1 dX7_next_171 rfl rfl ?_
    refine v_iconst C (v := 4) dX7_next_172 (by decide) ?_
    refine v_iadd C dX7_next_173 ?_
    refine v_at (pc' := 174) rfl ?_
    refine v_iload_n C 2 dX7_next_174 rfl rfl ?_
    obtain ⟨w12, e_w12, h⟩ := bnd h
    refine v_iast C dX7_next_175 e_w12 ?_
    refine v_iload_n C 2 dX7_next_176 rfl rfl ?_
    obtain rfl := Option.some.inj h
    exact v_iret C dX7_next_177
set_option maxRecDepth 100000 in
set_option maxHeartbeats 4000000 in
theorem r_X7_next_p37 {p : Program} {l : Launch} {e : Env} {s : State} {m : MethodId} {args : Array Value} {below : List Frame} {meth : Method} {c : Code} {G : GG} {A : Nat → Prop} (C : Cx p s m args meth c G A cX7_next 6 RX7 wsX7_next (some .int)) (n : Nat) {z : (Int32 × Wd)} : ∀ (t : Nat), ∀ (w : Wd) (a0 : Nat) (a1 : Int32) (a2 : Int32) (a3 : Int32) (a4 : Int32), m_X7_next_p37 n t w a0 a1 a2 a3 a4 = some z → V p l e { frames := 2, cells := 0, slots := 0, locals := 49 } s m args below meth c G A 6 37 [(0, .ref a0), (1, .int a1), (2, .int a2), (3, .int a3), (4, .int a4)] [] w (some (.int z.1)) z.2 := by
  intro t
  induction t with
  | zero =>
    intro w a0 a1 a2 a3 a4 h
    rw [m_X7_next_p37] at h
    cases h
  | succ t ih =>
    intro w a0 a1 a2 a3 a4 h
    rw [m_X7_next_p37] at h
    refine v_iload C 4 dX7_next_37 rfl ?_
    refine v_bipush C (v := 24) dX7_next_39 (by decide) ?_
    refine v_icmp_ge C (tgt := 126) dX7_next_41 (by decide) (fun q => ?_) (fun q => ?_)
    · have h := ite_t q h
      refine v_sub [0, 2, 3] rfl ?_
      exact r_X7_next_p126 C n _ _ _ _ h
    · have h := ite_f q h
      refine v_aload_n C 0 dX7_next_44 rfl rfl ?_
      refine v_iload_n C 1 dX7_next_45 rfl rfl ?_
      refine v_iload C 4 dX7_next_46 rfl ?_
      obtain ⟨u1, e_u1, h⟩ := bnd h
      obtain ⟨x2, e_x2, h⟩ := bnd h
      refine v_callVi C (ci := 6) (av := [.int a1, .int a4]) (rest := []) rfl gX7_next_X7_isBehind rfl ⟨rfl, rfl⟩ hV_X7_isBehind ⟨(Nat.le_of_ble_eq_true rfl), (Nat.le_of_ble_eq_true rfl)⟩ e_u1 (r_X7_isBehind (A := A) e_x2) rfl rfl (Nat.le_of_ble_eq_true rfl) dX7_next_48 ?_
      refine v_if_eq C (tgt := 105) dX7_next_51 (by decide) (fun q => ?_) (fun q => ?_)
      · have h := ite_t q h
        refine v_iconst C (v := 0) dX7_next_105 (by decide) ?_
        refine v_istore C (lv' := [(5, .int 0), (0, .ref a0), (1, .int a1), (2, .int a2), (3, .int a3), (4, .int a4)]) dX7_next_106 (by decide) rfl ?_
        refine v_iload C 0 dX7_next_108 rfl ?_
        refine v_if_eq C (tgt := 118) dX7_next_110 (by decide) (fun _ => ?_) (fun q => absurd (by decide) q)
        refine v_iload_n C 4 dX7_next_118 rfl rfl ?_
        refine v_istore_n C (lv' := [(3, .int a3), (5, .int 0), (0, .ref a0), (1, .int a1), (2, .int a2), (4, .int a4)]) dX7_next_119 rfl (by decide) rfl ?_
        refine v_iinc C (k := 5) (v := (a4 + 1)) (lv' := [(4, .int (a4 + 1)), (3, .int a3), (5, .int 0), (0, .ref a0), (1, .int a1), (2, .int a2)]) dX7_next_120 rfl rfl (by decide) rfl ?_
        refine v_at (pc' := 123) rfl ?_
        refine v_goto C (tgt := 37) dX7_next_123 (by decide) ?_
        refine v_sub [3, 4, 5, 1, 0] rfl ?_
        exact ih _ _ _ _ _ _ h
      · have h := ite_f q h
        refine v_iload_n C 3 dX7_next_54 rfl rfl ?_
        refine v_iconst C (v := (-1)) dX7_next_55 (by decide) ?_
        refine v_icmp_eq C (tgt := 101) dX7_next_56 (by decide) (fun q => ?_) (fun q => ?_)
        · have h := ite_t q h
          refine v_iconst C (v := 1) dX7_next_101 (by decide) ?_
          refine v_goto C (tgt := 106) dX7_next_102 (by decide) ?_
          refine v_istore C (lv' := [(5, .int 1), (0, .ref a0), (1, .int a1), (2, .int a2), (3, .int a3), (4, .int a4)]) dX7_next_106 (by decide) rfl ?_
          refine v_iload C 0 dX7_next_108 rfl ?_
          refine v_if_eq C (tgt := 118) dX7_next_110 (by decide) (fun q => absurd q (by decide)) (fun _ => ?_)
          refine v_iload C 5 dX7_next_113 rfl ?_
          refine v_goto C (tgt := 119) dX7_next_115 (by decide) ?_
          refine v_at (pc' := 119) rfl ?_
          refine v_istore_n C (lv' := [(3, .int a4), (5, .int 1), (0, .ref a0), (1, .int a1), (2, .int a2), (4, .int a4)]) dX7_next_119 rfl (by decide) rfl ?_
          refine v_iinc C (k := 5) (v := (a4 + 1)) (lv' := [(4, .int (a4 + 1)), (3, .int a4), (5, .int 1), (0, .ref a0), (1, .int a1), (2, .int a2)]) dX7_next_120 rfl rfl (by decide) rfl ?_
          refine v_goto C (tgt := 37) dX7_next_123 (by decide) ?_
          refine v_sub [3, 4, 5, 1, 0] rfl ?_
          exact ih _ _ _ _ _ _ h
        · have h := ite_f q h
          refine v_aload_n C 0 dX7_next_59 rfl rfl ?_
          refine v_iload C 4 dX7_next_60 rfl ?_
          refine v_aload_n C 0 dX7_next_62 rfl rfl ?_
          obtain ⟨q3, e_q3, h⟩ := bnd h
          refine v_getf C (ci := 6) (k := 0) rfl inX7_next_X7 (by decide) fX7_next_7 dX7_next_63 (gfR_e e_q3) ?_
          refine v_iload_n C 2 dX7_next_66 rfl rfl ?_
          obtain ⟨x4, e_x4, h⟩ := bnd h
          refine v_iald C dX7_next_67 e_x4 ?_
          refine v_aload_n C 0 dX7_next_68 rfl rfl ?_
          refine v_at (pc' := 69) rfl ?_
          obtain ⟨q5, e_q5, h⟩ := bnd h
          refine v_getf C (ci := 6) (k := 0) rfl inX7_next_X7 (by decide) fX7_next_7 dX7_next_69 (gfR_e e_q5) ?_
          refine v_iload_n C 2 dX7_next_72 rfl rfl ?_
          refine v_iconst C (v := 1) dX7_next_73 (by decide) ?_
          refine v_iadd C dX7_next_74 ?_
          obtain ⟨x6, e_x6, h⟩ := bnd h
          refine v_iald C dX7_next_75 e_x6 ?_
          obtain ⟨u7, e_u7, h⟩ := bnd h
          obtain ⟨x8, e_x8, h⟩ := bnd h
          refine v_callVi C (ci := 6) (av := [.int a4, .int x4, .int x6]) (rest := []) rfl gX7_next_X7_far rfl ⟨rfl, rfl⟩ hV_X7_far ⟨(Nat.le_of_ble_eq_true rfl), (Nat.le_of_ble_eq_true rfl)⟩ e_u7 (r_X7_far (A := A) e_x8) rfl rfl (Nat.le_of_ble_eq_true rfl) dX7_next_76 ?_
          refine v_aload_n C 0 dX7_next_79 rfl rfl ?_
          refine v_iload_n C 3 dX7_next_80 rfl rfl ?_
          refine v_at (pc' := 81) rfl ?_
          refine v_aload_n C 0 dX7_next_81 rfl rfl ?_
          obtain ⟨q9, e_q9, h⟩ := bnd h
          refine v_getf C (ci := 6) (k := 0) rfl inX7_next_X7 (by decide) fX7_next_7 dX7_next_82 (gfR_e e_q9) ?_
          refine v_iload_n C 2 dX7_next_85 rfl rfl ?_
          obtain ⟨x10, e_x10, h⟩ := bnd h
          refine v_iald C dX7_next_86 e_x10 ?_
          refine v_aload_n C 0 dX7_next_87 rfl rfl ?_
          obtain ⟨q11, e_q11, h⟩ := bnd h
          refine v_getf C (ci := 6) (k := 0) rfl inX7_next_X7 (by decide) fX7_next_7 dX7_next_88 (gfR_e e_q11) ?_
          refine v_iload_n C 2 dX7_next_91 rfl rfl ?_
          refine v_iconst C (v := 1) dX7_next_92 (by decide) ?_
          refine v_at (pc' := 93) rfl ?_
          refine v_iadd C dX7_next_93 ?_
          obtain ⟨x12, e_x12, h⟩ := bnd h
          refine v_iald C dX7_next_94 e_x12 ?_
          obtain ⟨u13, e_u13, h⟩ := bnd h
          obtain ⟨x14, e_x14, h⟩ := bnd h
          refine v_callVi C (ci := 6) (av := [.int a3, .int x10, .int x12]) (rest := [.int x8]) rfl gX7_next_X7_far rfl ⟨rfl, rfl⟩ hV_X7_far ⟨(Nat.le_of_ble_eq_true rfl), (Nat.le_of_ble_eq_true rfl)⟩ e_u13 (r_X7_far (A := A) e_x14) rfl rfl (Nat.le_of_ble_eq_true rfl) dX7_next_95 ?_
          refine v_icmp_ge C (tgt := 105) dX7_next_98 (by decide) (fun q => ?_) (fun q => ?_)
          · have h := ite_t q h
            refine v_iconst C (v := 0) dX7_next_105 (by decide) ?_
            refine v_istore C (lv' := [(5, .int 0), (0, .ref a0), (1, .int a1), (2, .int a2), (3, .int a3), (4, .int a4)]) dX7_next_106 (by decide) rfl ?_
            refine v_iload C 0 dX7_next_108 rfl ?_
            refine v_if_eq C (tgt := 118) dX7_next_110 (by decide) (fun _ => ?_) (fun q => absurd (by decide) q)
            refine v_iload_n C 4 dX7_next_118 rfl rfl ?_
            refine v_istore_n C (lv' := [(3, .int a3), (5, .int 0), (0, .ref a0), (1, .int a1), (2, .int a2), (4, .int a4)]) dX7_next_119 rfl (by decide) rfl ?_
            refine v_iinc C (k := 5) (v := (a4 + 1)) (lv' := [(4, .int (a4 + 1)), (3, .int a3), (5, .int 0), (0, .ref a0), (1, .int a1), (2, .int a2)]) dX7_next_120 rfl rfl (by decide) rfl ?_
            refine v_at (pc' := 123) rfl ?_
            refine v_goto C (tgt := 37) dX7_next_123 (by decide) ?_
            refine v_sub [3, 4, 5, 1, 0] rfl ?_
            exact ih _ _ _ _ _ _ h
          · have h := ite_f q h
            refine v_iconst C (v := 1) dX7_next_101 (by decide) ?_
            refine v_goto C (tgt := 106) dX7_next_102 (by decide) ?_
            refine v_istore C (lv' := [(5, .int 1), (0, .ref a0), (1, .int a1), (2, .int a2), (3, .int a3), (4, .int a4)]) dX7_next_106 (by decide) rfl ?_
            refine v_iload C 0 dX7_next_108 rfl ?_
            refine v_if_eq C (tgt := 118) dX7_next_110 (by decide) (fun q => absurd q (by decide)) (fun _ => ?_)
            refine v_iload C 5 dX7_next_113 rfl ?_
            refine v_goto C (tgt := 119) dX7_next_115 (by decide) ?_
            refine v_at (pc' := 119) rfl ?_
            refine v_istore_n C (lv' := [(3, .int a4), (5, .int 1), (0, .ref a0), (1, .int a1), (2, .int a2), (4, .int a4)]) dX7_next_119 rfl (by decide) rfl ?_
            refine v_iinc C (k := 5) (v := (a4 + 1)) (lv' := [(4, .int (a4 + 1)), (3, .int a4), (5, .int 1), (0, .ref a0), (1, .int a1), (2, .int a2)]) dX7_next_120 rfl rfl (by decide) rfl ?_
            refine v_goto C (tgt := 37) dX7_next_123 (by decide) ?_
            refine v_sub [3, 4, 5, 1, 0] rfl ?_
            exact ih _ _ _ _ _ _ h
set_option maxRecDepth 100000 in
set_option maxHeartbeats 4000000 in
theorem r_X7_next {l : Launch} {G : GG} {A : Nat → Prop} {n : Nat} {w : Wd} {this : Nat} {a1 : Int32} {z : (Int32 × Wd)} (h : m_X7_next n w this a1 = some z) : Con l yX7_next wsX7_next { frames := 2, cells := 0, slots := 0, locals := 49 } G A [.ref this, .int a1] w (some (.int z.1)) z.2 := by
  refine Con.of (own := RX7) (cc := cX7_next) (maxL := 6) (ret := (some .int)) rfl (by decide) rfl (Nat.le_of_ble_eq_true rfl) ?_
  intro p e s m args below meth c C
  show V p l e { frames := 2, cells := 0, slots := 0, locals := 49 } s m args below meth c G A 6 0 [(0, .ref this), (1, .int a1)] [] w (some (.int z.1)) z.2
  unfold m_X7_next at h
  refine v_aload_n C 0 dX7_next_0 rfl rfl ?_
  refine v_iload_n C 1 dX7_next_1 rfl rfl ?_
  refine v_callSi C (av := [.int a1]) (rest := [.ref this]) gX7_next_X7_isCursor rfl ⟨rfl, rfl⟩ hS_X7_isCursor ⟨(Nat.le_of_ble_eq_true rfl), (Nat.le_of_ble_eq_true rfl)⟩ (r_X7_isCursor (A := A) rfl) rfl rfl (Nat.le_of_ble_eq_true rfl) dX7_next_2 ?_
  refine v_if_eq C (tgt := 12) dX7_next_5 (by decide) (fun q => ?_) (fun q => ?_)
  · have h := ite_t q h
    refine v_iconst C (v := 1) dX7_next_12 (by decide) ?_
    obtain ⟨u1, e_u1, h⟩ := bnd h
    obtain ⟨z2, e_z2, h⟩ := bnd h
    refine v_callVi C (ci := 6) (av := [.int 1]) (rest := []) rfl gX7_next_X7_refused rfl ⟨rfl, rfl⟩ hV_X7_refused ⟨(Nat.le_of_ble_eq_true rfl), (Nat.le_of_ble_eq_true rfl)⟩ e_u1 (r_X7_refused (A := A) e_z2) rfl rfl (Nat.le_of_ble_eq_true rfl) dX7_next_13 ?_
    refine v_if_eq C (tgt := 21) dX7_next_16 (by decide) (fun q => ?_) (fun q => ?_)
    · have h := ite_t q h
      refine v_aload_n C 0 dX7_next_21 rfl rfl ?_
      obtain ⟨u3, e_u3, h⟩ := bnd h
      obtain ⟨z4, e_z4, h⟩ := bnd h
      refine v_callVv C (ci := 6) (av := []) (rest := []) rfl gX7_next_X7_saves rfl ⟨rfl, rfl⟩ hV_X7_saves ⟨(Nat.le_of_ble_eq_true rfl), (Nat.le_of_ble_eq_true rfl)⟩ e_u3 (r_X7_saves (A := A) e_z4) rfl rfl (Nat.le_of_ble_eq_true rfl) dX7_next_22 ?_
      refine v_bipush C (v := 120) dX7_next_25 (by decide) ?_
      refine v_iconst C (v := 5) dX7_next_27 (by decide) ?_
      refine v_iload_n C 1 dX7_next_28 rfl rfl ?_
      refine v_imul C dX7_next_29 ?_
      refine v_iadd C dX7_next_30 ?_
      refine v_at (pc' := 31) rfl ?_
      refine v_istore_n C (lv' := [(2, .int (120 + (5 * a1))), (0, .ref this), (1, .int a1)]) dX7_next_31 rfl (by decide) rfl ?_
      refine v_iconst C (v := (-1)) dX7_next_32 (by decide) ?_
      refine v_istore_n C (lv' := [(3, .int (-1)), (2, .int (120 + (5 * a1))), (0, .ref this), (1, .int a1)]) dX7_next_33 rfl (by decide) rfl ?_
      refine v_iconst C (v := 0) dX7_next_34 (by decide) ?_
      refine v_istore C (lv' := [(4, .int 0), (3, .int (-1)), (2, .int (120 + (5 * a1))), (0, .ref this), (1, .int a1)]) dX7_next_35 (by decide) rfl ?_
      refine v_sub [3, 4, 2, 1, 0] rfl ?_
      exact r_X7_next_p37 C n n _ _ _ _ _ _ h
    · have h := ite_f q h
      refine v_iconst C (v := 0) dX7_next_19 (by decide) ?_
      obtain rfl := Option.some.inj h
      exact v_iret C dX7_next_20
  · have h := ite_f q h
    refine v_iconst C (v := 0) dX7_next_8 (by decide) ?_
    refine v_goto C (tgt := 13) dX7_next_9 (by decide) ?_
    obtain ⟨u5, e_u5, h⟩ := bnd h
    obtain ⟨z6, e_z6, h⟩ := bnd h
    refine v_callVi C (ci := 6) (av := [.int 0]) (rest := []) rfl gX7_next_X7_refused rfl ⟨rfl, rfl⟩ hV_X7_refused ⟨(Nat.le_of_ble_eq_true rfl), (Nat.le_of_ble_eq_true rfl)⟩ e_u5 (r_X7_refused (A := A) e_z6) rfl rfl (Nat.le_of_ble_eq_true rfl) dX7_next_13 ?_
    refine v_if_eq C (tgt := 21) dX7_next_16 (by decide) (fun q => ?_) (fun q => ?_)
    · have h := ite_t q h
      refine v_aload_n C 0 dX7_next_21 rfl rfl ?_
      obtain ⟨u7, e_u7, h⟩ := bnd h
      obtain ⟨z8, e_z8, h⟩ := bnd h
      refine v_callVv C (ci := 6) (av := []) (rest := []) rfl gX7_next_X7_saves rfl ⟨rfl, rfl⟩ hV_X7_saves ⟨(Nat.le_of_ble_eq_true rfl), (Nat.le_of_ble_eq_true rfl)⟩ e_u7 (r_X7_saves (A := A) e_z8) rfl rfl (Nat.le_of_ble_eq_true rfl) dX7_next_22 ?_
      refine v_bipush C (v := 120) dX7_next_25 (by decide) ?_
      refine v_iconst C (v := 5) dX7_next_27 (by decide) ?_
      refine v_iload_n C 1 dX7_next_28 rfl rfl ?_
      refine v_imul C dX7_next_29 ?_
      refine v_iadd C dX7_next_30 ?_
      refine v_at (pc' := 31) rfl ?_
      refine v_istore_n C (lv' := [(2, .int (120 + (5 * a1))), (0, .ref this), (1, .int a1)]) dX7_next_31 rfl (by decide) rfl ?_
      refine v_iconst C (v := (-1)) dX7_next_32 (by decide) ?_
      refine v_istore_n C (lv' := [(3, .int (-1)), (2, .int (120 + (5 * a1))), (0, .ref this), (1, .int a1)]) dX7_next_33 rfl (by decide) rfl ?_
      refine v_iconst C (v := 0) dX7_next_34 (by decide) ?_
      refine v_istore C (lv' := [(4, .int 0), (3, .int (-1)), (2, .int (120 + (5 * a1))), (0, .ref this), (1, .int a1)]) dX7_next_35 (by decide) rfl ?_
      refine v_sub [3, 4, 2, 1, 0] rfl ?_
      exact r_X7_next_p37 C n n _ _ _ _ _ _ h
    · have h := ite_f q h
      refine v_iconst C (v := 0) dX7_next_19 (by decide) ?_
      obtain rfl := Option.some.inj h
      exact v_iret C dX7_next_20
set_option maxRecDepth 100000 in
set_option maxHeartbeats 4000000 in
theorem r_X7_beyond {l : Launch} {G : GG} {A : Nat → Prop} {w : Wd} {a0 : Int32} {a1 : Int32} {a2 : Int32} {z : Int32} (h : m_X7_beyond a0 a1 a2 = z) : Con l yX7_beyond wsX7_beyond { frames := 0, cells := 0, slots := 0, locals := 0 } G A [.int a0, .int a1, .int a2] w (some (.int z)) w := by
  refine Con.of (own := RX7) (cc := cX7_beyond) (maxL := 3) (ret := (some .int)) rfl (by decide) rfl (Nat.le_of_ble_eq_true rfl) ?_
  intro p e s m args below meth c C
  show V p l e { frames := 0, cells := 0, slots := 0, locals := 0 } s m args below meth c G A 3 0 [(0, .int a0), (1, .int a1), (2, .int a2)] [] w (some (.int z)) w
  unfold m_X7_beyond at h
  refine v_iload_n C 0 dX7_beyond_0 rfl rfl ?_
  refine v_iload_n C 1 dX7_beyond_1 rfl rfl ?_
  refine v_icmp_ge C (tgt := 11) dX7_beyond_2 (by decide) (fun q => ?_) (fun q => ?_)
  · have h := ite_t q h
    refine v_iload_n C 0 dX7_beyond_11 rfl rfl ?_
    refine v_iload_n C 2 dX7_beyond_12 rfl rfl ?_
    refine v_icmp_le C (tgt := 22) dX7_beyond_13 (by decide) (fun q => ?_) (fun q => ?_)
    · have h := ite_t q h
      refine v_iconst C (v := 0) dX7_beyond_22 (by decide) ?_
      subst h
      exact v_iret C dX7_beyond_23
    · have h := ite_f q h
      refine v_iload_n C 0 dX7_beyond_16 rfl rfl ?_
      refine v_iload_n C 2 dX7_beyond_17 rfl rfl ?_
      refine v_isub C dX7_beyond_18 ?_
      refine v_goto C (tgt := 23) dX7_beyond_19 (by decide) ?_
      subst h
      exact v_iret C dX7_beyond_23
  · have h := ite_f q h
    refine v_iload_n C 1 dX7_beyond_5 rfl rfl ?_
    refine v_iload_n C 0 dX7_beyond_6 rfl rfl ?_
    refine v_isub C dX7_beyond_7 ?_
    refine v_goto C (tgt := 23) dX7_beyond_8 (by decide) ?_
    subst h
    exact v_iret C dX7_beyond_23
theorem hS_X7_beyond : yX7_beyond.cls ≠ "java/lang/invoke/MethodHandle" ∧ yX7_beyond.cls ≠ "java/lang/invoke/VarHandle" ∧ (parseMethodDescriptor yX7_beyond.desc).map (fun d => d.parameters.length) = some 3 := by decide +kernel
set_option maxRecDepth 100000 in
set_option maxHeartbeats 4000000 in
theorem r_X7_farFrom {l : Launch} {G : GG} {A : Nat → Prop} {n : Nat} {w : Wd} {a0 : Int32} {a1 : Int32} {a2 : Int32} {z : Int32} (h : m_X7_farFrom n w a0 a1 a2 = some z) : Con l yX7_farFrom wsX7_farFrom { frames := 2, cells := 0, slots := 0, locals := 42 } G A [.int a0, .int a1, .int a2] w (some (.int z)) w := by
  refine Con.of (own := RX7) (cc := cX7_farFrom) (maxL := 8) (ret := (some .int)) rfl (by decide) rfl (Nat.le_of_ble_eq_true rfl) ?_
  intro p e s m args below meth c C
  show V p l e { frames := 2, cells := 0, slots := 0, locals := 42 } s m args below meth c G A 8 0 [(0, .int a0), (1, .int a1), (2, .int a2)] [] w (some (.int z)) w
  unfold m_X7_farFrom at h
  refine v_iconst C (v := 1) dX7_farFrom_0 (by decide) ?_
  refine v_iload_n C 0 dX7_farFrom_1 rfl rfl ?_
  refine v_callSi C (av := [.int a0]) (rest := [.int 1]) gX7_farFrom_X7_span rfl ⟨rfl, rfl⟩ hS_X7_span ⟨(Nat.le_of_ble_eq_true rfl), (Nat.le_of_ble_eq_true rfl)⟩ (r_X7_span (A := A) rfl) rfl rfl (Nat.le_of_ble_eq_true rfl) dX7_farFrom_2 ?_
  refine v_ishl C dX7_farFrom_5 ?_
  refine v_iconst C (v := 1) dX7_farFrom_6 (by decide) ?_
  refine v_isub C dX7_farFrom_7 ?_
  refine v_istore_n C (lv' := [(3, .int ((1 <<< ((m_X7_span a0) &&& 31 : Int32)) - 1)), (0, .int a0), (1, .int a1), (2, .int a2)]) dX7_farFrom_8 rfl (by decide) rfl ?_
  refine v_at (pc' := 9) rfl ?_
  refine v_iload_n C 1 dX7_farFrom_9 rfl rfl ?_
  refine v_callSi C (av := [.int a0]) (rest := []) gX7_farFrom_X7_firstOf rfl ⟨rfl, rfl⟩ hS_X7_firstOf ⟨(Nat.le_of_ble_eq_true rfl), (Nat.le_of_ble_eq_true rfl)⟩ (r_X7_firstOf (A := A) rfl) rfl rfl (Nat.le_of_ble_eq_true rfl) dX7_farFrom_10 ?_
  obtain ⟨x1, e_x1, h⟩ := bnd h
  refine v_callSi C (av := [.int (m_X7_firstOf a0)]) (rest := []) gX7_farFrom_X7_xOf rfl ⟨rfl, rfl⟩ hS_X7_xOf ⟨(Nat.le_of_ble_eq_true rfl), (Nat.le_of_ble_eq_true rfl)⟩ (r_X7_xOf (A := A) e_x1) rfl rfl (Nat.le_of_ble_eq_true rfl) dX7_farFrom_13 ?_
  refine v_istore C (lv' := [(4, .int x1), (3, .int ((1 <<< ((m_X7_span a0) &&& 31 : Int32)) - 1)), (0, .int a0), (1, .int a1), (2, .int a2)]) dX7_farFrom_16 (by decide) rfl ?_
  refine v_iload_n C 2 dX7_farFrom_18 rfl rfl ?_
  refine v_callSi C (av := [.int a0]) (rest := []) gX7_farFrom_X7_firstOf rfl ⟨rfl, rfl⟩ hS_X7_firstOf ⟨(Nat.le_of_ble_eq_true rfl), (Nat.le_of_ble_eq_true rfl)⟩ (r_X7_firstOf (A := A) rfl) rfl rfl (Nat.le_of_ble_eq_true rfl) dX7_farFrom_19 ?_
  obtain ⟨x2, e_x2, h⟩ := bnd h
  refine v_callSi C (av := [.int (m_X7_firstOf a0)]) (rest := []) gX7_farFrom_X7_yOf rfl ⟨rfl, rfl⟩ hS_X7_yOf ⟨(Nat.le_of_ble_eq_true rfl), (Nat.le_of_ble_eq_true rfl)⟩ (r_X7_yOf (A := A) e_x2) rfl rfl (Nat.le_of_ble_eq_true rfl) dX7_farFrom_22 ?_
  refine v_istore C (lv' := [(5, .int x2), (4, .int x1), (3, .int ((1 <<< ((m_X7_span a0) &&& 31 : Int32)) - 1)), (0, .int a0), (1, .int a1), (2, .int a2)]) dX7_farFrom_25 (by decide) rfl ?_
  refine v_at (pc' := 27) rfl ?_
  refine v_iload_n C 4 dX7_farFrom_27 rfl rfl ?_
  refine v_iload C 1 dX7_farFrom_28 rfl ?_
  refine v_iload C 1 dX7_farFrom_30 rfl ?_
  refine v_iload_n C 2 dX7_farFrom_32 rfl rfl ?_
  refine v_iadd C dX7_farFrom_33 ?_
  refine v_callSi C (av := [.int a1, .int x1, .int (x1 + ((1 <<< ((m_X7_span a0) &&& 31 : Int32)) - 1))]) (rest := []) gX7_farFrom_X7_beyond rfl ⟨rfl, rfl⟩ hS_X7_beyond ⟨(Nat.le_of_ble_eq_true rfl), (Nat.le_of_ble_eq_true rfl)⟩ (r_X7_beyond (A := A) rfl) rfl rfl (Nat.le_of_ble_eq_true rfl) dX7_farFrom_34 ?_
  refine v_istore C (lv' := [(6, .int (m_X7_beyond a1 x1 (x1 + ((1 <<< ((m_X7_span a0) &&& 31 : Int32)) - 1)))), (5, .int x2), (4, .int x1), (3, .int ((1 <<< ((m_X7_span a0) &&& 31 : Int32)) - 1)), (0, .int a0), (1, .int a1), (2, .int a2)]) dX7_farFrom_37 (by decide) rfl ?_
  refine v_iload_n C 6 dX7_farFrom_39 rfl rfl ?_
  refine v_at (pc' := 40) rfl ?_
  refine v_iload C 1 dX7_farFrom_40 rfl ?_
  refine v_iload C 1 dX7_farFrom_42 rfl ?_
  refine v_iload_n C 3 dX7_farFrom_44 rfl rfl ?_
  refine v_iadd C dX7_farFrom_45 ?_
  refine v_callSi C (av := [.int a2, .int x2, .int (x2 + ((1 <<< ((m_X7_span a0) &&& 31 : Int32)) - 1))]) (rest := []) gX7_farFrom_X7_beyond rfl ⟨rfl, rfl⟩ hS_X7_beyond ⟨(Nat.le_of_ble_eq_true rfl), (Nat.le_of_ble_eq_true rfl)⟩ (r_X7_beyond (A := A) rfl) rfl rfl (Nat.le_of_ble_eq_true rfl) dX7_farFrom_46 ?_
  refine v_istore C (lv' := [(7, .int (m_X7_beyond a2 x2 (x2 + ((1 <<< ((m_X7_span a0) &&& 31 : Int32)) - 1)))), (6, .int (m_X7_beyond a1 x1 (x1 + ((1 <<< ((m_X7_span a0) &&& 31 : Int32)) - 1)))), (5, .int x2), (4, .int x1), (3, .int ((1 <<< ((m_X7_span a0) &&& 31 : Int32)) - 1)), (0, .int a0), (1, .int a1), (2, .int a2)]) dX7_farFrom_49 (by decide) rfl ?_
  refine v_iload C 1 dX7_farFrom_51 rfl ?_
  refine v_iload C 1 dX7_farFrom_53 rfl ?_
  refine v_at (pc' := 55) rfl ?_
  refine v_imul C dX7_farFrom_55 ?_
  refine v_iload C 0 dX7_farFrom_56 rfl ?_
  refine v_iload C 0 dX7_farFrom_58 rfl ?_
  refine v_imul C dX7_farFrom_60 ?_
  refine v_iadd C dX7_farFrom_61 ?_
  obtain rfl := Option.some.inj h
  exact v_iret C dX7_farFrom_62
theorem fX7_tellCursor_25 : Cond.fieldLink RX7 25 (TX7 8).1 (TX7 8).2.1 (TX7 8).2.2.1 ∈ wsX7_tellCursor := by decide +kernel
theorem inX7_tellCursor_X7 : ∀ x ∈ u_ws RX7 TX7 20, x ∈ wsX7_tellCursor := by decide +kernel
theorem fX7_tellCursor_7 : Cond.fieldLink RX7 7 (TX7 0).1 (TX7 0).2.1 (TX7 0).2.2.1 ∈ wsX7_tellCursor := by decide +kernel
theorem hS_X7_farFrom : yX7_farFrom.cls ≠ "java/lang/invoke/MethodHandle" ∧ yX7_farFrom.cls ≠ "java/lang/invoke/VarHandle" ∧ (parseMethodDescriptor yX7_farFrom.desc).map (fun d => d.parameters.length) = some 3 := by decide +kernel
set_option maxRecDepth 100000 in
set_option maxHeartbeats 4000000 in
theorem r_X7_tellCursor_p82 {p : Program} {l : Launch} {e : Env} {s : State} {m : MethodId} {args : Array Value} {below : List Frame} {meth : Method} {c : Code} {G : GG} {A : Nat → Prop} (C : Cx p s m args meth c G A cX7_tellCursor 6 RX7 wsX7_tellCursor (some .int)) (n : Nat) {z : Int32} : ∀ (t : Nat), ∀ (w : Wd) (a0 : Nat) (a1 : Int32) (a4 : Int32) (a5 : Int32), m_X7_tellCursor_p82 n t w a0 a1 a4 a5 = some z → V p l e { frames := 3, cells := 0, slots := 0, locals := 69 } s m args below meth c G A 6 82 [(0, .ref a0), (1, .int a1), (4, .int a4), (5, .int a5)] [] w (some (.int z)) w := by
  intro t
  induction t with
  | zero =>
    intro w a0 a1 a4 a5 h
    rw [m_X7_tellCursor_p82] at h
    cases h
  | succ t ih =>
    intro w a0 a1 a4 a5 h
    rw [m_X7_tellCursor_p82] at h
    refine v_iload C 3 dX7_tellCursor_82 rfl ?_
    refine v_bipush C (v := 24) dX7_tellCursor_84 (by decide) ?_
    refine v_icmp_ge C (tgt := 115) dX7_tellCursor_86 (by decide) (fun q => ?_) (fun q => ?_)
    · have h := ite_t q h
      refine v_iload C 2 dX7_tellCursor_115 rfl ?_
      obtain rfl := Option.some.inj h
      exact v_iret C dX7_tellCursor_117
    · have h := ite_f q h
      refine v_iload C 2 dX7_tellCursor_89 rfl ?_
      refine v_aload_n C 0 dX7_tellCursor_91 rfl rfl ?_
      refine v_iload_n C 1 dX7_tellCursor_92 rfl rfl ?_
      refine v_iload C 3 dX7_tellCursor_93 rfl ?_
      obtain ⟨u1, e_u1, h⟩ := bnd h
      obtain ⟨x2, e_x2, h⟩ := bnd h
      refine v_callVi C (ci := 6) (av := [.int a1, .int a5]) (rest := [.int a4]) rfl gX7_tellCursor_X7_isBehind rfl ⟨rfl, rfl⟩ hV_X7_isBehind ⟨(Nat.le_of_ble_eq_true rfl), (Nat.le_of_ble_eq_true rfl)⟩ e_u1 (r_X7_isBehind (A := A) e_x2) rfl rfl (Nat.le_of_ble_eq_true rfl) dX7_tellCursor_95 ?_
      refine v_if_eq C (tgt := 105) dX7_tellCursor_98 (by decide) (fun q => ?_) (fun q => ?_)
      · have h := ite_t q h
        refine v_iconst C (v := 0) dX7_tellCursor_105 (by decide) ?_
        refine v_iadd C dX7_tellCursor_106 ?_
        refine v_istore C (lv' := [(4, .int (a4 + 0)), (0, .ref a0), (1, .int a1), (5, .int a5)]) dX7_tellCursor_107 (by decide) rfl ?_
        refine v_iinc C (k := 3) (v := (a5 + 1)) (lv' := [(5, .int (a5 + 1)), (4, .int (a4 + 0)), (0, .ref a0), (1, .int a1)]) dX7_tellCursor_109 rfl rfl (by decide) rfl ?_
        refine v_goto C (tgt := 82) dX7_tellCursor_112 (by decide) ?_
        refine v_sub [2, 3, 1, 0] rfl ?_
        exact ih _ _ _ _ _ h
      · have h := ite_f q h
        refine v_iconst C (v := 1) dX7_tellCursor_101 (by decide) ?_
        refine v_goto C (tgt := 106) dX7_tellCursor_102 (by decide) ?_
        refine v_iadd C dX7_tellCursor_106 ?_
        refine v_istore C (lv' := [(4, .int (a4 + 1)), (0, .ref a0), (1, .int a1), (5, .int a5)]) dX7_tellCursor_107 (by decide) rfl ?_
        refine v_iinc C (k := 3) (v := (a5 + 1)) (lv' := [(5, .int (a5 + 1)), (4, .int (a4 + 1)), (0, .ref a0), (1, .int a1)]) dX7_tellCursor_109 rfl rfl (by decide) rfl ?_
        refine v_goto C (tgt := 82) dX7_tellCursor_112 (by decide) ?_
        refine v_sub [2, 3, 1, 0] rfl ?_
        exact ih _ _ _ _ _ h
set_option maxRecDepth 100000 in
set_option maxHeartbeats 4000000 in
theorem r_X7_tellCursor_p121 {p : Program} {l : Launch} {e : Env} {s : State} {m : MethodId} {args : Array Value} {below : List Frame} {meth : Method} {c : Code} {G : GG} {A : Nat → Prop} (C : Cx p s m args meth c G A cX7_tellCursor 6 RX7 wsX7_tellCursor (some .int)) (n : Nat) {z : Int32} : ∀ (t : Nat), ∀ (w : Wd) (a0 : Nat) (a3 : Int32) (a4 : Int32) (a5 : Int32), m_X7_tellCursor_p121 n t w a0 a3 a4 a5 = some z → V p l e { frames := 3, cells := 0, slots := 0, locals := 69 } s m args below meth c G A 6 121 [(0, .ref a0), (3, .int a3), (4, .int a4), (5, .int a5)] [] w (some (.int z)) w := by
  intro t
  induction t with
  | zero =>
    intro w a0 a3 a4 a5 h
    rw [m_X7_tellCursor_p121] at h
    cases h
  | succ t ih =>
    intro w a0 a3 a4 a5 h
    rw [m_X7_tellCursor_p121] at h
    refine v_iload C 3 dX7_tellCursor_121 rfl ?_
    refine v_aload_n C 0 dX7_tellCursor_123 rfl rfl ?_
    obtain ⟨q1, e_q1, h⟩ := bnd h
    refine v_getf C (ci := 6) (k := 8) rfl inX7_tellCursor_X7 (by decide) fX7_tellCursor_25 dX7_tellCursor_124 (gfR_e e_q1) ?_
    refine v_iconst C (v := 0) dX7_tellCursor_127 (by decide) ?_
    obtain ⟨x2, e_x2, h⟩ := bnd h
    refine v_iald C dX7_tellCursor_128 e_x2 ?_
    refine v_icmp_ge C (tgt := 195) dX7_tellCursor_129 (by decide) (fun q => ?_) (fun q => ?_)
    · have h := ite_t q h
      refine v_iload C 2 dX7_tellCursor_195 rfl ?_
      obtain rfl := Option.some.inj h
      exact v_iret C dX7_tellCursor_197
    · have h := ite_f q h
      refine v_aload_n C 0 dX7_tellCursor_132 rfl rfl ?_
      obtain ⟨q3, e_q3, h⟩ := bnd h
      refine v_getf C (ci := 6) (k := 0) rfl inX7_tellCursor_X7 (by decide) fX7_tellCursor_7 dX7_tellCursor_133 (gfR_e e_q3) ?_
      refine v_iload_n C 1 dX7_tellCursor_136 rfl rfl ?_
      refine v_iconst C (v := 2) dX7_tellCursor_137 (by decide) ?_
      refine v_iadd C dX7_tellCursor_138 ?_
      obtain ⟨x4, e_x4, h⟩ := bnd h
      refine v_iald C dX7_tellCursor_139 e_x4 ?_
      refine v_iconst C (v := 1) dX7_tellCursor_140 (by decide) ?_
      refine v_at (pc' := 141) rfl ?_
      refine v_icmp_ne C (tgt := 195) dX7_tellCursor_141 (by decide) (fun q => ?_) (fun q => ?_)
      · have h := ite_f q h
        refine v_iload C 2 dX7_tellCursor_195 rfl ?_
        obtain rfl := Option.some.inj h
        exact v_iret C dX7_tellCursor_197
      · have h := ite_t q h
        refine v_iload C 2 dX7_tellCursor_144 rfl ?_
        refine v_aload_n C 0 dX7_tellCursor_146 rfl rfl ?_
        refine v_iconst C (v := 0) dX7_tellCursor_147 (by decide) ?_
        refine v_iload C 3 dX7_tellCursor_148 rfl ?_
        obtain ⟨u5, e_u5, h⟩ := bnd h
        obtain ⟨x6, e_x6, h⟩ := bnd h
        refine v_callVi C (ci := 6) (av := [.int 0, .int a5]) (rest := [.int a4]) rfl gX7_tellCursor_X7_nodeAt rfl ⟨rfl, rfl⟩ hV_X7_nodeAt ⟨(Nat.le_of_ble_eq_true rfl), (Nat.le_of_ble_eq_true rfl)⟩ e_u5 (r_X7_nodeAt (A := A) e_x6) rfl rfl (Nat.le_of_ble_eq_true rfl) dX7_tellCursor_150 ?_
        refine v_aload_n C 0 dX7_tellCursor_153 rfl rfl ?_
        obtain ⟨q7, e_q7, h⟩ := bnd h
        refine v_getf C (ci := 6) (k := 0) rfl inX7_tellCursor_X7 (by decide) fX7_tellCursor_7 dX7_tellCursor_154 (gfR_e e_q7) ?_
        refine v_at (pc' := 157) rfl ?_
        refine v_iload_n C 1 dX7_tellCursor_157 rfl rfl ?_
        obtain ⟨x8, e_x8, h⟩ := bnd h
        refine v_iald C dX7_tellCursor_158 e_x8 ?_
        refine v_aload_n C 0 dX7_tellCursor_159 rfl rfl ?_
        obtain ⟨q9, e_q9, h⟩ := bnd h
        refine v_getf C (ci := 6) (k := 0) rfl inX7_tellCursor_X7 (by decide) fX7_tellCursor_7 dX7_tellCursor_160 (gfR_e e_q9) ?_
        refine v_iload_n C 1 dX7_tellCursor_163 rfl rfl ?_
        refine v_iconst C (v := 1) dX7_tellCursor_164 (by decide) ?_
        refine v_iadd C dX7_tellCursor_165 ?_
        obtain ⟨x10, e_x10, h⟩ := bnd h
        refine v_iald C dX7_tellCursor_166 e_x10 ?_
        refine v_at (pc' := 167) rfl ?_
        obtain ⟨x11, e_x11, h⟩ := bnd h
        refine v_callSi C (av := [.int x6, .int x8, .int x10]) (rest := [.int a4]) gX7_tellCursor_X7_farFrom rfl ⟨rfl, rfl⟩ hS_X7_farFrom ⟨(Nat.le_of_ble_eq_true rfl), (Nat.le_of_ble_eq_true rfl)⟩ (r_X7_farFrom (A := A) e_x11) rfl rfl (Nat.le_of_ble_eq_true rfl) dX7_tellCursor_167 ?_
        refine v_aload_n C 0 dX7_tellCursor_170 rfl rfl ?_
        obtain ⟨q12, e_q12, h⟩ := bnd h
        refine v_getf C (ci := 6) (k := 0) rfl inX7_tellCursor_X7 (by decide) fX7_tellCursor_7 dX7_tellCursor_171 (gfR_e e_q12) ?_
        refine v_iload_n C 1 dX7_tellCursor_174 rfl rfl ?_
        refine v_iconst C (v := 3) dX7_tellCursor_175 (by decide) ?_
        refine v_iadd C dX7_tellCursor_176 ?_
        obtain ⟨x13, e_x13, h⟩ := bnd h
        refine v_iald C dX7_tellCursor_177 e_x13 ?_
        refine v_icmp_gt C (tgt := 185) dX7_tellCursor_178 (by decide) (fun q => ?_) (fun q => ?_)
        · have h := ite_t q h
          refine v_iconst C (v := 0) dX7_tellCursor_185 (by decide) ?_
          refine v_iadd C dX7_tellCursor_186 ?_
          refine v_istore C (lv' := [(4, .int (a4 + 0)), (0, .ref a0), (3, .int a3), (5, .int a5)]) dX7_tellCursor_187 (by decide) rfl ?_
          refine v_iinc C (k := 3) (v := (a5 + 1)) (lv' := [(5, .int (a5 + 1)), (4, .int (a4 + 0)), (0, .ref a0), (3, .int a3)]) dX7_tellCursor_189 rfl rfl (by decide) rfl ?_
          refine v_goto C (tgt := 121) dX7_tellCursor_192 (by decide) ?_
          refine v_sub [2, 3, 1, 0] rfl ?_
          exact ih _ _ _ _ _ h
        · have h := ite_f q h
          refine v_iconst C (v := 1) dX7_tellCursor_181 (by decide) ?_
          refine v_goto C (tgt := 186) dX7_tellCursor_182 (by decide) ?_
          refine v_iadd C dX7_tellCursor_186 ?_
          refine v_istore C (lv' := [(4, .int (a4 + 1)), (0, .ref a0), (3, .int a3), (5, .int a5)]) dX7_tellCursor_187 (by decide) rfl ?_
          refine v_iinc C (k := 3) (v := (a5 + 1)) (lv' := [(5, .int (a5 + 1)), (4, .int (a4 + 1)), (0, .ref a0), (3, .int a3)]) dX7_tellCursor_189 rfl rfl (by decide) rfl ?_
          refine v_goto C (tgt := 121) dX7_tellCursor_192 (by decide) ?_
          refine v_sub [2, 3, 1, 0] rfl ?_
          exact ih _ _ _ _ _ h
set_option maxRecDepth 100000 in
set_option maxHeartbeats 4000000 in
theorem r_X7_tellCursor {l : Launch} {G : GG} {A : Nat → Prop} {n : Nat} {w : Wd} {this : Nat} {a1 : Int32} {a2 : Int32} {z : Int32} (h : m_X7_tellCursor n w this a1 a2 = some z) : Con l yX7_tellCursor wsX7_tellCursor { frames := 3, cells := 0, slots := 0, locals := 69 } G A [.ref this, .int a1, .int a2] w (some (.int z)) w := by
  refine Con.of (own := RX7) (cc := cX7_tellCursor) (maxL := 6) (ret := (some .int)) rfl (by decide) rfl (Nat.le_of_ble_eq_true rfl) ?_
  intro p e s m args below meth c C
  show V p l e { frames := 3, cells := 0, slots := 0, locals := 69 } s m args below meth c G A 6 0 [(0, .ref this), (1, .int a1), (2, .int a2)] [] w (some (.int z)) w
  unfold m_X7_tellCursor at h
  refine v_bipush C (v := 120) dX7_tellCursor_0 (by decide) ?_
  refine v_iconst C (v := 5) dX7_tellCursor_2 (by decide) ?_
  refine v_iload_n C 1 dX7_tellCursor_3 rfl rfl ?_
  refine v_imul C dX7_tellCursor_4 ?_
  refine v_iadd C dX7_tellCursor_5 ?_
  refine v_istore_n C (lv' := [(3, .int (120 + (5 * a1))), (0, .ref this), (1, .int a1), (2, .int a2)]) dX7_tellCursor_6 rfl (by decide) rfl ?_
  refine v_iconst C (v := 0) dX7_tellCursor_7 (by decide) ?_
  refine v_at (pc' := 8) rfl ?_
  refine v_istore C (lv' := [(4, .int 0), (3, .int (120 + (5 * a1))), (0, .ref this), (1, .int a1), (2, .int a2)]) dX7_tellCursor_8 (by decide) rfl ?_
  refine v_iload_n C 4 dX7_tellCursor_10 rfl rfl ?_
  by_cases q1 : a2 = 0
  · have h := ite_t q1 h
    refine v_tabIn C 0 33 44 dX7_tellCursor_11 q1 (by decide) (by decide) rfl (by decide) ?_
    refine v_aload_n C 2 dX7_tellCursor_44 rfl rfl ?_
    obtain ⟨q2, e_q2, h⟩ := bnd h
    refine v_getf C (ci := 6) (k := 0) rfl inX7_tellCursor_X7 (by decide) fX7_tellCursor_7 dX7_tellCursor_45 (gfR_e e_q2) ?_
    refine v_iload_n C 1 dX7_tellCursor_48 rfl rfl ?_
    refine v_iload_n C 4 dX7_tellCursor_49 rfl rfl ?_
    refine v_iadd C dX7_tellCursor_50 ?_
    obtain ⟨x3, e_x3, h⟩ := bnd h
    refine v_iald C dX7_tellCursor_51 e_x3 ?_
    obtain rfl := Option.some.inj h
    exact v_iret C dX7_tellCursor_52
  have h := ite_f q1 h
  by_cases q4 : a2 = 1
  · have h := ite_t q4 h
    refine v_tabIn C 1 33 44 dX7_tellCursor_11 q4 (by decide) (by decide) rfl (by decide) ?_
    refine v_aload_n C 2 dX7_tellCursor_44 rfl rfl ?_
    obtain ⟨q5, e_q5, h⟩ := bnd h
    refine v_getf C (ci := 6) (k := 0) rfl inX7_tellCursor_X7 (by decide) fX7_tellCursor_7 dX7_tellCursor_45 (gfR_e e_q5) ?_
    refine v_iload_n C 1 dX7_tellCursor_48 rfl rfl ?_
    refine v_iload_n C 4 dX7_tellCursor_49 rfl rfl ?_
    refine v_iadd C dX7_tellCursor_50 ?_
    obtain ⟨x6, e_x6, h⟩ := bnd h
    refine v_iald C dX7_tellCursor_51 e_x6 ?_
    obtain rfl := Option.some.inj h
    exact v_iret C dX7_tellCursor_52
  have h := ite_f q4 h
  by_cases q7 : a2 = 2
  · have h := ite_t q7 h
    refine v_tabIn C 2 42 53 dX7_tellCursor_11 q7 (by decide) (by decide) rfl (by decide) ?_
    refine v_aload_n C 2 dX7_tellCursor_53 rfl rfl ?_
    obtain ⟨q8, e_q8, h⟩ := bnd h
    refine v_getf C (ci := 6) (k := 0) rfl inX7_tellCursor_X7 (by decide) fX7_tellCursor_7 dX7_tellCursor_54 (gfR_e e_q8) ?_
    refine v_iload_n C 1 dX7_tellCursor_57 rfl rfl ?_
    refine v_iconst C (v := 2) dX7_tellCursor_58 (by decide) ?_
    refine v_iadd C dX7_tellCursor_59 ?_
    obtain ⟨x9, e_x9, h⟩ := bnd h
    refine v_iald C dX7_tellCursor_60 e_x9 ?_
    refine v_if_ne C (tgt := 68) dX7_tellCursor_61 (by decide) (fun q => ?_) (fun q => ?_)
    · have h := ite_f q h
      refine v_aload_n C 2 dX7_tellCursor_68 rfl rfl ?_
      obtain ⟨q10, e_q10, h⟩ := bnd h
      refine v_getf C (ci := 6) (k := 0) rfl inX7_tellCursor_X7 (by decide) fX7_tellCursor_7 dX7_tellCursor_69 (gfR_e e_q10) ?_
      refine v_iload_n C 1 dX7_tellCursor_72 rfl rfl ?_
      refine v_iconst C (v := 1) dX7_tellCursor_73 (by decide) ?_
      refine v_iadd C dX7_tellCursor_74 ?_
      refine v_iload_n C 4 dX7_tellCursor_75 rfl rfl ?_
      refine v_iadd C dX7_tellCursor_76 ?_
      refine v_at (pc' := 77) rfl ?_
      obtain ⟨x11, e_x11, h⟩ := bnd h
      refine v_iald C dX7_tellCursor_77 e_x11 ?_
      obtain rfl := Option.some.inj h
      exact v_iret C dX7_tellCursor_78
    · have h := ite_t q h
      refine v_iconst C (v := (-1)) dX7_tellCursor_64 (by decide) ?_
      refine v_goto C (tgt := 78) dX7_tellCursor_65 (by decide) ?_
      obtain rfl := Option.some.inj h
      exact v_iret C dX7_tellCursor_78
  have h := ite_f q7 h
  by_cases q12 : a2 = 3
  · have h := ite_t q12 h
    refine v_tabIn C 3 42 53 dX7_tellCursor_11 q12 (by decide) (by decide) rfl (by decide) ?_
    refine v_aload_n C 2 dX7_tellCursor_53 rfl rfl ?_
    obtain ⟨q13, e_q13, h⟩ := bnd h
    refine v_getf C (ci := 6) (k := 0) rfl inX7_tellCursor_X7 (by decide) fX7_tellCursor_7 dX7_tellCursor_54 (gfR_e e_q13) ?_
    refine v_iload_n C 1 dX7_tellCursor_57 rfl rfl ?_
    refine v_iconst C (v := 2) dX7_tellCursor_58 (by decide) ?_
    refine v_iadd C dX7_tellCursor_59 ?_
    obtain ⟨x14, e_x14, h⟩ := bnd h
    refine v_iald C dX7_tellCursor_60 e_x14 ?_
    refine v_if_ne C (tgt := 68) dX7_tellCursor_61 (by decide) (fun q => ?_) (fun q => ?_)
    · have h := ite_f q h
      refine v_aload_n C 2 dX7_tellCursor_68 rfl rfl ?_
      obtain ⟨q15, e_q15, h⟩ := bnd h
      refine v_getf C (ci := 6) (k := 0) rfl inX7_tellCursor_X7 (by decide) fX7_tellCursor_7 dX7_tellCursor_69 (gfR_e e_q15) ?_
      refine v_iload_n C 1 dX7_tellCursor_72 rfl rfl ?_
      refine v_iconst C (v := 1) dX7_tellCursor_73 (by decide) ?_
      refine v_iadd C dX7_tellCursor_74 ?_
      refine v_iload_n C 4 dX7_tellCursor_75 rfl rfl ?_
      refine v_iadd C dX7_tellCursor_76 ?_
      refine v_at (pc' := 77) rfl ?_
      obtain ⟨x16, e_x16, h⟩ := bnd h
      refine v_iald C dX7_tellCursor_77 e_x16 ?_
      obtain rfl := Option.some.inj h
      exact v_iret C dX7_tellCursor_78
    · have h := ite_t q h
      refine v_iconst C (v := (-1)) dX7_tellCursor_64 (by decide) ?_
      refine v_goto C (tgt := 78) dX7_tellCursor_65 (by decide) ?_
      obtain rfl := Option.some.inj h
      exact v_iret C dX7_tellCursor_78
  have h := ite_f q12 h
  by_cases q17 : a2 = 4
  · have h := ite_t q17 h
    refine v_tabIn C 4 68 79 dX7_tellCursor_11 q17 (by decide) (by decide) rfl (by decide) ?_
    refine v_iconst C (v := 0) dX7_tellCursor_79 (by decide) ?_
    refine v_istore C (lv' := [(5, .int 0), (4, .int 0), (3, .int (120 + (5 * a1))), (0, .ref this), (1, .int a1), (2, .int a2)]) dX7_tellCursor_80 (by decide) rfl ?_
    refine v_sub [3, 4, 1, 0] rfl ?_
    exact r_X7_tellCursor_p82 C n n _ _ _ _ _ h
  have h := ite_f q17 h
  have g_q1 := lv_neT q1 (a := 0) rfl
  have g_q4 := lv_neT q4 (a := 1) rfl
  have g_q7 := lv_neT q7 (a := 2) rfl
  have g_q12 := lv_neT q12 (a := 3) rfl
  have g_q17 := lv_neT q17 (a := 4) rfl
  refine v_tabOut C 118 dX7_tellCursor_11 (by omega) (by decide) ?_
  refine v_iconst C (v := 0) dX7_tellCursor_118 (by decide) ?_
  refine v_istore C (lv' := [(5, .int 0), (4, .int 0), (3, .int (120 + (5 * a1))), (0, .ref this), (1, .int a1), (2, .int a2)]) dX7_tellCursor_119 (by decide) rfl ?_
  refine v_sub [3, 2, 1, 0] rfl ?_
  exact r_X7_tellCursor_p121 C n n _ _ _ _ _ h
theorem hV_X7_tellCursor : yX7_tellCursor.cls = RX7 ∧ yX7_tellCursor.cls ≠ "java/lang/invoke/MethodHandle" ∧ yX7_tellCursor.cls ≠ "java/lang/invoke/VarHandle" ∧ (parseMethodDescriptor yX7_tellCursor.desc).map (fun d => d.parameters.length) = some 2 := by decide +kernel
set_option maxRecDepth 100000 in
set_option maxHeartbeats 4000000 in
theorem r_X7_cursor {l : Launch} {G : GG} {A : Nat → Prop} {n : Nat} {w : Wd} {this : Nat} {a1 : Int32} {a2 : Int32} {z : (Int32 × Wd)} (h : m_X7_cursor n w this a1 a2 = some z) : Con l yX7_cursor wsX7_cursor { frames := 4, cells := 0, slots := 0, locals := 94 } G A [.ref this, .int a1, .int a2] w (some (.int z.1)) z.2 := by
  refine Con.of (own := RX7) (cc := cX7_cursor) (maxL := 3) (ret := (some .int)) rfl (by decide) rfl (Nat.le_of_ble_eq_true rfl) ?_
  intro p e s m args below meth c C
  show V p l e { frames := 4, cells := 0, slots := 0, locals := 94 } s m args below meth c G A 3 0 [(0, .ref this), (1, .int a1), (2, .int a2)] [] w (some (.int z.1)) z.2
  unfold m_X7_cursor at h
  refine v_aload_n C 0 dX7_cursor_0 rfl rfl ?_
  refine v_iload_n C 1 dX7_cursor_1 rfl rfl ?_
  refine v_callSi C (av := [.int a1]) (rest := [.ref this]) gX7_cursor_X7_isCursor rfl ⟨rfl, rfl⟩ hS_X7_isCursor ⟨(Nat.le_of_ble_eq_true rfl), (Nat.le_of_ble_eq_true rfl)⟩ (r_X7_isCursor (A := A) rfl) rfl rfl (Nat.le_of_ble_eq_true rfl) dX7_cursor_2 ?_
  refine v_if_ne C (tgt := 12) dX7_cursor_5 (by decide) (fun q => ?_) (fun q => ?_)
  · have h := ite_f q h
    refine v_iload_n C 2 dX7_cursor_12 rfl rfl ?_
    refine v_iconst C (v := 0) dX7_cursor_13 (by decide) ?_
    refine v_iconst C (v := 5) dX7_cursor_14 (by decide) ?_
    refine v_callSi C (av := [.int a2, .int 0, .int 5]) (rest := [.ref this]) gX7_cursor_X7_in rfl ⟨rfl, rfl⟩ hS_X7_in ⟨(Nat.le_of_ble_eq_true rfl), (Nat.le_of_ble_eq_true rfl)⟩ (r_X7_in (A := A) rfl) rfl rfl (Nat.le_of_ble_eq_true rfl) dX7_cursor_15 ?_
    refine v_if_eq C (tgt := 25) dX7_cursor_18 (by decide) (fun q => ?_) (fun q => ?_)
    · have h := ite_t q h
      refine v_iconst C (v := 2) dX7_cursor_25 (by decide) ?_
      obtain ⟨u1, e_u1, h⟩ := bnd h
      obtain ⟨z2, e_z2, h⟩ := bnd h
      refine v_callVi C (ci := 6) (av := [.int 2]) (rest := []) rfl gX7_cursor_X7_refused rfl ⟨rfl, rfl⟩ hV_X7_refused ⟨(Nat.le_of_ble_eq_true rfl), (Nat.le_of_ble_eq_true rfl)⟩ e_u1 (r_X7_refused (A := A) e_z2) rfl rfl (Nat.le_of_ble_eq_true rfl) dX7_cursor_26 ?_
      refine v_if_eq C (tgt := 34) dX7_cursor_29 (by decide) (fun q => ?_) (fun q => ?_)
      · have h := ite_t q h
        refine v_aload_n C 0 dX7_cursor_34 rfl rfl ?_
        obtain ⟨u3, e_u3, h⟩ := bnd h
        obtain ⟨z4, e_z4, h⟩ := bnd h
        refine v_callVv C (ci := 6) (av := []) (rest := []) rfl gX7_cursor_X7_lays rfl ⟨rfl, rfl⟩ hV_X7_lays ⟨(Nat.le_of_ble_eq_true rfl), (Nat.le_of_ble_eq_true rfl)⟩ e_u3 (r_X7_lays (A := A) e_z4) rfl rfl (Nat.le_of_ble_eq_true rfl) dX7_cursor_35 ?_
        refine v_aload_n C 0 dX7_cursor_38 rfl rfl ?_
        refine v_iload_n C 1 dX7_cursor_39 rfl rfl ?_
        refine v_iload_n C 2 dX7_cursor_40 rfl rfl ?_
        obtain ⟨u5, e_u5, h⟩ := bnd h
        obtain ⟨x6, e_x6, h⟩ := bnd h
        refine v_callVi C (ci := 6) (av := [.int a1, .int a2]) (rest := []) rfl gX7_cursor_X7_tellCursor rfl ⟨rfl, rfl⟩ hV_X7_tellCursor ⟨(Nat.le_of_ble_eq_true rfl), (Nat.le_of_ble_eq_true rfl)⟩ e_u5 (r_X7_tellCursor (A := A) e_x6) rfl rfl (Nat.le_of_ble_eq_true rfl) dX7_cursor_41 ?_
        obtain rfl := Option.some.inj h
        exact v_iret C dX7_cursor_44
      · have h := ite_f q h
        refine v_iconst C (v := 0) dX7_cursor_32 (by decide) ?_
        obtain rfl := Option.some.inj h
        exact v_iret C dX7_cursor_33
    · have h := ite_f q h
      refine v_iconst C (v := 0) dX7_cursor_21 (by decide) ?_
      refine v_goto C (tgt := 26) dX7_cursor_22 (by decide) ?_
      obtain ⟨u7, e_u7, h⟩ := bnd h
      obtain ⟨z8, e_z8, h⟩ := bnd h
      refine v_callVi C (ci := 6) (av := [.int 0]) (rest := []) rfl gX7_cursor_X7_refused rfl ⟨rfl, rfl⟩ hV_X7_refused ⟨(Nat.le_of_ble_eq_true rfl), (Nat.le_of_ble_eq_true rfl)⟩ e_u7 (r_X7_refused (A := A) e_z8) rfl rfl (Nat.le_of_ble_eq_true rfl) dX7_cursor_26 ?_
      refine v_if_eq C (tgt := 34) dX7_cursor_29 (by decide) (fun q => ?_) (fun q => ?_)
      · have h := ite_t q h
        refine v_aload_n C 0 dX7_cursor_34 rfl rfl ?_
        obtain ⟨u9, e_u9, h⟩ := bnd h
        obtain ⟨z10, e_z10, h⟩ := bnd h
        refine v_callVv C (ci := 6) (av := []) (rest := []) rfl gX7_cursor_X7_lays rfl ⟨rfl, rfl⟩ hV_X7_lays ⟨(Nat.le_of_ble_eq_true rfl), (Nat.le_of_ble_eq_true rfl)⟩ e_u9 (r_X7_lays (A := A) e_z10) rfl rfl (Nat.le_of_ble_eq_true rfl) dX7_cursor_35 ?_
        refine v_aload_n C 0 dX7_cursor_38 rfl rfl ?_
        refine v_iload_n C 1 dX7_cursor_39 rfl rfl ?_
        refine v_iload_n C 2 dX7_cursor_40 rfl rfl ?_
        obtain ⟨u11, e_u11, h⟩ := bnd h
        obtain ⟨x12, e_x12, h⟩ := bnd h
        refine v_callVi C (ci := 6) (av := [.int a1, .int a2]) (rest := []) rfl gX7_cursor_X7_tellCursor rfl ⟨rfl, rfl⟩ hV_X7_tellCursor ⟨(Nat.le_of_ble_eq_true rfl), (Nat.le_of_ble_eq_true rfl)⟩ e_u11 (r_X7_tellCursor (A := A) e_x12) rfl rfl (Nat.le_of_ble_eq_true rfl) dX7_cursor_41 ?_
        obtain rfl := Option.some.inj h
        exact v_iret C dX7_cursor_44
      · have h := ite_f q h
        refine v_iconst C (v := 0) dX7_cursor_32 (by decide) ?_
        obtain rfl := Option.some.inj h
        exact v_iret C dX7_cursor_33
  · have h := ite_t q h
    refine v_iconst C (v := 1) dX7_cursor_8 (by decide) ?_
    refine v_goto C (tgt := 26) dX7_cursor_9 (by decide) ?_
    obtain ⟨u13, e_u13, h⟩ := bnd h
    obtain ⟨z14, e_z14, h⟩ := bnd h
    refine v_callVi C (ci := 6) (av := [.int 1]) (rest := []) rfl gX7_cursor_X7_refused rfl ⟨rfl, rfl⟩ hV_X7_refused ⟨(Nat.le_of_ble_eq_true rfl), (Nat.le_of_ble_eq_true rfl)⟩ e_u13 (r_X7_refused (A := A) e_z14) rfl rfl (Nat.le_of_ble_eq_true rfl) dX7_cursor_26 ?_
    refine v_if_eq C (tgt := 34) dX7_cursor_29 (by decide) (fun q => ?_) (fun q => ?_)
    · have h := ite_t q h
      refine v_aload_n C 0 dX7_cursor_34 rfl rfl ?_
      obtain ⟨u15, e_u15, h⟩ := bnd h
      obtain ⟨z16, e_z16, h⟩ := bnd h
      refine v_callVv C (ci := 6) (av := []) (rest := []) rfl gX7_cursor_X7_lays rfl ⟨rfl, rfl⟩ hV_X7_lays ⟨(Nat.le_of_ble_eq_true rfl), (Nat.le_of_ble_eq_true rfl)⟩ e_u15 (r_X7_lays (A := A) e_z16) rfl rfl (Nat.le_of_ble_eq_true rfl) dX7_cursor_35 ?_
      refine v_aload_n C 0 dX7_cursor_38 rfl rfl ?_
      refine v_iload_n C 1 dX7_cursor_39 rfl rfl ?_
      refine v_iload_n C 2 dX7_cursor_40 rfl rfl ?_
      obtain ⟨u17, e_u17, h⟩ := bnd h
      obtain ⟨x18, e_x18, h⟩ := bnd h
      refine v_callVi C (ci := 6) (av := [.int a1, .int a2]) (rest := []) rfl gX7_cursor_X7_tellCursor rfl ⟨rfl, rfl⟩ hV_X7_tellCursor ⟨(Nat.le_of_ble_eq_true rfl), (Nat.le_of_ble_eq_true rfl)⟩ e_u17 (r_X7_tellCursor (A := A) e_x18) rfl rfl (Nat.le_of_ble_eq_true rfl) dX7_cursor_41 ?_
      obtain rfl := Option.some.inj h
      exact v_iret C dX7_cursor_44
    · have h := ite_f q h
      refine v_iconst C (v := 0) dX7_cursor_32 (by decide) ?_
      obtain rfl := Option.some.inj h
      exact v_iret C dX7_cursor_33
set_option maxRecDepth 100000 in
set_option maxHeartbeats 4000000 in
theorem r_X7_nearest_p113 {p : Program} {l : Launch} {e : Env} {s : State} {m : MethodId} {args : Array Value} {below : List Frame} {meth : Method} {c : Code} {G : GG} {A : Nat → Prop} (C : Cx p s m args meth c G A cX7_nearest 9 RX7 wsX7_nearest (some .int)) (n : Nat) {k32 : Wd → Nat → Int32 → Int32 → Int32 → Int32 → Int32 → Option (Int32 × Wd)} {z : (Int32 × Wd)} (H32 : ∀ (w : Wd) (b0 : Nat) (b1 : Int32) (b2 : Int32) (b3 : Int32) (b4 : Int32) (b5 : Int32), k32 w b0 b1 b2 b3 b4 b5 = some z → V p l e { frames := 2, cells := 0, slots := 0, locals := 43 } s m args below meth c G A 9 32 [(0, .ref b0), (1, .int b1), (2, .int b2), (3, .int b3), (4, .int b4), (5, .int b5)] [] w (some (.int z.1)) z.2) : ∀ (w : Wd) (a0 : Nat) (a1 : Int32) (a2 : Int32) (a3 : Int32) (a4 : Int32) (a5 : Int32) (a6 : Int32), m_X7_nearest_p113 n k32 w a0 a1 a2 a3 a4 a5 a6 = some z → V p l e { frames := 2, cells := 0, slots := 0, locals := 43 } s m args below meth c G A 9 113 [(0, .ref a0), (1, .int a1), (2, .int a2), (3, .int a3), (4, .int a4), (5, .int a5), (6, .int a6)] [] w (some (.int z.1)) z.2 := by
  intro w a0 a1 a2 a3 a4 a5 a6 h
  unfold m_X7_nearest_p113 at h
  refine v_aload_n C 0 dX7_nearest_113 rfl rfl ?_
  refine v_iload C 5 dX7_nearest_114 rfl ?_
  obtain ⟨u1, e_u1, h⟩ := bnd h
  obtain ⟨x2, e_x2, h⟩ := bnd h
  refine v_callVi C (ci := 6) (av := [.int a5]) (rest := []) rfl gX7_nearest_X7_isThere rfl ⟨rfl, rfl⟩ hV_X7_isThere ⟨(Nat.le_of_ble_eq_true rfl), (Nat.le_of_ble_eq_true rfl)⟩ e_u1 (r_X7_isThere (A := A) e_x2) rfl rfl (Nat.le_of_ble_eq_true rfl) dX7_nearest_116 ?_
  refine v_if_eq C (tgt := 133) dX7_nearest_119 (by decide) (fun q => ?_) (fun q => ?_)
  · have h := ite_t q h
    refine v_iload C 4 dX7_nearest_133 rfl ?_
    refine v_istore C (lv' := [(4, .int a4), (0, .ref a0), (1, .int a1), (2, .int a2), (3, .int a3), (5, .int a5), (6, .int a6)]) dX7_nearest_135 (by decide) rfl ?_
    refine v_iinc C (k := 5) (v := (a5 + 1)) (lv' := [(5, .int (a5 + 1)), (4, .int a4), (0, .ref a0), (1, .int a1), (2, .int a2), (3, .int a3), (6, .int a6)]) dX7_nearest_137 rfl rfl (by decide) rfl ?_
    refine v_goto C (tgt := 32) dX7_nearest_140 (by decide) ?_
    refine v_sub [2, 3, 4, 5, 1, 0] rfl ?_
    exact H32 _ _ _ _ _ _ _ h
  · have h := ite_f q h
    refine v_iload C 6 dX7_nearest_122 rfl ?_
    refine v_iload_n C 3 dX7_nearest_124 rfl rfl ?_
    refine v_icmp_ne C (tgt := 133) dX7_nearest_125 (by decide) (fun q => ?_) (fun q => ?_)
    · have h := ite_f q h
      refine v_iload C 4 dX7_nearest_133 rfl ?_
      refine v_istore C (lv' := [(4, .int a4), (0, .ref a0), (1, .int a1), (2, .int a2), (3, .int a3), (5, .int a5), (6, .int a6)]) dX7_nearest_135 (by decide) rfl ?_
      refine v_iinc C (k := 5) (v := (a5 + 1)) (lv' := [(5, .int (a5 + 1)), (4, .int a4), (0, .ref a0), (1, .int a1), (2, .int a2), (3, .int a3), (6, .int a6)]) dX7_nearest_137 rfl rfl (by decide) rfl ?_
      refine v_goto C (tgt := 32) dX7_nearest_140 (by decide) ?_
      refine v_sub [2, 3, 4, 5, 1, 0] rfl ?_
      exact H32 _ _ _ _ _ _ _ h
    · have h := ite_t q h
      refine v_iload C 5 dX7_nearest_128 rfl ?_
      refine v_goto C (tgt := 135) dX7_nearest_130 (by decide) ?_
      refine v_istore C (lv' := [(4, .int a5), (0, .ref a0), (1, .int a1), (2, .int a2), (3, .int a3), (5, .int a5), (6, .int a6)]) dX7_nearest_135 (by decide) rfl ?_
      refine v_iinc C (k := 5) (v := (a5 + 1)) (lv' := [(5, .int (a5 + 1)), (4, .int a5), (0, .ref a0), (1, .int a1), (2, .int a2), (3, .int a3), (6, .int a6)]) dX7_nearest_137 rfl rfl (by decide) rfl ?_
      refine v_goto C (tgt := 32) dX7_nearest_140 (by decide) ?_
      refine v_sub [2, 3, 4, 5, 1, 0] rfl ?_
      exact H32 _ _ _ _ _ _ _ h
set_option maxRecDepth 100000 in
set_option maxHeartbeats 4000000 in
theorem r_X7_nearest_p45 {p : Program} {l : Launch} {e : Env} {s : State} {m : MethodId} {args : Array Value} {below : List Frame} {meth : Method} {c : Code} {G : GG} {A : Nat → Prop} (C : Cx p s m args meth c G A cX7_nearest 9 RX7 wsX7_nearest (some .int)) (n : Nat) {k32 : Wd → Nat → Int32 → Int32 → Int32 → Int32 → Int32 → Option (Int32 × Wd)} {z : (Int32 × Wd)} (H32 : ∀ (w : Wd) (b0 : Nat) (b1 : Int32) (b2 : Int32) (b3 : Int32) (b4 : Int32) (b5 : Int32), k32 w b0 b1 b2 b3 b4 b5 = some z → V p l e { frames := 2, cells := 0, slots := 0, locals := 43 } s m args below meth c G A 9 32 [(0, .ref b0), (1, .int b1), (2, .int b2), (3, .int b3), (4, .int b4), (5, .int b5)] [] w (some (.int z.1)) z.2) : ∀ (t : Nat), ∀ (w : Wd) (a0 : Nat) (a1 : Int32) (a2 : Int32) (a3 : Int32) (a4 : Int32) (a5 : Int32) (a6 : Int32) (a7 : Int32), m_X7_nearest_p45 n k32 t w a0 a1 a2 a3 a4 a5 a6 a7 = some z → V p l e { frames := 2, cells := 0, slots := 0, locals := 43 } s m args below meth c G A 9 45 [(0, .ref a0), (1, .int a1), (2, .int a2), (3, .int a3), (4, .int a4), (5, .int a5), (6, .int a6), (7, .int a7)] [] w (some (.int z.1)) z.2 := by
  intro t
  induction t with
  | zero =>
    intro w a0 a1 a2 a3 a4 a5 a6 a7 h
    rw [m_X7_nearest_p45] at h
    cases h
  | succ t ih =>
    intro w a0 a1 a2 a3 a4 a5 a6 a7 h
    rw [m_X7_nearest_p45] at h
    refine v_iload C 7 dX7_nearest_45 rfl ?_
    refine v_bipush C (v := 24) dX7_nearest_47 (by decide) ?_
    refine v_icmp_ge C (tgt := 113) dX7_nearest_49 (by decide) (fun q => ?_) (fun q => ?_)
    · have h := ite_t q h
      refine v_sub [0, 1, 2, 3, 4, 5, 6] rfl ?_
      exact r_X7_nearest_p113 C n H32 _ _ _ _ _ _ _ _ h
    · have h := ite_f q h
      refine v_aload_n C 0 dX7_nearest_52 rfl rfl ?_
      refine v_iload C 5 dX7_nearest_53 rfl ?_
      refine v_iload_n C 1 dX7_nearest_55 rfl rfl ?_
      refine v_iload_n C 2 dX7_nearest_56 rfl rfl ?_
      obtain ⟨u1, e_u1, h⟩ := bnd h
      obtain ⟨x2, e_x2, h⟩ := bnd h
      refine v_callVi C (ci := 6) (av := [.int a5, .int a1, .int a2]) (rest := []) rfl gX7_nearest_X7_far rfl ⟨rfl, rfl⟩ hV_X7_far ⟨(Nat.le_of_ble_eq_true rfl), (Nat.le_of_ble_eq_true rfl)⟩ e_u1 (r_X7_far (A := A) e_x2) rfl rfl (Nat.le_of_ble_eq_true rfl) dX7_nearest_57 ?_
      refine v_aload_n C 0 dX7_nearest_60 rfl rfl ?_
      refine v_iload C 7 dX7_nearest_61 rfl ?_
      refine v_at (pc' := 63) rfl ?_
      refine v_iload_n C 1 dX7_nearest_63 rfl rfl ?_
      refine v_iload_n C 2 dX7_nearest_64 rfl rfl ?_
      obtain ⟨u3, e_u3, h⟩ := bnd h
      obtain ⟨x4, e_x4, h⟩ := bnd h
      refine v_callVi C (ci := 6) (av := [.int a7, .int a1, .int a2]) (rest := [.int x2]) rfl gX7_nearest_X7_far rfl ⟨rfl, rfl⟩ hV_X7_far ⟨(Nat.le_of_ble_eq_true rfl), (Nat.le_of_ble_eq_true rfl)⟩ e_u3 (r_X7_far (A := A) e_x4) rfl rfl (Nat.le_of_ble_eq_true rfl) dX7_nearest_65 ?_
      refine v_isub C dX7_nearest_68 ?_
      refine v_istore C (lv' := [(8, .int (x2 - x4)), (0, .ref a0), (1, .int a1), (2, .int a2), (3, .int a3), (4, .int a4), (5, .int a5), (6, .int a6), (7, .int a7)]) dX7_nearest_69 (by decide) rfl ?_
      refine v_iload C 7 dX7_nearest_71 rfl ?_
      refine v_aload_n C 1 dX7_nearest_73 rfl rfl ?_
      refine v_iload C 8 dX7_nearest_74 rfl ?_
      refine v_at (pc' := 76) rfl ?_
      obtain ⟨u5, e_u5, h⟩ := bnd h
      obtain ⟨x6, e_x6, h⟩ := bnd h
      refine v_callVi C (ci := 6) (av := [.int a7]) (rest := [.int a6]) rfl gX7_nearest_X7_isThere rfl ⟨rfl, rfl⟩ hV_X7_isThere ⟨(Nat.le_of_ble_eq_true rfl), (Nat.le_of_ble_eq_true rfl)⟩ e_u5 (r_X7_isThere (A := A) e_x6) rfl rfl (Nat.le_of_ble_eq_true rfl) dX7_nearest_76 ?_
      refine v_if_eq C (tgt := 103) dX7_nearest_79 (by decide) (fun q => ?_) (fun q => ?_)
      · have h := ite_t q h
        refine v_iconst C (v := 0) dX7_nearest_103 (by decide) ?_
        refine v_iadd C dX7_nearest_104 ?_
        refine v_istore C (lv' := [(6, .int (a6 + 0)), (8, .int (x2 - x4)), (0, .ref a0), (1, .int a1), (2, .int a2), (3, .int a3), (4, .int a4), (5, .int a5), (7, .int a7)]) dX7_nearest_105 (by decide) rfl ?_
        refine v_iinc C (k := 8) (v := (a7 + 1)) (lv' := [(7, .int (a7 + 1)), (6, .int (a6 + 0)), (8, .int (x2 - x4)), (0, .ref a0), (1, .int a1), (2, .int a2), (3, .int a3), (4, .int a4), (5, .int a5)]) dX7_nearest_107 rfl rfl (by decide) rfl ?_
        refine v_goto C (tgt := 45) dX7_nearest_110 (by decide) ?_
        refine v_sub [3, 4, 5, 6, 7, 8, 1, 0] rfl ?_
        exact ih _ _ _ _ _ _ _ _ _ h
      · have h := ite_f q h
        refine v_iload C 0 dX7_nearest_82 rfl ?_
        refine v_if_gt C (tgt := 99) dX7_nearest_84 (by decide) (fun q => ?_) (fun q => ?_)
        · have h := ite_t q h
          refine v_iconst C (v := 1) dX7_nearest_99 (by decide) ?_
          refine v_goto C (tgt := 104) dX7_nearest_100 (by decide) ?_
          refine v_iadd C dX7_nearest_104 ?_
          refine v_istore C (lv' := [(6, .int (a6 + 1)), (8, .int (x2 - x4)), (0, .ref a0), (1, .int a1), (2, .int a2), (3, .int a3), (4, .int a4), (5, .int a5), (7, .int a7)]) dX7_nearest_105 (by decide) rfl ?_
          refine v_iinc C (k := 8) (v := (a7 + 1)) (lv' := [(7, .int (a7 + 1)), (6, .int (a6 + 1)), (8, .int (x2 - x4)), (0, .ref a0), (1, .int a1), (2, .int a2), (3, .int a3), (4, .int a4), (5, .int a5)]) dX7_nearest_107 rfl rfl (by decide) rfl ?_
          refine v_goto C (tgt := 45) dX7_nearest_110 (by decide) ?_
          refine v_sub [3, 4, 5, 6, 7, 8, 1, 0] rfl ?_
          exact ih _ _ _ _ _ _ _ _ _ h
        · have h := ite_f q h
          refine v_iload C 0 dX7_nearest_87 rfl ?_
          refine v_if_ne C (tgt := 103) dX7_nearest_89 (by decide) (fun q => ?_) (fun q => ?_)
          · have h := ite_f q h
            refine v_iconst C (v := 0) dX7_nearest_103 (by decide) ?_
            refine v_iadd C dX7_nearest_104 ?_
            refine v_istore C (lv' := [(6, .int (a6 + 0)), (8, .int (x2 - x4)), (0, .ref a0), (1, .int a1), (2, .int a2), (3, .int a3), (4, .int a4), (5, .int a5), (7, .int a7)]) dX7_nearest_105 (by decide) rfl ?_
            refine v_iinc C (k := 8) (v := (a7 + 1)) (lv' := [(7, .int (a7 + 1)), (6, .int (a6 + 0)), (8, .int (x2 - x4)), (0, .ref a0), (1, .int a1), (2, .int a2), (3, .int a3), (4, .int a4), (5, .int a5)]) dX7_nearest_107 rfl rfl (by decide) rfl ?_
            refine v_goto C (tgt := 45) dX7_nearest_110 (by decide) ?_
            refine v_sub [3, 4, 5, 6, 7, 8, 1, 0] rfl ?_
            exact ih _ _ _ _ _ _ _ _ _ h
          · have h := ite_t q h
            refine v_iload C 8 dX7_nearest_92 rfl ?_
            refine v_iload C 6 dX7_nearest_94 rfl ?_
            refine v_icmp_ge C (tgt := 103) dX7_nearest_96 (by decide) (fun q => ?_) (fun q => ?_)
            · have h := ite_t q h
              refine v_iconst C (v := 0) dX7_nearest_103 (by decide) ?_
              refine v_iadd C dX7_nearest_104 ?_
              refine v_istore C (lv' := [(6, .int (a6 + 0)), (8, .int (x2 - x4)), (0, .ref a0), (1, .int a1), (2, .int a2), (3, .int a3), (4, .int a4), (5, .int a5), (7, .int a7)]) dX7_nearest_105 (by decide) rfl ?_
              refine v_iinc C (k := 8) (v := (a7 + 1)) (lv' := [(7, .int (a7 + 1)), (6, .int (a6 + 0)), (8, .int (x2 - x4)), (0, .ref a0), (1, .int a1), (2, .int a2), (3, .int a3), (4, .int a4), (5, .int a5)]) dX7_nearest_107 rfl rfl (by decide) rfl ?_
              refine v_goto C (tgt := 45) dX7_nearest_110 (by decide) ?_
              refine v_sub [3, 4, 5, 6, 7, 8, 1, 0] rfl ?_
              exact ih _ _ _ _ _ _ _ _ _ h
            · have h := ite_f q h
              refine v_iconst C (v := 1) dX7_nearest_99 (by decide) ?_
              refine v_goto C (tgt := 104) dX7_nearest_100 (by decide) ?_
              refine v_iadd C dX7_nearest_104 ?_
              refine v_istore C (lv' := [(6, .int (a6 + 1)), (8, .int (x2 - x4)), (0, .ref a0), (1, .int a1), (2, .int a2), (3, .int a3), (4, .int a4), (5, .int a5), (7, .int a7)]) dX7_nearest_105 (by decide) rfl ?_
              refine v_iinc C (k := 8) (v := (a7 + 1)) (lv' := [(7, .int (a7 + 1)), (6, .int (a6 + 1)), (8, .int (x2 - x4)), (0, .ref a0), (1, .int a1), (2, .int a2), (3, .int a3), (4, .int a4), (5, .int a5)]) dX7_nearest_107 rfl rfl (by decide) rfl ?_
              refine v_goto C (tgt := 45) dX7_nearest_110 (by decide) ?_
              refine v_sub [3, 4, 5, 6, 7, 8, 1, 0] rfl ?_
              exact ih _ _ _ _ _ _ _ _ _ h
set_option maxRecDepth 100000 in
set_option maxHeartbeats 4000000 in
theorem r_X7_nearest_p32 {p : Program} {l : Launch} {e : Env} {s : State} {m : MethodId} {args : Array Value} {below : List Frame} {meth : Method} {c : Code} {G : GG} {A : Nat → Prop} (C : Cx p s m args meth c G A cX7_nearest 9 RX7 wsX7_nearest (some .int)) (n : Nat) {z : (Int32 × Wd)} : ∀ (t : Nat), ∀ (w : Wd) (a0 : Nat) (a1 : Int32) (a2 : Int32) (a3 : Int32) (a4 : Int32) (a5 : Int32), m_X7_nearest_p32 n t w a0 a1 a2 a3 a4 a5 = some z → V p l e { frames := 2, cells := 0, slots := 0, locals := 43 } s m args below meth c G A 9 32 [(0, .ref a0), (1, .int a1), (2, .int a2), (3, .int a3), (4, .int a4), (5, .int a5)] [] w (some (.int z.1)) z.2 := by
  intro t
  induction t with
  | zero =>
    intro w a0 a1 a2 a3 a4 a5 h
    rw [m_X7_nearest_p32] at h
    cases h
  | succ t ih =>
    intro w a0 a1 a2 a3 a4 a5 h
    rw [m_X7_nearest_p32] at h
    refine v_iload C 5 dX7_nearest_32 rfl ?_
    refine v_bipush C (v := 24) dX7_nearest_34 (by decide) ?_
    refine v_icmp_ge C (tgt := 143) dX7_nearest_36 (by decide) (fun q => ?_) (fun q => ?_)
    · have h := ite_t q h
      refine v_iload C 4 dX7_nearest_143 rfl ?_
      obtain rfl := Option.some.inj h
      exact v_iret C dX7_nearest_145
    · have h := ite_f q h
      refine v_iconst C (v := 0) dX7_nearest_39 (by decide) ?_
      refine v_istore C (lv' := [(6, .int 0), (0, .ref a0), (1, .int a1), (2, .int a2), (3, .int a3), (4, .int a4), (5, .int a5)]) dX7_nearest_40 (by decide) rfl ?_
      refine v_iconst C (v := 0) dX7_nearest_42 (by decide) ?_
      refine v_istore C (lv' := [(7, .int 0), (6, .int 0), (0, .ref a0), (1, .int a1), (2, .int a2), (3, .int a3), (4, .int a4), (5, .int a5)]) dX7_nearest_43 (by decide) rfl ?_
      refine v_sub [2, 3, 4, 5, 6, 7, 1, 0] rfl ?_
      exact r_X7_nearest_p45 C n ih n _ _ _ _ _ _ _ _ _ h
set_option maxRecDepth 100000 in
set_option maxHeartbeats 4000000 in
theorem r_X7_nearest {l : Launch} {G : GG} {A : Nat → Prop} {n : Nat} {w : Wd} {this : Nat} {a1 : Int32} {a2 : Int32} {a3 : Int32} {z : (Int32 × Wd)} (h : m_X7_nearest n w this a1 a2 a3 = some z) : Con l yX7_nearest wsX7_nearest { frames := 2, cells := 0, slots := 0, locals := 43 } G A [.ref this, .int a1, .int a2, .int a3] w (some (.int z.1)) z.2 := by
  refine Con.of (own := RX7) (cc := cX7_nearest) (maxL := 9) (ret := (some .int)) rfl (by decide) rfl (Nat.le_of_ble_eq_true rfl) ?_
  intro p e s m args below meth c C
  show V p l e { frames := 2, cells := 0, slots := 0, locals := 43 } s m args below meth c G A 9 0 [(0, .ref this), (1, .int a1), (2, .int a2), (3, .int a3)] [] w (some (.int z.1)) z.2
  unfold m_X7_nearest at h
  refine v_aload_n C 0 dX7_nearest_0 rfl rfl ?_
  refine v_iload_n C 1 dX7_nearest_1 rfl rfl ?_
  refine v_iload_n C 2 dX7_nearest_2 rfl rfl ?_
  refine v_callSi C (av := [.int a1, .int a2]) (rest := [.ref this]) gX7_nearest_X7_isPlace rfl ⟨rfl, rfl⟩ hS_X7_isPlace ⟨(Nat.le_of_ble_eq_true rfl), (Nat.le_of_ble_eq_true rfl)⟩ (r_X7_isPlace (A := A) rfl) rfl rfl (Nat.le_of_ble_eq_true rfl) dX7_nearest_3 ?_
  refine v_if_eq C (tgt := 17) dX7_nearest_6 (by decide) (fun q => ?_) (fun q => ?_)
  · have h := ite_t q h
    refine v_iconst C (v := 1) dX7_nearest_17 (by decide) ?_
    obtain ⟨u1, e_u1, h⟩ := bnd h
    obtain ⟨z2, e_z2, h⟩ := bnd h
    refine v_callVi C (ci := 6) (av := [.int 1]) (rest := []) rfl gX7_nearest_X7_refused rfl ⟨rfl, rfl⟩ hV_X7_refused ⟨(Nat.le_of_ble_eq_true rfl), (Nat.le_of_ble_eq_true rfl)⟩ e_u1 (r_X7_refused (A := A) e_z2) rfl rfl (Nat.le_of_ble_eq_true rfl) dX7_nearest_18 ?_
    refine v_if_eq C (tgt := 26) dX7_nearest_21 (by decide) (fun q => ?_) (fun q => ?_)
    · have h := ite_t q h
      refine v_iconst C (v := (-1)) dX7_nearest_26 (by decide) ?_
      refine v_istore C (lv' := [(4, .int (-1)), (0, .ref this), (1, .int a1), (2, .int a2), (3, .int a3)]) dX7_nearest_27 (by decide) rfl ?_
      refine v_iconst C (v := 0) dX7_nearest_29 (by decide) ?_
      refine v_istore C (lv' := [(5, .int 0), (4, .int (-1)), (0, .ref this), (1, .int a1), (2, .int a2), (3, .int a3)]) dX7_nearest_30 (by decide) rfl ?_
      refine v_sub [2, 3, 4, 5, 1, 0] rfl ?_
      exact r_X7_nearest_p32 C n n _ _ _ _ _ _ _ h
    · have h := ite_f q h
      refine v_iconst C (v := 0) dX7_nearest_24 (by decide) ?_
      obtain rfl := Option.some.inj h
      exact v_iret C dX7_nearest_25
  · have h := ite_f q h
    refine v_iload_n C 3 dX7_nearest_9 rfl rfl ?_
    refine v_if_lt C (tgt := 17) dX7_nearest_10 (by decide) (fun q => ?_) (fun q => ?_)
    · have h := ite_t q h
      refine v_iconst C (v := 1) dX7_nearest_17 (by decide) ?_
      obtain ⟨u3, e_u3, h⟩ := bnd h
      obtain ⟨z4, e_z4, h⟩ := bnd h
      refine v_callVi C (ci := 6) (av := [.int 1]) (rest := []) rfl gX7_nearest_X7_refused rfl ⟨rfl, rfl⟩ hV_X7_refused ⟨(Nat.le_of_ble_eq_true rfl), (Nat.le_of_ble_eq_true rfl)⟩ e_u3 (r_X7_refused (A := A) e_z4) rfl rfl (Nat.le_of_ble_eq_true rfl) dX7_nearest_18 ?_
      refine v_if_eq C (tgt := 26) dX7_nearest_21 (by decide) (fun q => ?_) (fun q => ?_)
      · have h := ite_t q h
        refine v_iconst C (v := (-1)) dX7_nearest_26 (by decide) ?_
        refine v_istore C (lv' := [(4, .int (-1)), (0, .ref this), (1, .int a1), (2, .int a2), (3, .int a3)]) dX7_nearest_27 (by decide) rfl ?_
        refine v_iconst C (v := 0) dX7_nearest_29 (by decide) ?_
        refine v_istore C (lv' := [(5, .int 0), (4, .int (-1)), (0, .ref this), (1, .int a1), (2, .int a2), (3, .int a3)]) dX7_nearest_30 (by decide) rfl ?_
        refine v_sub [2, 3, 4, 5, 1, 0] rfl ?_
        exact r_X7_nearest_p32 C n n _ _ _ _ _ _ _ h
      · have h := ite_f q h
        refine v_iconst C (v := 0) dX7_nearest_24 (by decide) ?_
        obtain rfl := Option.some.inj h
        exact v_iret C dX7_nearest_25
    · have h := ite_f q h
      refine v_iconst C (v := 0) dX7_nearest_13 (by decide) ?_
      refine v_goto C (tgt := 18) dX7_nearest_14 (by decide) ?_
      obtain ⟨u5, e_u5, h⟩ := bnd h
      obtain ⟨z6, e_z6, h⟩ := bnd h
      refine v_callVi C (ci := 6) (av := [.int 0]) (rest := []) rfl gX7_nearest_X7_refused rfl ⟨rfl, rfl⟩ hV_X7_refused ⟨(Nat.le_of_ble_eq_true rfl), (Nat.le_of_ble_eq_true rfl)⟩ e_u5 (r_X7_refused (A := A) e_z6) rfl rfl (Nat.le_of_ble_eq_true rfl) dX7_nearest_18 ?_
      refine v_if_eq C (tgt := 26) dX7_nearest_21 (by decide) (fun q => ?_) (fun q => ?_)
      · have h := ite_t q h
        refine v_iconst C (v := (-1)) dX7_nearest_26 (by decide) ?_
        refine v_istore C (lv' := [(4, .int (-1)), (0, .ref this), (1, .int a1), (2, .int a2), (3, .int a3)]) dX7_nearest_27 (by decide) rfl ?_
        refine v_iconst C (v := 0) dX7_nearest_29 (by decide) ?_
        refine v_istore C (lv' := [(5, .int 0), (4, .int (-1)), (0, .ref this), (1, .int a1), (2, .int a2), (3, .int a3)]) dX7_nearest_30 (by decide) rfl ?_
        refine v_sub [2, 3, 4, 5, 1, 0] rfl ?_
        exact r_X7_nearest_p32 C n n _ _ _ _ _ _ _ h
      · have h := ite_f q h
        refine v_iconst C (v := 0) dX7_nearest_24 (by decide) ?_
        obtain rfl := Option.some.inj h
        exact v_iret C dX7_nearest_25
theorem fX7_within_7 : Cond.fieldLink RX7 7 (TX7 0).1 (TX7 0).2.1 (TX7 0).2.2.1 ∈ wsX7_within := by decide +kernel
theorem inX7_within_X7 : ∀ x ∈ u_ws RX7 TX7 20, x ∈ wsX7_within := by decide +kernel
set_option maxRecDepth 100000 in
set_option maxHeartbeats 4000000 in
theorem r_X7_within_p37 {p : Program} {l : Launch} {e : Env} {s : State} {m : MethodId} {args : Array Value} {below : List Frame} {meth : Method} {c : Code} {G : GG} {A : Nat → Prop} (C : Cx p s m args meth c G A cX7_within 7 RX7 wsX7_within (some .int)) (n : Nat) {z : (Int32 × Wd)} : ∀ (t : Nat), ∀ (w : Wd) (a0 : Nat) (a1 : Int32) (a2 : Int32) (a3 : Int32) (a4 : Int32) (a5 : Int32) (a6 : Int32), m_X7_within_p37 n t w a0 a1 a2 a3 a4 a5 a6 = some z → V p l e { frames := 2, cells := 0, slots := 0, locals := 43 } s m args below meth c G A 7 37 [(0, .ref a0), (1, .int a1), (2, .int a2), (3, .int a3), (4, .int a4), (5, .int a5), (6, .int a6)] [] w (some (.int z.1)) z.2 := by
  intro t
  induction t with
  | zero =>
    intro w a0 a1 a2 a3 a4 a5 a6 h
    rw [m_X7_within_p37] at h
    cases h
  | succ t ih =>
    intro w a0 a1 a2 a3 a4 a5 a6 h
    rw [m_X7_within_p37] at h
    refine v_iload C 6 dX7_within_37 rfl ?_
    refine v_bipush C (v := 24) dX7_within_39 (by decide) ?_
    refine v_icmp_ge C (tgt := 108) dX7_within_41 (by decide) (fun q => ?_) (fun q => ?_)
    · have h := ite_t q h
      refine v_iload C 5 dX7_within_108 rfl ?_
      obtain rfl := Option.some.inj h
      exact v_iret C dX7_within_110
    · have h := ite_f q h
      refine v_iload C 5 dX7_within_44 rfl ?_
      refine v_aload_n C 0 dX7_within_46 rfl rfl ?_
      refine v_iload C 6 dX7_within_47 rfl ?_
      obtain ⟨u1, e_u1, h⟩ := bnd h
      obtain ⟨x2, e_x2, h⟩ := bnd h
      refine v_callVi C (ci := 6) (av := [.int a6]) (rest := [.int a5]) rfl gX7_within_X7_isThere rfl ⟨rfl, rfl⟩ hV_X7_isThere ⟨(Nat.le_of_ble_eq_true rfl), (Nat.le_of_ble_eq_true rfl)⟩ e_u1 (r_X7_isThere (A := A) e_x2) rfl rfl (Nat.le_of_ble_eq_true rfl) dX7_within_49 ?_
      refine v_if_eq C (tgt := 98) dX7_within_52 (by decide) (fun q => ?_) (fun q => ?_)
      · have h := ite_t q h
        refine v_iconst C (v := 0) dX7_within_98 (by decide) ?_
        refine v_iadd C dX7_within_99 ?_
        refine v_istore C (lv' := [(5, .int (a5 + 0)), (0, .ref a0), (1, .int a1), (2, .int a2), (3, .int a3), (4, .int a4), (6, .int a6)]) dX7_within_100 (by decide) rfl ?_
        refine v_iinc C (k := 6) (v := (a6 + 1)) (lv' := [(6, .int (a6 + 1)), (5, .int (a5 + 0)), (0, .ref a0), (1, .int a1), (2, .int a2), (3, .int a3), (4, .int a4)]) dX7_within_102 rfl rfl (by decide) rfl ?_
        refine v_goto C (tgt := 37) dX7_within_105 (by decide) ?_
        refine v_sub [2, 3, 4, 5, 6, 1, 0] rfl ?_
        exact ih _ _ _ _ _ _ _ _ h
      · have h := ite_f q h
        refine v_aload_n C 0 dX7_within_55 rfl rfl ?_
        obtain ⟨q3, e_q3, h⟩ := bnd h
        refine v_getf C (ci := 6) (k := 0) rfl inX7_within_X7 (by decide) fX7_within_7 dX7_within_56 (gfR_e e_q3) ?_
        refine v_iconst C (v := 5) dX7_within_59 (by decide) ?_
        refine v_iload C 6 dX7_within_60 rfl ?_
        refine v_imul C dX7_within_62 ?_
        refine v_iconst C (v := 1) dX7_within_63 (by decide) ?_
        refine v_iadd C dX7_within_64 ?_
        refine v_at (pc' := 65) rfl ?_
        obtain ⟨x4, e_x4, h⟩ := bnd h
        refine v_iald C dX7_within_65 e_x4 ?_
        refine v_iload_n C 1 dX7_within_66 rfl rfl ?_
        refine v_iload_n C 3 dX7_within_67 rfl rfl ?_
        refine v_callSi C (av := [.int x4, .int a1, .int a3]) (rest := [.int a5]) gX7_within_X7_in rfl ⟨rfl, rfl⟩ hS_X7_in ⟨(Nat.le_of_ble_eq_true rfl), (Nat.le_of_ble_eq_true rfl)⟩ (r_X7_in (A := A) rfl) rfl rfl (Nat.le_of_ble_eq_true rfl) dX7_within_68 ?_
        refine v_if_eq C (tgt := 98) dX7_within_71 (by decide) (fun q => ?_) (fun q => ?_)
        · have h := ite_t q h
          refine v_iconst C (v := 0) dX7_within_98 (by decide) ?_
          refine v_iadd C dX7_within_99 ?_
          refine v_istore C (lv' := [(5, .int (a5 + 0)), (0, .ref a0), (1, .int a1), (2, .int a2), (3, .int a3), (4, .int a4), (6, .int a6)]) dX7_within_100 (by decide) rfl ?_
          refine v_iinc C (k := 6) (v := (a6 + 1)) (lv' := [(6, .int (a6 + 1)), (5, .int (a5 + 0)), (0, .ref a0), (1, .int a1), (2, .int a2), (3, .int a3), (4, .int a4)]) dX7_within_102 rfl rfl (by decide) rfl ?_
          refine v_goto C (tgt := 37) dX7_within_105 (by decide) ?_
          refine v_sub [2, 3, 4, 5, 6, 1, 0] rfl ?_
          exact ih _ _ _ _ _ _ _ _ h
        · have h := ite_f q h
          refine v_aload_n C 0 dX7_within_74 rfl rfl ?_
          obtain ⟨q5, e_q5, h⟩ := bnd h
          refine v_getf C (ci := 6) (k := 0) rfl inX7_within_X7 (by decide) fX7_within_7 dX7_within_75 (gfR_e e_q5) ?_
          refine v_iconst C (v := 5) dX7_within_78 (by decide) ?_
          refine v_iload C 6 dX7_within_79 rfl ?_
          refine v_imul C dX7_within_81 ?_
          refine v_iconst C (v := 2) dX7_within_82 (by decide) ?_
          refine v_iadd C dX7_within_83 ?_
          refine v_at (pc' := 84) rfl ?_
          obtain ⟨x6, e_x6, h⟩ := bnd h
          refine v_iald C dX7_within_84 e_x6 ?_
          refine v_iload_n C 2 dX7_within_85 rfl rfl ?_
          refine v_iload C 4 dX7_within_86 rfl ?_
          refine v_callSi C (av := [.int x6, .int a2, .int a4]) (rest := [.int a5]) gX7_within_X7_in rfl ⟨rfl, rfl⟩ hS_X7_in ⟨(Nat.le_of_ble_eq_true rfl), (Nat.le_of_ble_eq_true rfl)⟩ (r_X7_in (A := A) rfl) rfl rfl (Nat.le_of_ble_eq_true rfl) dX7_within_88 ?_
          refine v_if_eq C (tgt := 98) dX7_within_91 (by decide) (fun q => ?_) (fun q => ?_)
          · have h := ite_t q h
            refine v_iconst C (v := 0) dX7_within_98 (by decide) ?_
            refine v_iadd C dX7_within_99 ?_
            refine v_istore C (lv' := [(5, .int (a5 + 0)), (0, .ref a0), (1, .int a1), (2, .int a2), (3, .int a3), (4, .int a4), (6, .int a6)]) dX7_within_100 (by decide) rfl ?_
            refine v_iinc C (k := 6) (v := (a6 + 1)) (lv' := [(6, .int (a6 + 1)), (5, .int (a5 + 0)), (0, .ref a0), (1, .int a1), (2, .int a2), (3, .int a3), (4, .int a4)]) dX7_within_102 rfl rfl (by decide) rfl ?_
            refine v_goto C (tgt := 37) dX7_within_105 (by decide) ?_
            refine v_sub [2, 3, 4, 5, 6, 1, 0] rfl ?_
            exact ih _ _ _ _ _ _ _ _ h
          · have h := ite_f q h
            refine v_iconst C (v := 1) dX7_within_94 (by decide) ?_
            refine v_goto C (tgt := 99) dX7_within_95 (by decide) ?_
            refine v_iadd C dX7_within_99 ?_
            refine v_istore C (lv' := [(5, .int (a5 + 1)), (0, .ref a0), (1, .int a1), (2, .int a2), (3, .int a3), (4, .int a4), (6, .int a6)]) dX7_within_100 (by decide) rfl ?_
            refine v_iinc C (k := 6) (v := (a6 + 1)) (lv' := [(6, .int (a6 + 1)), (5, .int (a5 + 1)), (0, .ref a0), (1, .int a1), (2, .int a2), (3, .int a3), (4, .int a4)]) dX7_within_102 rfl rfl (by decide) rfl ?_
            refine v_goto C (tgt := 37) dX7_within_105 (by decide) ?_
            refine v_sub [2, 3, 4, 5, 6, 1, 0] rfl ?_
            exact ih _ _ _ _ _ _ _ _ h
set_option maxRecDepth 100000 in
set_option maxHeartbeats 4000000 in
theorem r_X7_within {l : Launch} {G : GG} {A : Nat → Prop} {n : Nat} {w : Wd} {this : Nat} {a1 : Int32} {a2 : Int32} {a3 : Int32} {a4 : Int32} {z : (Int32 × Wd)} (h : m_X7_within n w this a1 a2 a3 a4 = some z) : Con l yX7_within wsX7_within { frames := 2, cells := 0, slots := 0, locals := 43 } G A [.ref this, .int a1, .int a2, .int a3, .int a4] w (some (.int z.1)) z.2 := by
  refine Con.of (own := RX7) (cc := cX7_within) (maxL := 7) (ret := (some .int)) rfl (by decide) rfl (Nat.le_of_ble_eq_true rfl) ?_
  intro p e s m args below meth c C
  show V p l e { frames := 2, cells := 0, slots := 0, locals := 43 } s m args below meth c G A 7 0 [(0, .ref this), (1, .int a1), (2, .int a2), (3, .int a3), (4, .int a4)] [] w (some (.int z.1)) z.2
  unfold m_X7_within at h
  refine v_aload_n C 0 dX7_within_0 rfl rfl ?_
  refine v_iload_n C 1 dX7_within_1 rfl rfl ?_
  refine v_iload_n C 2 dX7_within_2 rfl rfl ?_
  refine v_callSi C (av := [.int a1, .int a2]) (rest := [.ref this]) gX7_within_X7_isPlace rfl ⟨rfl, rfl⟩ hS_X7_isPlace ⟨(Nat.le_of_ble_eq_true rfl), (Nat.le_of_ble_eq_true rfl)⟩ (r_X7_isPlace (A := A) rfl) rfl rfl (Nat.le_of_ble_eq_true rfl) dX7_within_3 ?_
  refine v_if_eq C (tgt := 22) dX7_within_6 (by decide) (fun q => ?_) (fun q => ?_)
  · have h := ite_t q h
    refine v_iconst C (v := 1) dX7_within_22 (by decide) ?_
    obtain ⟨u1, e_u1, h⟩ := bnd h
    obtain ⟨z2, e_z2, h⟩ := bnd h
    refine v_callVi C (ci := 6) (av := [.int 1]) (rest := []) rfl gX7_within_X7_refused rfl ⟨rfl, rfl⟩ hV_X7_refused ⟨(Nat.le_of_ble_eq_true rfl), (Nat.le_of_ble_eq_true rfl)⟩ e_u1 (r_X7_refused (A := A) e_z2) rfl rfl (Nat.le_of_ble_eq_true rfl) dX7_within_23 ?_
    refine v_if_eq C (tgt := 31) dX7_within_26 (by decide) (fun q => ?_) (fun q => ?_)
    · have h := ite_t q h
      refine v_iconst C (v := 0) dX7_within_31 (by decide) ?_
      refine v_istore C (lv' := [(5, .int 0), (0, .ref this), (1, .int a1), (2, .int a2), (3, .int a3), (4, .int a4)]) dX7_within_32 (by decide) rfl ?_
      refine v_iconst C (v := 0) dX7_within_34 (by decide) ?_
      refine v_istore C (lv' := [(6, .int 0), (5, .int 0), (0, .ref this), (1, .int a1), (2, .int a2), (3, .int a3), (4, .int a4)]) dX7_within_35 (by decide) rfl ?_
      refine v_sub [2, 3, 4, 5, 6, 1, 0] rfl ?_
      exact r_X7_within_p37 C n n _ _ _ _ _ _ _ _ h
    · have h := ite_f q h
      refine v_iconst C (v := 0) dX7_within_29 (by decide) ?_
      obtain rfl := Option.some.inj h
      exact v_iret C dX7_within_30
  · have h := ite_f q h
    refine v_iload_n C 3 dX7_within_9 rfl rfl ?_
    refine v_iload C 4 dX7_within_10 rfl ?_
    refine v_callSi C (av := [.int a3, .int a4]) (rest := [.ref this]) gX7_within_X7_isPlace rfl ⟨rfl, rfl⟩ hS_X7_isPlace ⟨(Nat.le_of_ble_eq_true rfl), (Nat.le_of_ble_eq_true rfl)⟩ (r_X7_isPlace (A := A) rfl) rfl rfl (Nat.le_of_ble_eq_true rfl) dX7_within_12 ?_
    refine v_if_eq C (tgt := 22) dX7_within_15 (by decide) (fun q => ?_) (fun q => ?_)
    · have h := ite_t q h
      refine v_iconst C (v := 1) dX7_within_22 (by decide) ?_
      obtain ⟨u3, e_u3, h⟩ := bnd h
      obtain ⟨z4, e_z4, h⟩ := bnd h
      refine v_callVi C (ci := 6) (av := [.int 1]) (rest := []) rfl gX7_within_X7_refused rfl ⟨rfl, rfl⟩ hV_X7_refused ⟨(Nat.le_of_ble_eq_true rfl), (Nat.le_of_ble_eq_true rfl)⟩ e_u3 (r_X7_refused (A := A) e_z4) rfl rfl (Nat.le_of_ble_eq_true rfl) dX7_within_23 ?_
      refine v_if_eq C (tgt := 31) dX7_within_26 (by decide) (fun q => ?_) (fun q => ?_)
      · have h := ite_t q h
        refine v_iconst C (v := 0) dX7_within_31 (by decide) ?_
        refine v_istore C (lv' := [(5, .int 0), (0, .ref this), (1, .int a1), (2, .int a2), (3, .int a3), (4, .int a4)]) dX7_within_32 (by decide) rfl ?_
        refine v_iconst C (v := 0) dX7_within_34 (by decide) ?_
        refine v_istore C (lv' := [(6, .int 0), (5, .int 0), (0, .ref this), (1, .int a1), (2, .int a2), (3, .int a3), (4, .int a4)]) dX7_within_35 (by decide) rfl ?_
        refine v_sub [2, 3, 4, 5, 6, 1, 0] rfl ?_
        exact r_X7_within_p37 C n n _ _ _ _ _ _ _ _ h
      · have h := ite_f q h
        refine v_iconst C (v := 0) dX7_within_29 (by decide) ?_
        obtain rfl := Option.some.inj h
        exact v_iret C dX7_within_30
    · have h := ite_f q h
      refine v_iconst C (v := 0) dX7_within_18 (by decide) ?_
      refine v_goto C (tgt := 23) dX7_within_19 (by decide) ?_
      obtain ⟨u5, e_u5, h⟩ := bnd h
      obtain ⟨z6, e_z6, h⟩ := bnd h
      refine v_callVi C (ci := 6) (av := [.int 0]) (rest := []) rfl gX7_within_X7_refused rfl ⟨rfl, rfl⟩ hV_X7_refused ⟨(Nat.le_of_ble_eq_true rfl), (Nat.le_of_ble_eq_true rfl)⟩ e_u5 (r_X7_refused (A := A) e_z6) rfl rfl (Nat.le_of_ble_eq_true rfl) dX7_within_23 ?_
      refine v_if_eq C (tgt := 31) dX7_within_26 (by decide) (fun q => ?_) (fun q => ?_)
      · have h := ite_t q h
        refine v_iconst C (v := 0) dX7_within_31 (by decide) ?_
        refine v_istore C (lv' := [(5, .int 0), (0, .ref this), (1, .int a1), (2, .int a2), (3, .int a3), (4, .int a4)]) dX7_within_32 (by decide) rfl ?_
        refine v_iconst C (v := 0) dX7_within_34 (by decide) ?_
        refine v_istore C (lv' := [(6, .int 0), (5, .int 0), (0, .ref this), (1, .int a1), (2, .int a2), (3, .int a3), (4, .int a4)]) dX7_within_35 (by decide) rfl ?_
        refine v_sub [2, 3, 4, 5, 6, 1, 0] rfl ?_
        exact r_X7_within_p37 C n n _ _ _ _ _ _ _ _ h
      · have h := ite_f q h
        refine v_iconst C (v := 0) dX7_within_29 (by decide) ?_
        obtain rfl := Option.some.inj h
        exact v_iret C dX7_within_30
theorem fX7_tellClosest_7 : Cond.fieldLink RX7 7 (TX7 0).1 (TX7 0).2.1 (TX7 0).2.2.1 ∈ wsX7_tellClosest := by decide +kernel
theorem inX7_tellClosest_X7 : ∀ x ∈ u_ws RX7 TX7 20, x ∈ wsX7_tellClosest := by decide +kernel
set_option maxRecDepth 100000 in
set_option maxHeartbeats 4000000 in
theorem r_X7_tellClosest_p23 {p : Program} {l : Launch} {e : Env} {s : State} {m : MethodId} {args : Array Value} {below : List Frame} {meth : Method} {c : Code} {G : GG} {A : Nat → Prop} (C : Cx p s m args meth c G A cX7_tellClosest 8 RX7 wsX7_tellClosest (some .int)) (n : Nat) {k10 : Wd → Nat → Int32 → Int32 → Int32 → Int32 → Int32 → Option Int32} {z : Int32} (H10 : ∀ (w : Wd) (b0 : Nat) (b1 : Int32) (b2 : Int32) (b3 : Int32) (b4 : Int32) (b5 : Int32), k10 w b0 b1 b2 b3 b4 b5 = some z → V p l e { frames := 1, cells := 0, slots := 0, locals := 25 } s m args below meth c G A 8 10 [(0, .ref b0), (1, .int b1), (2, .int b2), (3, .int b3), (4, .int b4), (5, .int b5)] [] w (some (.int z)) w) : ∀ (t : Nat), ∀ (w : Wd) (a0 : Nat) (a1 : Int32) (a2 : Int32) (a3 : Int32) (a4 : Int32) (a5 : Int32) (a6 : Int32), m_X7_tellClosest_p23 n k10 t w a0 a1 a2 a3 a4 a5 a6 = some z → V p l e { frames := 1, cells := 0, slots := 0, locals := 25 } s m args below meth c G A 8 23 [(0, .ref a0), (1, .int a1), (2, .int a2), (3, .int a3), (4, .int a4), (5, .int a5), (6, .int a6)] [] w (some (.int z)) w := by
  intro t
  induction t with
  | zero =>
    intro w a0 a1 a2 a3 a4 a5 a6 h
    rw [m_X7_tellClosest_p23] at h
    cases h
  | succ t ih =>
    intro w a0 a1 a2 a3 a4 a5 a6 h
    rw [m_X7_tellClosest_p23] at h
    refine v_iload C 6 dX7_tellClosest_23 rfl ?_
    refine v_bipush C (v := 24) dX7_tellClosest_25 (by decide) ?_
    refine v_icmp_ge C (tgt := 105) dX7_tellClosest_27 (by decide) (fun q => ?_) (fun q => ?_)
    · have h := ite_t q h
      refine v_iinc C (k := 5) (v := (a5 + 1)) (lv' := [(5, .int (a5 + 1)), (0, .ref a0), (1, .int a1), (2, .int a2), (3, .int a3), (4, .int a4), (6, .int a6)]) dX7_tellClosest_105 rfl rfl (by decide) rfl ?_
      refine v_goto C (tgt := 10) dX7_tellClosest_108 (by decide) ?_
      refine v_sub [1, 2, 3, 4, 5, 0] rfl ?_
      exact H10 _ _ _ _ _ _ _ h
    · have h := ite_f q h
      refine v_aload_n C 0 dX7_tellClosest_30 rfl rfl ?_
      refine v_iload C 5 dX7_tellClosest_31 rfl ?_
      refine v_aload_n C 0 dX7_tellClosest_33 rfl rfl ?_
      obtain ⟨q1, e_q1, h⟩ := bnd h
      refine v_getf C (ci := 6) (k := 0) rfl inX7_tellClosest_X7 (by decide) fX7_tellClosest_7 dX7_tellClosest_34 (gfR_e e_q1) ?_
      refine v_iconst C (v := 5) dX7_tellClosest_37 (by decide) ?_
      refine v_iload C 6 dX7_tellClosest_38 rfl ?_
      refine v_imul C dX7_tellClosest_40 ?_
      refine v_at (pc' := 41) rfl ?_
      refine v_iconst C (v := 1) dX7_tellClosest_41 (by decide) ?_
      refine v_iadd C dX7_tellClosest_42 ?_
      obtain ⟨x2, e_x2, h⟩ := bnd h
      refine v_iald C dX7_tellClosest_43 e_x2 ?_
      refine v_aload_n C 0 dX7_tellClosest_44 rfl rfl ?_
      obtain ⟨q3, e_q3, h⟩ := bnd h
      refine v_getf C (ci := 6) (k := 0) rfl inX7_tellClosest_X7 (by decide) fX7_tellClosest_7 dX7_tellClosest_45 (gfR_e e_q3) ?_
      refine v_iconst C (v := 5) dX7_tellClosest_48 (by decide) ?_
      refine v_iload C 6 dX7_tellClosest_49 rfl ?_
      refine v_imul C dX7_tellClosest_51 ?_
      refine v_at (pc' := 52) rfl ?_
      refine v_iconst C (v := 2) dX7_tellClosest_52 (by decide) ?_
      refine v_iadd C dX7_tellClosest_53 ?_
      obtain ⟨x4, e_x4, h⟩ := bnd h
      refine v_iald C dX7_tellClosest_54 e_x4 ?_
      obtain ⟨u5, e_u5, h⟩ := bnd h
      obtain ⟨x6, e_x6, h⟩ := bnd h
      refine v_callVi C (ci := 6) (av := [.int a5, .int x2, .int x4]) (rest := []) rfl gX7_tellClosest_X7_far rfl ⟨rfl, rfl⟩ hV_X7_far ⟨(Nat.le_of_ble_eq_true rfl), (Nat.le_of_ble_eq_true rfl)⟩ e_u5 (r_X7_far (A := A) e_x6) rfl rfl (Nat.le_of_ble_eq_true rfl) dX7_tellClosest_55 ?_
      refine v_istore C (lv' := [(7, .int x6), (0, .ref a0), (1, .int a1), (2, .int a2), (3, .int a3), (4, .int a4), (5, .int a5), (6, .int a6)]) dX7_tellClosest_58 (by decide) rfl ?_
      refine v_aload_n C 1 dX7_tellClosest_60 rfl rfl ?_
      refine v_iload C 6 dX7_tellClosest_61 rfl ?_
      obtain ⟨u7, e_u7, h⟩ := bnd h
      obtain ⟨x8, e_x8, h⟩ := bnd h
      refine v_callVi C (ci := 6) (av := [.int a5]) (rest := []) rfl gX7_tellClosest_X7_isThere rfl ⟨rfl, rfl⟩ hV_X7_isThere ⟨(Nat.le_of_ble_eq_true rfl), (Nat.le_of_ble_eq_true rfl)⟩ e_u7 (r_X7_isThere (A := A) e_x8) rfl rfl (Nat.le_of_ble_eq_true rfl) dX7_tellClosest_63 ?_
      refine v_at (pc' := 66) rfl ?_
      refine v_if_eq C (tgt := 99) dX7_tellClosest_66 (by decide) (fun q => ?_) (fun q => ?_)
      · have h := ite_t q h
        refine v_iinc C (k := 7) (v := (a6 + 1)) (lv' := [(6, .int (a6 + 1)), (7, .int x6), (0, .ref a0), (1, .int a1), (2, .int a2), (3, .int a3), (4, .int a4), (5, .int a5)]) dX7_tellClosest_99 rfl rfl (by decide) rfl ?_
        refine v_goto C (tgt := 23) dX7_tellClosest_102 (by decide) ?_
        refine v_sub [2, 3, 4, 5, 6, 7, 0] rfl ?_
        exact ih _ _ _ _ _ _ _ _ h
      · have h := ite_f q h
        refine v_aload_n C 1 dX7_tellClosest_69 rfl rfl ?_
        refine v_iload C 7 dX7_tellClosest_70 rfl ?_
        obtain ⟨u9, e_u9, h⟩ := bnd h
        obtain ⟨x10, e_x10, h⟩ := bnd h
        refine v_callVi C (ci := 6) (av := [.int a6]) (rest := []) rfl gX7_tellClosest_X7_isThere rfl ⟨rfl, rfl⟩ hV_X7_isThere ⟨(Nat.le_of_ble_eq_true rfl), (Nat.le_of_ble_eq_true rfl)⟩ e_u9 (r_X7_isThere (A := A) e_x10) rfl rfl (Nat.le_of_ble_eq_true rfl) dX7_tellClosest_72 ?_
        refine v_if_eq C (tgt := 99) dX7_tellClosest_75 (by decide) (fun q => ?_) (fun q => ?_)
        · have h := ite_t q h
          refine v_iinc C (k := 7) (v := (a6 + 1)) (lv' := [(6, .int (a6 + 1)), (7, .int x6), (0, .ref a0), (1, .int a1), (2, .int a2), (3, .int a3), (4, .int a4), (5, .int a5)]) dX7_tellClosest_99 rfl rfl (by decide) rfl ?_
          refine v_goto C (tgt := 23) dX7_tellClosest_102 (by decide) ?_
          refine v_sub [2, 3, 4, 5, 6, 7, 0] rfl ?_
          exact ih _ _ _ _ _ _ _ _ h
        · have h := ite_f q h
          refine v_iload_n C 3 dX7_tellClosest_78 rfl rfl ?_
          refine v_iconst C (v := (-1)) dX7_tellClosest_79 (by decide) ?_
          refine v_icmp_eq C (tgt := 89) dX7_tellClosest_80 (by decide) (fun q => ?_) (fun q => ?_)
          · have h := ite_t q h
            refine v_iload C 0 dX7_tellClosest_89 rfl ?_
            refine v_istore_n C (lv' := [(2, .int x6), (7, .int x6), (0, .ref a0), (1, .int a1), (3, .int a3), (4, .int a4), (5, .int a5), (6, .int a6)]) dX7_tellClosest_91 rfl (by decide) rfl ?_
            refine v_iload C 6 dX7_tellClosest_92 rfl ?_
            refine v_istore_n C (lv' := [(3, .int a5), (2, .int x6), (7, .int x6), (0, .ref a0), (1, .int a1), (4, .int a4), (5, .int a5), (6, .int a6)]) dX7_tellClosest_94 rfl (by decide) rfl ?_
            refine v_iload C 7 dX7_tellClosest_95 rfl ?_
            refine v_istore C (lv' := [(4, .int a6), (3, .int a5), (2, .int x6), (7, .int x6), (0, .ref a0), (1, .int a1), (5, .int a5), (6, .int a6)]) dX7_tellClosest_97 (by decide) rfl ?_
            refine v_iinc C (k := 7) (v := (a6 + 1)) (lv' := [(6, .int (a6 + 1)), (4, .int a6), (3, .int a5), (2, .int x6), (7, .int x6), (0, .ref a0), (1, .int a1), (5, .int a5)]) dX7_tellClosest_99 rfl rfl (by decide) rfl ?_
            refine v_at (pc' := 102) rfl ?_
            refine v_goto C (tgt := 23) dX7_tellClosest_102 (by decide) ?_
            refine v_sub [5, 6, 3, 2, 1, 7, 0] rfl ?_
            exact ih _ _ _ _ _ _ _ _ h
          · have h := ite_f q h
            refine v_iload C 0 dX7_tellClosest_83 rfl ?_
            refine v_iload_n C 3 dX7_tellClosest_85 rfl rfl ?_
            refine v_icmp_ge C (tgt := 99) dX7_tellClosest_86 (by decide) (fun q => ?_) (fun q => ?_)
            · have h := ite_t q h
              refine v_iinc C (k := 7) (v := (a6 + 1)) (lv' := [(6, .int (a6 + 1)), (7, .int x6), (0, .ref a0), (1, .int a1), (2, .int a2), (3, .int a3), (4, .int a4), (5, .int a5)]) dX7_tellClosest_99 rfl rfl (by decide) rfl ?_
              refine v_goto C (tgt := 23) dX7_tellClosest_102 (by decide) ?_
              refine v_sub [2, 3, 4, 5, 6, 7, 0] rfl ?_
              exact ih _ _ _ _ _ _ _ _ h
            · have h := ite_f q h
              refine v_iload C 0 dX7_tellClosest_89 rfl ?_
              refine v_istore_n C (lv' := [(2, .int x6), (7, .int x6), (0, .ref a0), (1, .int a1), (3, .int a3), (4, .int a4), (5, .int a5), (6, .int a6)]) dX7_tellClosest_91 rfl (by decide) rfl ?_
              refine v_iload C 6 dX7_tellClosest_92 rfl ?_
              refine v_istore_n C (lv' := [(3, .int a5), (2, .int x6), (7, .int x6), (0, .ref a0), (1, .int a1), (4, .int a4), (5, .int a5), (6, .int a6)]) dX7_tellClosest_94 rfl (by decide) rfl ?_
              refine v_iload C 7 dX7_tellClosest_95 rfl ?_
              refine v_istore C (lv' := [(4, .int a6), (3, .int a5), (2, .int x6), (7, .int x6), (0, .ref a0), (1, .int a1), (5, .int a5), (6, .int a6)]) dX7_tellClosest_97 (by decide) rfl ?_
              refine v_iinc C (k := 7) (v := (a6 + 1)) (lv' := [(6, .int (a6 + 1)), (4, .int a6), (3, .int a5), (2, .int x6), (7, .int x6), (0, .ref a0), (1, .int a1), (5, .int a5)]) dX7_tellClosest_99 rfl rfl (by decide) rfl ?_
              refine v_at (pc' := 102) rfl ?_
              refine v_goto C (tgt := 23) dX7_tellClosest_102 (by decide) ?_
              refine v_sub [5, 6, 3, 2, 1, 7, 0] rfl ?_
              exact ih _ _ _ _ _ _ _ _ h
set_option maxRecDepth 100000 in
set_option maxHeartbeats 4000000 in
theorem r_X7_tellClosest_p111 {p : Program} {l : Launch} {e : Env} {s : State} {m : MethodId} {args : Array Value} {below : List Frame} {meth : Method} {c : Code} {G : GG} {A : Nat → Prop} (C : Cx p s m args meth c G A cX7_tellClosest 8 RX7 wsX7_tellClosest (some .int)) (n : Nat) {z : Int32} : ∀ (w : Wd) (a1 : Int32) (a2 : Int32) (a3 : Int32) (a4 : Int32), m_X7_tellClosest_p111 n w a1 a2 a3 a4 = some z → V p l e { frames := 1, cells := 0, slots := 0, locals := 25 } s m args below meth c G A 8 111 [(1, .int a1), (2, .int a2), (3, .int a3), (4, .int a4)] [] w (some (.int z)) w := by
  intro w a1 a2 a3 a4 h
  unfold m_X7_tellClosest_p111 at h
  refine v_iload_n C 0 dX7_tellClosest_111 rfl rfl ?_
  refine v_if_ne C (tgt := 119) dX7_tellClosest_112 (by decide) (fun q => ?_) (fun q => ?_)
  · have h := ite_f q h
    refine v_iload_n C 0 dX7_tellClosest_119 rfl rfl ?_
    refine v_iconst C (v := 1) dX7_tellClosest_120 (by decide) ?_
    refine v_icmp_ne C (tgt := 128) dX7_tellClosest_121 (by decide) (fun q => ?_) (fun q => ?_)
    · have h := ite_f q h
      refine v_iload C 3 dX7_tellClosest_128 rfl ?_
      obtain rfl := Option.some.inj h
      exact v_iret C dX7_tellClosest_130
    · have h := ite_t q h
      refine v_iload_n C 2 dX7_tellClosest_124 rfl rfl ?_
      refine v_goto C (tgt := 130) dX7_tellClosest_125 (by decide) ?_
      obtain rfl := Option.some.inj h
      exact v_iret C dX7_tellClosest_130
  · have h := ite_t q h
    refine v_iload_n C 1 dX7_tellClosest_115 rfl rfl ?_
    refine v_goto C (tgt := 130) dX7_tellClosest_116 (by decide) ?_
    obtain rfl := Option.some.inj h
    exact v_iret C dX7_tellClosest_130
set_option maxRecDepth 100000 in
set_option maxHeartbeats 4000000 in
theorem r_X7_tellClosest_p10 {p : Program} {l : Launch} {e : Env} {s : State} {m : MethodId} {args : Array Value} {below : List Frame} {meth : Method} {c : Code} {G : GG} {A : Nat → Prop} (C : Cx p s m args meth c G A cX7_tellClosest 8 RX7 wsX7_tellClosest (some .int)) (n : Nat) {z : Int32} : ∀ (t : Nat), ∀ (w : Wd) (a0 : Nat) (a1 : Int32) (a2 : Int32) (a3 : Int32) (a4 : Int32) (a5 : Int32), m_X7_tellClosest_p10 n t w a0 a1 a2 a3 a4 a5 = some z → V p l e { frames := 1, cells := 0, slots := 0, locals := 25 } s m args below meth c G A 8 10 [(0, .ref a0), (1, .int a1), (2, .int a2), (3, .int a3), (4, .int a4), (5, .int a5)] [] w (some (.int z)) w := by
  intro t
  induction t with
  | zero =>
    intro w a0 a1 a2 a3 a4 a5 h
    rw [m_X7_tellClosest_p10] at h
    cases h
  | succ t ih =>
    intro w a0 a1 a2 a3 a4 a5 h
    rw [m_X7_tellClosest_p10] at h
    refine v_iload C 5 dX7_tellClosest_10 rfl ?_
    refine v_bipush C (v := 24) dX7_tellClosest_12 (by decide) ?_
    refine v_icmp_ge C (tgt := 111) dX7_tellClosest_14 (by decide) (fun q => ?_) (fun q => ?_)
    · have h := ite_t q h
      refine v_sub [1, 2, 3, 4] rfl ?_
      exact r_X7_tellClosest_p111 C n _ _ _ _ _ h
    · have h := ite_f q h
      refine v_iload C 5 dX7_tellClosest_17 rfl ?_
      refine v_iconst C (v := 1) dX7_tellClosest_19 (by decide) ?_
      refine v_iadd C dX7_tellClosest_20 ?_
      refine v_istore C (lv' := [(6, .int (a5 + 1)), (0, .ref a0), (1, .int a1), (2, .int a2), (3, .int a3), (4, .int a4), (5, .int a5)]) dX7_tellClosest_21 (by decide) rfl ?_
      refine v_sub [1, 2, 3, 4, 5, 6, 0] rfl ?_
      exact r_X7_tellClosest_p23 C n ih n _ _ _ _ _ _ _ _ h
set_option maxRecDepth 100000 in
set_option maxHeartbeats 4000000 in
theorem r_X7_tellClosest {l : Launch} {G : GG} {A : Nat → Prop} {n : Nat} {w : Wd} {this : Nat} {a1 : Int32} {z : Int32} (h : m_X7_tellClosest n w this a1 = some z) : Con l yX7_tellClosest wsX7_tellClosest { frames := 1, cells := 0, slots := 0, locals := 25 } G A [.ref this, .int a1] w (some (.int z)) w := by
  refine Con.of (own := RX7) (cc := cX7_tellClosest) (maxL := 8) (ret := (some .int)) rfl (by decide) rfl (Nat.le_of_ble_eq_true rfl) ?_
  intro p e s m args below meth c C
  show V p l e { frames := 1, cells := 0, slots := 0, locals := 25 } s m args below meth c G A 8 0 [(0, .ref this), (1, .int a1)] [] w (some (.int z)) w
  unfold m_X7_tellClosest at h
  refine v_iconst C (v := (-1)) dX7_tellClosest_0 (by decide) ?_
  refine v_istore_n C (lv' := [(2, .int (-1)), (0, .ref this), (1, .int a1)]) dX7_tellClosest_1 rfl (by decide) rfl ?_
  refine v_iconst C (v := (-1)) dX7_tellClosest_2 (by decide) ?_
  refine v_istore_n C (lv' := [(3, .int (-1)), (2, .int (-1)), (0, .ref this), (1, .int a1)]) dX7_tellClosest_3 rfl (by decide) rfl ?_
  refine v_iconst C (v := (-1)) dX7_tellClosest_4 (by decide) ?_
  refine v_istore C (lv' := [(4, .int (-1)), (3, .int (-1)), (2, .int (-1)), (0, .ref this), (1, .int a1)]) dX7_tellClosest_5 (by decide) rfl ?_
  refine v_iconst C (v := 0) dX7_tellClosest_7 (by decide) ?_
  refine v_at (pc' := 8) rfl ?_
  refine v_istore C (lv' := [(5, .int 0), (4, .int (-1)), (3, .int (-1)), (2, .int (-1)), (0, .ref this), (1, .int a1)]) dX7_tellClosest_8 (by decide) rfl ?_
  refine v_sub [4, 5, 3, 2, 1, 0] rfl ?_
  exact r_X7_tellClosest_p10 C n n _ _ _ _ _ _ _ h
theorem hV_X7_tellClosest : yX7_tellClosest.cls = RX7 ∧ yX7_tellClosest.cls ≠ "java/lang/invoke/MethodHandle" ∧ yX7_tellClosest.cls ≠ "java/lang/invoke/VarHandle" ∧ (parseMethodDescriptor yX7_tellClosest.desc).map (fun d => d.parameters.length) = some 1 := by decide +kernel
set_option maxRecDepth 100000 in
set_option maxHeartbeats 4000000 in
theorem r_X7_closest {l : Launch} {G : GG} {A : Nat → Prop} {n : Nat} {w : Wd} {this : Nat} {a1 : Int32} {z : (Int32 × Wd)} (h : m_X7_closest n w this a1 = some z) : Con l yX7_closest wsX7_closest { frames := 2, cells := 0, slots := 0, locals := 52 } G A [.ref this, .int a1] w (some (.int z.1)) z.2 := by
  refine Con.of (own := RX7) (cc := cX7_closest) (maxL := 2) (ret := (some .int)) rfl (by decide) rfl (Nat.le_of_ble_eq_true rfl) ?_
  intro p e s m args below meth c C
  show V p l e { frames := 2, cells := 0, slots := 0, locals := 52 } s m args below meth c G A 2 0 [(0, .ref this), (1, .int a1)] [] w (some (.int z.1)) z.2
  unfold m_X7_closest at h
  refine v_aload_n C 0 dX7_closest_0 rfl rfl ?_
  refine v_iload_n C 1 dX7_closest_1 rfl rfl ?_
  refine v_iconst C (v := 0) dX7_closest_2 (by decide) ?_
  refine v_iconst C (v := 2) dX7_closest_3 (by decide) ?_
  refine v_callSi C (av := [.int a1, .int 0, .int 2]) (rest := [.ref this]) gX7_closest_X7_in rfl ⟨rfl, rfl⟩ hS_X7_in ⟨(Nat.le_of_ble_eq_true rfl), (Nat.le_of_ble_eq_true rfl)⟩ (r_X7_in (A := A) rfl) rfl rfl (Nat.le_of_ble_eq_true rfl) dX7_closest_4 ?_
  refine v_if_eq C (tgt := 14) dX7_closest_7 (by decide) (fun q => ?_) (fun q => ?_)
  · have h := ite_t q h
    refine v_iconst C (v := 1) dX7_closest_14 (by decide) ?_
    obtain ⟨u1, e_u1, h⟩ := bnd h
    obtain ⟨z2, e_z2, h⟩ := bnd h
    refine v_callVi C (ci := 6) (av := [.int 1]) (rest := []) rfl gX7_closest_X7_refused rfl ⟨rfl, rfl⟩ hV_X7_refused ⟨(Nat.le_of_ble_eq_true rfl), (Nat.le_of_ble_eq_true rfl)⟩ e_u1 (r_X7_refused (A := A) e_z2) rfl rfl (Nat.le_of_ble_eq_true rfl) dX7_closest_15 ?_
    refine v_if_eq C (tgt := 25) dX7_closest_18 (by decide) (fun q => ?_) (fun q => ?_)
    · have h := ite_t q h
      refine v_aload_n C 0 dX7_closest_25 rfl rfl ?_
      refine v_iload_n C 1 dX7_closest_26 rfl rfl ?_
      obtain ⟨u3, e_u3, h⟩ := bnd h
      obtain ⟨x4, e_x4, h⟩ := bnd h
      refine v_callVi C (ci := 6) (av := [.int a1]) (rest := []) rfl gX7_closest_X7_tellClosest rfl ⟨rfl, rfl⟩ hV_X7_tellClosest ⟨(Nat.le_of_ble_eq_true rfl), (Nat.le_of_ble_eq_true rfl)⟩ e_u3 (r_X7_tellClosest (A := A) e_x4) rfl rfl (Nat.le_of_ble_eq_true rfl) dX7_closest_27 ?_
      obtain rfl := Option.some.inj h
      exact v_iret C dX7_closest_30
    · have h := ite_f q h
      refine v_iconst C (v := 0) dX7_closest_21 (by decide) ?_
      refine v_goto C (tgt := 30) dX7_closest_22 (by decide) ?_
      obtain rfl := Option.some.inj h
      exact v_iret C dX7_closest_30
  · have h := ite_f q h
    refine v_iconst C (v := 0) dX7_closest_10 (by decide) ?_
    refine v_goto C (tgt := 15) dX7_closest_11 (by decide) ?_
    obtain ⟨u5, e_u5, h⟩ := bnd h
    obtain ⟨z6, e_z6, h⟩ := bnd h
    refine v_callVi C (ci := 6) (av := [.int 0]) (rest := []) rfl gX7_closest_X7_refused rfl ⟨rfl, rfl⟩ hV_X7_refused ⟨(Nat.le_of_ble_eq_true rfl), (Nat.le_of_ble_eq_true rfl)⟩ e_u5 (r_X7_refused (A := A) e_z6) rfl rfl (Nat.le_of_ble_eq_true rfl) dX7_closest_15 ?_
    refine v_if_eq C (tgt := 25) dX7_closest_18 (by decide) (fun q => ?_) (fun q => ?_)
    · have h := ite_t q h
      refine v_aload_n C 0 dX7_closest_25 rfl rfl ?_
      refine v_iload_n C 1 dX7_closest_26 rfl rfl ?_
      obtain ⟨u7, e_u7, h⟩ := bnd h
      obtain ⟨x8, e_x8, h⟩ := bnd h
      refine v_callVi C (ci := 6) (av := [.int a1]) (rest := []) rfl gX7_closest_X7_tellClosest rfl ⟨rfl, rfl⟩ hV_X7_tellClosest ⟨(Nat.le_of_ble_eq_true rfl), (Nat.le_of_ble_eq_true rfl)⟩ e_u7 (r_X7_tellClosest (A := A) e_x8) rfl rfl (Nat.le_of_ble_eq_true rfl) dX7_closest_27 ?_
      obtain rfl := Option.some.inj h
      exact v_iret C dX7_closest_30
    · have h := ite_f q h
      refine v_iconst C (v := 0) dX7_closest_21 (by decide) ?_
      refine v_goto C (tgt := 30) dX7_closest_22 (by decide) ?_
      obtain rfl := Option.some.inj h
      exact v_iret C dX7_closest_30
theorem fX7_type_253 : Cond.fieldLink RX7 253 (TX7 6).1 (TX7 6).2.1 (TX7 6).2.2.1 ∈ wsX7_type := by decide +kernel
theorem inX7_type_X7 : ∀ x ∈ u_ws RX7 TX7 20, x ∈ wsX7_type := by decide +kernel
theorem fX7_type_19 : Cond.fieldLink RX7 19 (TX7 5).1 (TX7 5).2.1 (TX7 5).2.2.1 ∈ wsX7_type := by decide +kernel
set_option maxRecDepth 100000 in
set_option maxHeartbeats 4000000 in
theorem r_X7_type {l : Launch} {G : GG} {A : Nat → Prop} {n : Nat} {w : Wd} {this : Nat} {a1 : Int32} {z : (Int32 × Wd)} (h : m_X7_type n w this a1 = some z) : Con l yX7_type wsX7_type { frames := 1, cells := 0, slots := 0, locals := 22 } G A [.ref this, .int a1] w (some (.int z.1)) z.2 := by
  refine Con.of (own := RX7) (cc := cX7_type) (maxL := 2) (ret := (some .int)) rfl (by decide) rfl (Nat.le_of_ble_eq_true rfl) ?_
  intro p e s m args below meth c C
  show V p l e { frames := 1, cells := 0, slots := 0, locals := 22 } s m args below meth c G A 2 0 [(0, .ref this), (1, .int a1)] [] w (some (.int z.1)) z.2
  unfold m_X7_type at h
  refine v_aload_n C 0 dX7_type_0 rfl rfl ?_
  refine v_iload_n C 1 dX7_type_1 rfl rfl ?_
  refine v_iconst C (v := 0) dX7_type_2 (by decide) ?_
  refine v_bipush C (v := 127) dX7_type_3 (by decide) ?_
  refine v_callSi C (av := [.int a1, .int 0, .int 127]) (rest := [.ref this]) gX7_type_X7_in rfl ⟨rfl, rfl⟩ hS_X7_in ⟨(Nat.le_of_ble_eq_true rfl), (Nat.le_of_ble_eq_true rfl)⟩ (r_X7_in (A := A) rfl) rfl rfl (Nat.le_of_ble_eq_true rfl) dX7_type_5 ?_
  refine v_if_ne C (tgt := 15) dX7_type_8 (by decide) (fun q => ?_) (fun q => ?_)
  · have h := ite_f q h
    refine v_aload_n C 0 dX7_type_15 rfl rfl ?_
    obtain ⟨x1, e_x1, h⟩ := bnd h
    refine v_getf C (ci := 6) (k := 6) rfl inX7_type_X7 (by decide) fX7_type_253 dX7_type_16 (gfI_e e_x1) ?_
    refine v_bipush C (v := 120) dX7_type_19 (by decide) ?_
    refine v_icmp_ne C (tgt := 28) dX7_type_21 (by decide) (fun q => ?_) (fun q => ?_)
    · have h := ite_f q h
      refine v_iconst C (v := 0) dX7_type_28 (by decide) ?_
      obtain ⟨u2, e_u2, h⟩ := bnd h
      obtain ⟨z3, e_z3, h⟩ := bnd h
      refine v_callVi C (ci := 6) (av := [.int 0]) (rest := []) rfl gX7_type_X7_refused rfl ⟨rfl, rfl⟩ hV_X7_refused ⟨(Nat.le_of_ble_eq_true rfl), (Nat.le_of_ble_eq_true rfl)⟩ e_u2 (r_X7_refused (A := A) e_z3) rfl rfl (Nat.le_of_ble_eq_true rfl) dX7_type_29 ?_
      refine v_if_eq C (tgt := 37) dX7_type_32 (by decide) (fun q => ?_) (fun q => ?_)
      · have h := ite_t q h
        refine v_aload_n C 0 dX7_type_37 rfl rfl ?_
        obtain ⟨q4, e_q4, h⟩ := bnd h
        refine v_getf C (ci := 6) (k := 5) rfl inX7_type_X7 (by decide) fX7_type_19 dX7_type_38 (gfR_e e_q4) ?_
        refine v_aload_n C 0 dX7_type_41 rfl rfl ?_
        obtain ⟨x5, e_x5, h⟩ := bnd h
        refine v_getf C (ci := 6) (k := 6) rfl inX7_type_X7 (by decide) fX7_type_253 dX7_type_42 (gfI_e e_x5) ?_
        refine v_iload_n C 1 dX7_type_45 rfl rfl ?_
        obtain ⟨w6, e_w6, h⟩ := bnd h
        refine v_iast C dX7_type_46 e_w6 ?_
        refine v_aload_n C 0 dX7_type_47 rfl rfl ?_
        refine v_at (pc' := 48) rfl ?_
        refine v_dup C dX7_type_48 rfl ?_
        obtain ⟨x7, e_x7, h⟩ := bnd h
        refine v_getf C (ci := 6) (k := 6) rfl inX7_type_X7 (by decide) fX7_type_253 dX7_type_49 (gfI_e e_x7) ?_
        refine v_iconst C (v := 1) dX7_type_52 (by decide) ?_
        refine v_iadd C dX7_type_53 ?_
        obtain ⟨w8, e_w8, h⟩ := bnd h
        refine v_putf C (ci := 6) (k := 6) rfl inX7_type_X7 tyX7_ok nmX7 (by decide) fX7_type_253 rfl (tyX7_ok 6 (by decide)) rfl rfl dX7_type_54 e_w8 ?_
        refine v_aload_n C 0 dX7_type_57 rfl rfl ?_
        obtain ⟨x9, e_x9, h⟩ := bnd h
        refine v_getf C (ci := 6) (k := 6) rfl inX7_type_X7 (by decide) fX7_type_253 dX7_type_58 (gfI_e e_x9) ?_
        obtain rfl := Option.some.inj h
        exact v_iret C dX7_type_61
      · have h := ite_f q h
        refine v_iconst C (v := 0) dX7_type_35 (by decide) ?_
        obtain rfl := Option.some.inj h
        exact v_iret C dX7_type_36
    · have h := ite_t q h
      refine v_iconst C (v := 2) dX7_type_24 (by decide) ?_
      refine v_goto C (tgt := 29) dX7_type_25 (by decide) ?_
      obtain ⟨u10, e_u10, h⟩ := bnd h
      obtain ⟨z11, e_z11, h⟩ := bnd h
      refine v_callVi C (ci := 6) (av := [.int 2]) (rest := []) rfl gX7_type_X7_refused rfl ⟨rfl, rfl⟩ hV_X7_refused ⟨(Nat.le_of_ble_eq_true rfl), (Nat.le_of_ble_eq_true rfl)⟩ e_u10 (r_X7_refused (A := A) e_z11) rfl rfl (Nat.le_of_ble_eq_true rfl) dX7_type_29 ?_
      refine v_if_eq C (tgt := 37) dX7_type_32 (by decide) (fun q => ?_) (fun q => ?_)
      · have h := ite_t q h
        refine v_aload_n C 0 dX7_type_37 rfl rfl ?_
        obtain ⟨q12, e_q12, h⟩ := bnd h
        refine v_getf C (ci := 6) (k := 5) rfl inX7_type_X7 (by decide) fX7_type_19 dX7_type_38 (gfR_e e_q12) ?_
        refine v_aload_n C 0 dX7_type_41 rfl rfl ?_
        obtain ⟨x13, e_x13, h⟩ := bnd h
        refine v_getf C (ci := 6) (k := 6) rfl inX7_type_X7 (by decide) fX7_type_253 dX7_type_42 (gfI_e e_x13) ?_
        refine v_iload_n C 1 dX7_type_45 rfl rfl ?_
        obtain ⟨w14, e_w14, h⟩ := bnd h
        refine v_iast C dX7_type_46 e_w14 ?_
        refine v_aload_n C 0 dX7_type_47 rfl rfl ?_
        refine v_at (pc' := 48) rfl ?_
        refine v_dup C dX7_type_48 rfl ?_
        obtain ⟨x15, e_x15, h⟩ := bnd h
        refine v_getf C (ci := 6) (k := 6) rfl inX7_type_X7 (by decide) fX7_type_253 dX7_type_49 (gfI_e e_x15) ?_
        refine v_iconst C (v := 1) dX7_type_52 (by decide) ?_
        refine v_iadd C dX7_type_53 ?_
        obtain ⟨w16, e_w16, h⟩ := bnd h
        refine v_putf C (ci := 6) (k := 6) rfl inX7_type_X7 tyX7_ok nmX7 (by decide) fX7_type_253 rfl (tyX7_ok 6 (by decide)) rfl rfl dX7_type_54 e_w16 ?_
        refine v_aload_n C 0 dX7_type_57 rfl rfl ?_
        obtain ⟨x17, e_x17, h⟩ := bnd h
        refine v_getf C (ci := 6) (k := 6) rfl inX7_type_X7 (by decide) fX7_type_253 dX7_type_58 (gfI_e e_x17) ?_
        obtain rfl := Option.some.inj h
        exact v_iret C dX7_type_61
      · have h := ite_f q h
        refine v_iconst C (v := 0) dX7_type_35 (by decide) ?_
        obtain rfl := Option.some.inj h
        exact v_iret C dX7_type_36
  · have h := ite_t q h
    refine v_iconst C (v := 1) dX7_type_11 (by decide) ?_
    refine v_goto C (tgt := 29) dX7_type_12 (by decide) ?_
    obtain ⟨u18, e_u18, h⟩ := bnd h
    obtain ⟨z19, e_z19, h⟩ := bnd h
    refine v_callVi C (ci := 6) (av := [.int 1]) (rest := []) rfl gX7_type_X7_refused rfl ⟨rfl, rfl⟩ hV_X7_refused ⟨(Nat.le_of_ble_eq_true rfl), (Nat.le_of_ble_eq_true rfl)⟩ e_u18 (r_X7_refused (A := A) e_z19) rfl rfl (Nat.le_of_ble_eq_true rfl) dX7_type_29 ?_
    refine v_if_eq C (tgt := 37) dX7_type_32 (by decide) (fun q => ?_) (fun q => ?_)
    · have h := ite_t q h
      refine v_aload_n C 0 dX7_type_37 rfl rfl ?_
      obtain ⟨q20, e_q20, h⟩ := bnd h
      refine v_getf C (ci := 6) (k := 5) rfl inX7_type_X7 (by decide) fX7_type_19 dX7_type_38 (gfR_e e_q20) ?_
      refine v_aload_n C 0 dX7_type_41 rfl rfl ?_
      obtain ⟨x21, e_x21, h⟩ := bnd h
      refine v_getf C (ci := 6) (k := 6) rfl inX7_type_X7 (by decide) fX7_type_253 dX7_type_42 (gfI_e e_x21) ?_
      refine v_iload_n C 1 dX7_type_45 rfl rfl ?_
      obtain ⟨w22, e_w22, h⟩ := bnd h
      refine v_iast C dX7_type_46 e_w22 ?_
      refine v_aload_n C 0 dX7_type_47 rfl rfl ?_
      refine v_at (pc' := 48) rfl ?_
      refine v_dup C dX7_type_48 rfl ?_
      obtain ⟨x23, e_x23, h⟩ := bnd h
      refine v_getf C (ci := 6) (k := 6) rfl inX7_type_X7 (by decide) fX7_type_253 dX7_type_49 (gfI_e e_x23) ?_
      refine v_iconst C (v := 1) dX7_type_52 (by decide) ?_
      refine v_iadd C dX7_type_53 ?_
      obtain ⟨w24, e_w24, h⟩ := bnd h
      refine v_putf C (ci := 6) (k := 6) rfl inX7_type_X7 tyX7_ok nmX7 (by decide) fX7_type_253 rfl (tyX7_ok 6 (by decide)) rfl rfl dX7_type_54 e_w24 ?_
      refine v_aload_n C 0 dX7_type_57 rfl rfl ?_
      obtain ⟨x25, e_x25, h⟩ := bnd h
      refine v_getf C (ci := 6) (k := 6) rfl inX7_type_X7 (by decide) fX7_type_253 dX7_type_58 (gfI_e e_x25) ?_
      obtain rfl := Option.some.inj h
      exact v_iret C dX7_type_61
    · have h := ite_f q h
      refine v_iconst C (v := 0) dX7_type_35 (by decide) ?_
      obtain rfl := Option.some.inj h
      exact v_iret C dX7_type_36
theorem fX7_clearScript_37 : Cond.fieldLink RX7 37 (TX7 4).1 (TX7 4).2.1 (TX7 4).2.2.1 ∈ wsX7_clearScript := by decide +kernel
theorem inX7_clearScript_X7 : ∀ x ∈ u_ws RX7 TX7 20, x ∈ wsX7_clearScript := by decide +kernel
theorem fX7_clearScript_253 : Cond.fieldLink RX7 253 (TX7 6).1 (TX7 6).2.1 (TX7 6).2.2.1 ∈ wsX7_clearScript := by decide +kernel
set_option maxRecDepth 100000 in
set_option maxHeartbeats 4000000 in
theorem r_X7_clearScript {l : Launch} {G : GG} {A : Nat → Prop} {n : Nat} {w : Wd} {this : Nat} {z : (Int32 × Wd)} (h : m_X7_clearScript n w this = some z) : Con l yX7_clearScript wsX7_clearScript { frames := 0, cells := 0, slots := 0, locals := 0 } G A [.ref this] w (some (.int z.1)) z.2 := by
  refine Con.of (own := RX7) (cc := cX7_clearScript) (maxL := 2) (ret := (some .int)) rfl (by decide) rfl (Nat.le_of_ble_eq_true rfl) ?_
  intro p e s m args below meth c C
  show V p l e { frames := 0, cells := 0, slots := 0, locals := 0 } s m args below meth c G A 2 0 [(0, .ref this)] [] w (some (.int z.1)) z.2
  unfold m_X7_clearScript at h
  refine v_aload_n C 0 dX7_clearScript_0 rfl rfl ?_
  refine v_iconst C (v := 0) dX7_clearScript_1 (by decide) ?_
  obtain ⟨w1, e_w1, h⟩ := bnd h
  refine v_putf C (ci := 6) (k := 4) rfl inX7_clearScript_X7 tyX7_ok nmX7 (by decide) fX7_clearScript_37 rfl (tyX7_ok 4 (by decide)) rfl rfl dX7_clearScript_2 e_w1 ?_
  refine v_aload_n C 0 dX7_clearScript_5 rfl rfl ?_
  obtain ⟨x2, e_x2, h⟩ := bnd h
  refine v_getf C (ci := 6) (k := 6) rfl inX7_clearScript_X7 (by decide) fX7_clearScript_253 dX7_clearScript_6 (gfI_e e_x2) ?_
  refine v_istore_n C (lv' := [(1, .int x2), (0, .ref this)]) dX7_clearScript_9 rfl (by decide) rfl ?_
  refine v_aload_n C 1 dX7_clearScript_10 rfl rfl ?_
  refine v_at (pc' := 11) rfl ?_
  refine v_iconst C (v := 0) dX7_clearScript_11 (by decide) ?_
  obtain ⟨w3, e_w3, h⟩ := bnd h
  refine v_putf C (ci := 6) (k := 6) rfl inX7_clearScript_X7 tyX7_ok nmX7 (by decide) fX7_clearScript_253 rfl (tyX7_ok 6 (by decide)) rfl rfl dX7_clearScript_12 e_w3 ?_
  refine v_iload_n C 0 dX7_clearScript_15 rfl rfl ?_
  obtain rfl := Option.some.inj h
  exact v_iret C dX7_clearScript_16
theorem fX7_isAt_256 : Cond.fieldLink RX7 256 (TX7 16).1 (TX7 16).2.1 (TX7 16).2.2.1 ∈ wsX7_isAt := by decide +kernel
theorem inX7_isAt_X7 : ∀ x ∈ u_ws RX7 TX7 20, x ∈ wsX7_isAt := by decide +kernel
theorem fX7_isAt_253 : Cond.fieldLink RX7 253 (TX7 6).1 (TX7 6).2.1 (TX7 6).2.2.1 ∈ wsX7_isAt := by decide +kernel
theorem fX7_isAt_19 : Cond.fieldLink RX7 19 (TX7 5).1 (TX7 5).2.1 (TX7 5).2.2.1 ∈ wsX7_isAt := by decide +kernel
set_option maxRecDepth 100000 in
set_option maxHeartbeats 4000000 in
theorem r_X7_isAt {l : Launch} {G : GG} {A : Nat → Prop} {n : Nat} {w : Wd} {this : Nat} {a1 : Int32} {a2 : Int32} {z : Int32} (h : m_X7_isAt n w this a1 a2 = some z) : Con l yX7_isAt wsX7_isAt { frames := 1, cells := 0, slots := 0, locals := 22 } G A [.ref this, .int a1, .int a2] w (some (.int z)) w := by
  refine Con.of (own := RX7) (cc := cX7_isAt) (maxL := 3) (ret := (some .boolean)) rfl (by decide) rfl (Nat.le_of_ble_eq_true rfl) ?_
  intro p e s m args below meth c C
  show V p l e { frames := 1, cells := 0, slots := 0, locals := 22 } s m args below meth c G A 3 0 [(0, .ref this), (1, .int a1), (2, .int a2)] [] w (some (.int z)) w
  unfold m_X7_isAt at h
  refine v_aload_n C 0 dX7_isAt_0 rfl rfl ?_
  obtain ⟨x1, e_x1, h⟩ := bnd h
  refine v_getf C (ci := 6) (k := 16) rfl inX7_isAt_X7 (by decide) fX7_isAt_256 dX7_isAt_1 (gfI_e e_x1) ?_
  refine v_aload_n C 0 dX7_isAt_4 rfl rfl ?_
  obtain ⟨x2, e_x2, h⟩ := bnd h
  refine v_getf C (ci := 6) (k := 6) rfl inX7_isAt_X7 (by decide) fX7_isAt_253 dX7_isAt_5 (gfI_e e_x2) ?_
  refine v_icmp_ge C (tgt := 32) dX7_isAt_8 (by decide) (fun q => ?_) (fun q => ?_)
  · have h := ite_t q h
    refine v_iconst C (v := 0) dX7_isAt_32 (by decide) ?_
    obtain rfl := Option.some.inj h
    exact v_zret C dX7_isAt_33 bo_0
  · have h := ite_f q h
    refine v_aload_n C 0 dX7_isAt_11 rfl rfl ?_
    obtain ⟨q3, e_q3, h⟩ := bnd h
    refine v_getf C (ci := 6) (k := 5) rfl inX7_isAt_X7 (by decide) fX7_isAt_19 dX7_isAt_12 (gfR_e e_q3) ?_
    refine v_aload_n C 0 dX7_isAt_15 rfl rfl ?_
    obtain ⟨x4, e_x4, h⟩ := bnd h
    refine v_getf C (ci := 6) (k := 16) rfl inX7_isAt_X7 (by decide) fX7_isAt_256 dX7_isAt_16 (gfI_e e_x4) ?_
    obtain ⟨x5, e_x5, h⟩ := bnd h
    refine v_iald C dX7_isAt_19 e_x5 ?_
    refine v_iload_n C 1 dX7_isAt_20 rfl rfl ?_
    refine v_iload_n C 2 dX7_isAt_21 rfl rfl ?_
    refine v_at (pc' := 22) rfl ?_
    refine v_callSi C (av := [.int x5, .int a1, .int a2]) (rest := []) gX7_isAt_X7_in rfl ⟨rfl, rfl⟩ hS_X7_in ⟨(Nat.le_of_ble_eq_true rfl), (Nat.le_of_ble_eq_true rfl)⟩ (r_X7_in (A := A) rfl) rfl rfl (Nat.le_of_ble_eq_true rfl) dX7_isAt_22 ?_
    refine v_if_eq C (tgt := 32) dX7_isAt_25 (by decide) (fun q => ?_) (fun q => ?_)
    · have h := ite_t q h
      refine v_iconst C (v := 0) dX7_isAt_32 (by decide) ?_
      obtain rfl := Option.some.inj h
      exact v_zret C dX7_isAt_33 bo_0
    · have h := ite_f q h
      refine v_iconst C (v := 1) dX7_isAt_28 (by decide) ?_
      refine v_goto C (tgt := 33) dX7_isAt_29 (by decide) ?_
      obtain rfl := Option.some.inj h
      exact v_zret C dX7_isAt_33 bo_1
theorem hV_X7_isAt : yX7_isAt.cls = RX7 ∧ yX7_isAt.cls ≠ "java/lang/invoke/MethodHandle" ∧ yX7_isAt.cls ≠ "java/lang/invoke/VarHandle" ∧ (parseMethodDescriptor yX7_isAt.desc).map (fun d => d.parameters.length) = some 2 := by decide +kernel
theorem fX7_skips_256 : Cond.fieldLink RX7 256 (TX7 16).1 (TX7 16).2.1 (TX7 16).2.2.1 ∈ wsX7_skips := by decide +kernel
theorem inX7_skips_X7 : ∀ x ∈ u_ws RX7 TX7 20, x ∈ wsX7_skips := by decide +kernel
set_option maxRecDepth 100000 in
set_option maxHeartbeats 4000000 in
theorem r_X7_skips_p9 {p : Program} {l : Launch} {e : Env} {s : State} {m : MethodId} {args : Array Value} {below : List Frame} {meth : Method} {c : Code} {G : GG} {A : Nat → Prop} (C : Cx p s m args meth c G A cX7_skips 2 RX7 wsX7_skips (some .boolean)) (n : Nat) {z : (Int32 × Wd)} : ∀ (t : Nat), ∀ (w : Wd) (a0 : Nat) (a1 : Int32), m_X7_skips_p9 n t w a0 a1 = some z → V p l e { frames := 2, cells := 0, slots := 0, locals := 44 } s m args below meth c G A 2 9 [(0, .ref a0), (1, .int a1)] [] w (some (.int z.1)) z.2 := by
  intro t
  induction t with
  | zero =>
    intro w a0 a1 h
    rw [m_X7_skips_p9] at h
    cases h
  | succ t ih =>
    intro w a0 a1 h
    rw [m_X7_skips_p9] at h
    refine v_aload_n C 0 dX7_skips_9 rfl rfl ?_
    refine v_bipush C (v := 32) dX7_skips_10 (by decide) ?_
    refine v_bipush C (v := 32) dX7_skips_12 (by decide) ?_
    obtain ⟨u1, e_u1, h⟩ := bnd h
    obtain ⟨x2, e_x2, h⟩ := bnd h
    refine v_callVi C (ci := 6) (av := [.int 32, .int 32]) (rest := []) rfl gX7_skips_X7_isAt rfl ⟨rfl, rfl⟩ hV_X7_isAt ⟨(Nat.le_of_ble_eq_true rfl), (Nat.le_of_ble_eq_true rfl)⟩ e_u1 (r_X7_isAt (A := A) e_x2) rfl rfl (Nat.le_of_ble_eq_true rfl) dX7_skips_14 ?_
    refine v_if_eq C (tgt := 33) dX7_skips_17 (by decide) (fun q => ?_) (fun q => ?_)
    · have h := ite_t q h
      refine v_iload_n C 1 dX7_skips_33 rfl rfl ?_
      obtain ⟨u3, e_u3, h⟩ := bnd h
      obtain rfl := Option.some.inj h
      exact v_zret C dX7_skips_34 (bck_e e_u3)
    · have h := ite_f q h
      refine v_aload_n C 0 dX7_skips_20 rfl rfl ?_
      refine v_dup C dX7_skips_21 rfl ?_
      obtain ⟨x4, e_x4, h⟩ := bnd h
      refine v_getf C (ci := 6) (k := 16) rfl inX7_skips_X7 (by decide) fX7_skips_256 dX7_skips_22 (gfI_e e_x4) ?_
      refine v_iconst C (v := 1) dX7_skips_25 (by decide) ?_
      refine v_iadd C dX7_skips_26 ?_
      obtain ⟨w5, e_w5, h⟩ := bnd h
      refine v_putf C (ci := 6) (k := 16) rfl inX7_skips_X7 tyX7_ok nmX7 (by decide) fX7_skips_256 rfl (tyX7_ok 16 (by decide)) rfl rfl dX7_skips_27 e_w5 ?_
      refine v_goto C (tgt := 9) dX7_skips_30 (by decide) ?_
      exact ih _ _ _ h
set_option maxRecDepth 100000 in
set_option maxHeartbeats 4000000 in
theorem r_X7_skips {l : Launch} {G : GG} {A : Nat → Prop} {n : Nat} {w : Wd} {this : Nat} {z : (Int32 × Wd)} (h : m_X7_skips n w this = some z) : Con l yX7_skips wsX7_skips { frames := 2, cells := 0, slots := 0, locals := 44 } G A [.ref this] w (some (.int z.1)) z.2 := by
  refine Con.of (own := RX7) (cc := cX7_skips) (maxL := 2) (ret := (some .boolean)) rfl (by decide) rfl (Nat.le_of_ble_eq_true rfl) ?_
  intro p e s m args below meth c C
  show V p l e { frames := 2, cells := 0, slots := 0, locals := 44 } s m args below meth c G A 2 0 [(0, .ref this)] [] w (some (.int z.1)) z.2
  unfold m_X7_skips at h
  refine v_aload_n C 0 dX7_skips_0 rfl rfl ?_
  refine v_bipush C (v := 32) dX7_skips_1 (by decide) ?_
  refine v_bipush C (v := 32) dX7_skips_3 (by decide) ?_
  obtain ⟨u1, e_u1, h⟩ := bnd h
  obtain ⟨x2, e_x2, h⟩ := bnd h
  refine v_callVi C (ci := 6) (av := [.int 32, .int 32]) (rest := []) rfl gX7_skips_X7_isAt rfl ⟨rfl, rfl⟩ hV_X7_isAt ⟨(Nat.le_of_ble_eq_true rfl), (Nat.le_of_ble_eq_true rfl)⟩ e_u1 (r_X7_isAt (A := A) e_x2) rfl rfl (Nat.le_of_ble_eq_true rfl) dX7_skips_5 ?_
  refine v_istore_n C (lv' := [(1, .int x2), (0, .ref this)]) dX7_skips_8 rfl (by decide) rfl ?_
  refine v_sub [1, 0] rfl ?_
  exact r_X7_skips_p9 C n n _ _ _ h
theorem fX7_wordFrom_256 : Cond.fieldLink RX7 256 (TX7 16).1 (TX7 16).2.1 (TX7 16).2.2.1 ∈ wsX7_wordFrom := by decide +kernel
theorem inX7_wordFrom_X7 : ∀ x ∈ u_ws RX7 TX7 20, x ∈ wsX7_wordFrom := by decide +kernel
theorem fX7_wordFrom_19 : Cond.fieldLink RX7 19 (TX7 5).1 (TX7 5).2.1 (TX7 5).2.2.1 ∈ wsX7_wordFrom := by decide +kernel
set_option maxRecDepth 100000 in
set_option maxHeartbeats 4000000 in
theorem r_X7_wordFrom_p49 {p : Program} {l : Launch} {e : Env} {s : State} {m : MethodId} {args : Array Value} {below : List Frame} {meth : Method} {c : Code} {G : GG} {A : Nat → Prop} (C : Cx p s m args meth c G A cX7_wordFrom 4 RX7 wsX7_wordFrom (some .int)) (n : Nat) {z : Int32} : ∀ (w : Wd) (a2 : Int32), m_X7_wordFrom_p49 n w a2 = some z → V p l e { frames := 0, cells := 0, slots := 0, locals := 0 } s m args below meth c G A 4 49 [(2, .int a2)] [] w (some (.int z)) w := by
  intro w a2 h
  unfold m_X7_wordFrom_p49 at h
  refine v_iload_n C 0 dX7_wordFrom_49 rfl rfl ?_
  by_cases q1 : a2 = 841
  · have h := ite_t q1 h
    refine v_lookup C 50 100 dX7_wordFrom_50 (by decide) (by rw [q1]; decide) (by decide) ?_
    refine v_iconst C (v := 1) dX7_wordFrom_100 (by decide) ?_
    obtain rfl := Option.some.inj h
    exact v_iret C dX7_wordFrom_101
  have h := ite_f q1 h
  by_cases q2 : a2 = 92275
  · have h := ite_t q2 h
    refine v_lookup C 54 104 dX7_wordFrom_50 (by decide) (by rw [q2]; decide) (by decide) ?_
    refine v_iconst C (v := 3) dX7_wordFrom_104 (by decide) ?_
    obtain rfl := Option.some.inj h
    exact v_iret C dX7_wordFrom_105
  have h := ite_f q2 h
  by_cases q3 : a2 = 267413
  · have h := ite_t q3 h
    refine v_lookup C 52 102 dX7_wordFrom_50 (by decide) (by rw [q3]; decide) (by decide) ?_
    refine v_iconst C (v := 2) dX7_wordFrom_102 (by decide) ?_
    obtain rfl := Option.some.inj h
    exact v_iret C dX7_wordFrom_103
  have h := ite_f q3 h
  by_cases q4 : a2 = 400313
  · have h := ite_t q4 h
    refine v_lookup C 58 108 dX7_wordFrom_50 (by decide) (by rw [q4]; decide) (by decide) ?_
    refine v_iconst C (v := 5) dX7_wordFrom_108 (by decide) ?_
    obtain rfl := Option.some.inj h
    exact v_iret C dX7_wordFrom_109
  have h := ite_f q4 h
  by_cases q5 : a2 = 10416091
  · have h := ite_t q5 h
    refine v_lookup C 56 106 dX7_wordFrom_50 (by decide) (by rw [q5]; decide) (by decide) ?_
    refine v_iconst C (v := 4) dX7_wordFrom_106 (by decide) ?_
    obtain rfl := Option.some.inj h
    exact v_iret C dX7_wordFrom_107
  have h := ite_f q5 h
  refine v_lookup C 60 110 dX7_wordFrom_50 (by decide) ((lv_osw q1 rfl).trans <| (lv_osw q2 rfl).trans <| (lv_osw q3 rfl).trans <| (lv_osw q4 rfl).trans <| (lv_osw q5 rfl).trans <| rfl) (by decide) ?_
  refine v_iconst C (v := 0) dX7_wordFrom_110 (by decide) ?_
  obtain rfl := Option.some.inj h
  exact v_iret C dX7_wordFrom_111
set_option maxRecDepth 100000 in
set_option maxHeartbeats 4000000 in
theorem r_X7_wordFrom_p4 {p : Program} {l : Launch} {e : Env} {s : State} {m : MethodId} {args : Array Value} {below : List Frame} {meth : Method} {c : Code} {G : GG} {A : Nat → Prop} (C : Cx p s m args meth c G A cX7_wordFrom 4 RX7 wsX7_wordFrom (some .int)) (n : Nat) {z : Int32} : ∀ (t : Nat), ∀ (w : Wd) (a0 : Nat) (a1 : Int32) (a2 : Int32) (a3 : Int32), m_X7_wordFrom_p4 n t w a0 a1 a2 a3 = some z → V p l e { frames := 0, cells := 0, slots := 0, locals := 0 } s m args below meth c G A 4 4 [(0, .ref a0), (1, .int a1), (2, .int a2), (3, .int a3)] [] w (some (.int z)) w := by
  intro t
  induction t with
  | zero =>
    intro w a0 a1 a2 a3 h
    rw [m_X7_wordFrom_p4] at h
    cases h
  | succ t ih =>
    intro w a0 a1 a2 a3 h
    rw [m_X7_wordFrom_p4] at h
    refine v_iload_n C 3 dX7_wordFrom_4 rfl rfl ?_
    refine v_aload_n C 0 dX7_wordFrom_5 rfl rfl ?_
    obtain ⟨x1, e_x1, h⟩ := bnd h
    refine v_getf C (ci := 6) (k := 16) rfl inX7_wordFrom_X7 (by decide) fX7_wordFrom_256 dX7_wordFrom_6 (gfI_e e_x1) ?_
    refine v_icmp_ge C (tgt := 49) dX7_wordFrom_9 (by decide) (fun q => ?_) (fun q => ?_)
    · have h := ite_t q h
      refine v_sub [2] rfl ?_
      exact r_X7_wordFrom_p49 C n _ _ h
    · have h := ite_f q h
      refine v_aload_n C 0 dX7_wordFrom_12 rfl rfl ?_
      obtain ⟨x2, e_x2, h⟩ := bnd h
      refine v_getf C (ci := 6) (k := 16) rfl inX7_wordFrom_X7 (by decide) fX7_wordFrom_256 dX7_wordFrom_13 (gfI_e e_x2) ?_
      refine v_iload_n C 1 dX7_wordFrom_16 rfl rfl ?_
      refine v_isub C dX7_wordFrom_17 ?_
      refine v_iconst C (v := 5) dX7_wordFrom_18 (by decide) ?_
      refine v_icmp_le C (tgt := 26) dX7_wordFrom_19 (by decide) (fun q => ?_) (fun q => ?_)
      · have h := ite_t q h
        refine v_bipush C (v := 27) dX7_wordFrom_26 (by decide) ?_
        refine v_iload_n C 2 dX7_wordFrom_28 rfl rfl ?_
        refine v_imul C dX7_wordFrom_29 ?_
        refine v_aload_n C 0 dX7_wordFrom_30 rfl rfl ?_
        obtain ⟨q3, e_q3, h⟩ := bnd h
        refine v_getf C (ci := 6) (k := 5) rfl inX7_wordFrom_X7 (by decide) fX7_wordFrom_19 dX7_wordFrom_31 (gfR_e e_q3) ?_
        refine v_iload_n C 3 dX7_wordFrom_34 rfl rfl ?_
        obtain ⟨x4, e_x4, h⟩ := bnd h
        refine v_iald C dX7_wordFrom_35 e_x4 ?_
        refine v_at (pc' := 36) rfl ?_
        refine v_iadd C dX7_wordFrom_36 ?_
        refine v_bipush C (v := 97) dX7_wordFrom_37 (by decide) ?_
        refine v_isub C dX7_wordFrom_39 ?_
        refine v_iconst C (v := 1) dX7_wordFrom_40 (by decide) ?_
        refine v_iadd C dX7_wordFrom_41 ?_
        refine v_istore_n C (lv' := [(2, .int ((((27 * a2) + x4) - 97) + 1)), (0, .ref a0), (1, .int a1), (3, .int a3)]) dX7_wordFrom_42 rfl (by decide) rfl ?_
        refine v_iinc C (k := 3) (v := (a3 + 1)) (lv' := [(3, .int (a3 + 1)), (2, .int ((((27 * a2) + x4) - 97) + 1)), (0, .ref a0), (1, .int a1)]) dX7_wordFrom_43 rfl rfl (by decide) rfl ?_
        refine v_goto C (tgt := 4) dX7_wordFrom_46 (by decide) ?_
        refine v_sub [2, 3, 1, 0] rfl ?_
        exact ih _ _ _ _ _ h
      · have h := ite_f q h
        refine v_iconst C (v := 0) dX7_wordFrom_22 (by decide) ?_
        refine v_goto C (tgt := 42) dX7_wordFrom_23 (by decide) ?_
        refine v_istore_n C (lv' := [(2, .int 0), (0, .ref a0), (1, .int a1), (3, .int a3)]) dX7_wordFrom_42 rfl (by decide) rfl ?_
        refine v_iinc C (k := 3) (v := (a3 + 1)) (lv' := [(3, .int (a3 + 1)), (2, .int 0), (0, .ref a0), (1, .int a1)]) dX7_wordFrom_43 rfl rfl (by decide) rfl ?_
        refine v_goto C (tgt := 4) dX7_wordFrom_46 (by decide) ?_
        refine v_sub [2, 3, 1, 0] rfl ?_
        exact ih _ _ _ _ _ h
set_option maxRecDepth 100000 in
set_option maxHeartbeats 4000000 in
theorem r_X7_wordFrom {l : Launch} {G : GG} {A : Nat → Prop} {n : Nat} {w : Wd} {this : Nat} {a1 : Int32} {z : Int32} (h : m_X7_wordFrom n w this a1 = some z) : Con l yX7_wordFrom wsX7_wordFrom { frames := 0, cells := 0, slots := 0, locals := 0 } G A [.ref this, .int a1] w (some (.int z)) w := by
  refine Con.of (own := RX7) (cc := cX7_wordFrom) (maxL := 4) (ret := (some .int)) rfl (by decide) rfl (Nat.le_of_ble_eq_true rfl) ?_
  intro p e s m args below meth c C
  show V p l e { frames := 0, cells := 0, slots := 0, locals := 0 } s m args below meth c G A 4 0 [(0, .ref this), (1, .int a1)] [] w (some (.int z)) w
  unfold m_X7_wordFrom at h
  refine v_iconst C (v := 0) dX7_wordFrom_0 (by decide) ?_
  refine v_istore_n C (lv' := [(2, .int 0), (0, .ref this), (1, .int a1)]) dX7_wordFrom_1 rfl (by decide) rfl ?_
  refine v_iload_n C 2 dX7_wordFrom_2 rfl rfl ?_
  refine v_istore_n C (lv' := [(3, .int a1), (2, .int 0), (0, .ref this), (1, .int a1)]) dX7_wordFrom_3 rfl (by decide) rfl ?_
  refine v_sub [2, 3, 1, 0] rfl ?_
  exact r_X7_wordFrom_p4 C n n _ _ _ _ _ h
theorem fX7_readsNumber_256 : Cond.fieldLink RX7 256 (TX7 16).1 (TX7 16).2.1 (TX7 16).2.2.1 ∈ wsX7_readsNumber := by decide +kernel
theorem inX7_readsNumber_X7 : ∀ x ∈ u_ws RX7 TX7 20, x ∈ wsX7_readsNumber := by decide +kernel
theorem fX7_readsNumber_19 : Cond.fieldLink RX7 19 (TX7 5).1 (TX7 5).2.1 (TX7 5).2.2.1 ∈ wsX7_readsNumber := by decide +kernel
theorem fX7_readsNumber_34 : Cond.fieldLink RX7 34 (TX7 18).1 (TX7 18).2.1 (TX7 18).2.2.1 ∈ wsX7_readsNumber := by decide +kernel
theorem hV_X7_skips : yX7_skips.cls = RX7 ∧ yX7_skips.cls ≠ "java/lang/invoke/MethodHandle" ∧ yX7_skips.cls ≠ "java/lang/invoke/VarHandle" ∧ (parseMethodDescriptor yX7_skips.desc).map (fun d => d.parameters.length) = some 0 := by decide +kernel
set_option maxRecDepth 100000 in
set_option maxHeartbeats 4000000 in
theorem r_X7_readsNumber_p32 {p : Program} {l : Launch} {e : Env} {s : State} {m : MethodId} {args : Array Value} {below : List Frame} {meth : Method} {c : Code} {G : GG} {A : Nat → Prop} (C : Cx p s m args meth c G A cX7_readsNumber 4 RX7 wsX7_readsNumber (some .boolean)) (n : Nat) {z : (Int32 × Wd)} : ∀ (w : Wd) (s0 : Int32) (s1 : Int32) (s2 : Nat) (a0 : Nat) (a1 : Int32) (a2 : Int32), m_X7_readsNumber_p32 n w s0 s1 s2 a0 a1 a2 = some z → V p l e { frames := 3, cells := 0, slots := 0, locals := 65 } s m args below meth c G A 4 32 [(0, .ref a0), (1, .int a1), (2, .int a2)] [.int s0, .int s1, .ref s2] w (some (.int z.1)) z.2 := by
  intro w s0 s1 s2 a0 a1 a2 h
  unfold m_X7_readsNumber_p32 at h
  refine v_iadd C dX7_readsNumber_32 ?_
  obtain ⟨w1, e_w1, h⟩ := bnd h
  refine v_putf C (ci := 6) (k := 16) rfl inX7_readsNumber_X7 tyX7_ok nmX7 (by decide) fX7_readsNumber_256 rfl (tyX7_ok 16 (by decide)) rfl rfl dX7_readsNumber_33 e_w1 ?_
  refine v_aload_n C 0 dX7_readsNumber_36 rfl rfl ?_
  refine v_bipush C (v := 48) dX7_readsNumber_37 (by decide) ?_
  refine v_bipush C (v := 57) dX7_readsNumber_39 (by decide) ?_
  obtain ⟨u2, e_u2, h⟩ := bnd h
  obtain ⟨x3, e_x3, h⟩ := bnd h
  refine v_callVi C (ci := 6) (av := [.int 48, .int 57]) (rest := []) rfl gX7_readsNumber_X7_isAt rfl ⟨rfl, rfl⟩ hV_X7_isAt ⟨(Nat.le_of_ble_eq_true rfl), (Nat.le_of_ble_eq_true rfl)⟩ e_u2 (r_X7_isAt (A := A) e_x3) rfl rfl (Nat.le_of_ble_eq_true rfl) dX7_readsNumber_41 ?_
  refine v_if_ne C (tgt := 49) dX7_readsNumber_44 (by decide) (fun q => ?_) (fun q => ?_)
  · have h := ite_f q h
    refine v_aload_n C 0 dX7_readsNumber_49 rfl rfl ?_
    obtain ⟨q4, e_q4, h⟩ := bnd h
    refine v_getf C (ci := 6) (k := 5) rfl inX7_readsNumber_X7 (by decide) fX7_readsNumber_19 dX7_readsNumber_50 (gfR_e e_q4) ?_
    refine v_aload_n C 0 dX7_readsNumber_53 rfl rfl ?_
    obtain ⟨x5, e_x5, h⟩ := bnd h
    refine v_getf C (ci := 6) (k := 16) rfl inX7_readsNumber_X7 (by decide) fX7_readsNumber_256 dX7_readsNumber_54 (gfI_e e_x5) ?_
    obtain ⟨x6, e_x6, h⟩ := bnd h
    refine v_iald C dX7_readsNumber_57 e_x6 ?_
    refine v_bipush C (v := 48) dX7_readsNumber_58 (by decide) ?_
    refine v_isub C dX7_readsNumber_60 ?_
    refine v_at (pc' := 61) rfl ?_
    refine v_istore_n C (lv' := [(3, .int (x6 - 48)), (0, .ref a0), (1, .int a1), (2, .int a2)]) dX7_readsNumber_61 rfl (by decide) rfl ?_
    refine v_aload_n C 1 dX7_readsNumber_62 rfl rfl ?_
    refine v_dup C dX7_readsNumber_63 rfl ?_
    obtain ⟨x7, e_x7, h⟩ := bnd h
    refine v_getf C (ci := 6) (k := 16) rfl inX7_readsNumber_X7 (by decide) fX7_readsNumber_256 dX7_readsNumber_64 (gfI_e e_x7) ?_
    refine v_iconst C (v := 1) dX7_readsNumber_67 (by decide) ?_
    refine v_iadd C dX7_readsNumber_68 ?_
    obtain ⟨w8, e_w8, h⟩ := bnd h
    refine v_putf C (ci := 6) (k := 16) rfl inX7_readsNumber_X7 tyX7_ok nmX7 (by decide) fX7_readsNumber_256 rfl (tyX7_ok 16 (by decide)) rfl rfl dX7_readsNumber_69 e_w8 ?_
    refine v_aload_n C 1 dX7_readsNumber_72 rfl rfl ?_
    refine v_at (pc' := 73) rfl ?_
    refine v_bipush C (v := 48) dX7_readsNumber_73 (by decide) ?_
    refine v_bipush C (v := 57) dX7_readsNumber_75 (by decide) ?_
    obtain ⟨u9, e_u9, h⟩ := bnd h
    obtain ⟨x10, e_x10, h⟩ := bnd h
    refine v_callVi C (ci := 6) (av := [.int 48, .int 57]) (rest := []) rfl gX7_readsNumber_X7_isAt rfl ⟨rfl, rfl⟩ hV_X7_isAt ⟨(Nat.le_of_ble_eq_true rfl), (Nat.le_of_ble_eq_true rfl)⟩ e_u9 (r_X7_isAt (A := A) e_x10) rfl rfl (Nat.le_of_ble_eq_true rfl) dX7_readsNumber_77 ?_
    refine v_if_eq C (tgt := 111) dX7_readsNumber_80 (by decide) (fun q => ?_) (fun q => ?_)
    · have h := ite_t q h
      refine v_aload_n C 1 dX7_readsNumber_111 rfl rfl ?_
      obtain ⟨q11, e_q11, h⟩ := bnd h
      refine v_getf C (ci := 6) (k := 18) rfl inX7_readsNumber_X7 (by decide) fX7_readsNumber_34 dX7_readsNumber_112 (gfR_e e_q11) ?_
      refine v_iload_n C 2 dX7_readsNumber_115 rfl rfl ?_
      refine v_iload_n C 3 dX7_readsNumber_116 rfl rfl ?_
      refine v_if_eq C (tgt := 125) dX7_readsNumber_117 (by decide) (fun q => ?_) (fun q => ?_)
      · have h := ite_t q h
        refine v_iload_n C 0 dX7_readsNumber_125 rfl rfl ?_
        obtain ⟨w12, e_w12, h⟩ := bnd h
        refine v_iast C dX7_readsNumber_126 e_w12 ?_
        refine v_iconst C (v := 1) dX7_readsNumber_127 (by decide) ?_
        obtain rfl := Option.some.inj h
        exact v_zret C dX7_readsNumber_128 bo_1
      · have h := ite_f q h
        refine v_iload_n C 0 dX7_readsNumber_120 rfl rfl ?_
        refine v_ineg C dX7_readsNumber_121 ?_
        refine v_goto C (tgt := 126) dX7_readsNumber_122 (by decide) ?_
        obtain ⟨w13, e_w13, h⟩ := bnd h
        refine v_iast C dX7_readsNumber_126 e_w13 ?_
        refine v_iconst C (v := 1) dX7_readsNumber_127 (by decide) ?_
        obtain rfl := Option.some.inj h
        exact v_zret C dX7_readsNumber_128 bo_1
    · have h := ite_f q h
      refine v_bipush C (v := 10) dX7_readsNumber_83 (by decide) ?_
      refine v_iload_n C 0 dX7_readsNumber_85 rfl rfl ?_
      refine v_imul C dX7_readsNumber_86 ?_
      refine v_aload_n C 1 dX7_readsNumber_87 rfl rfl ?_
      obtain ⟨q14, e_q14, h⟩ := bnd h
      refine v_getf C (ci := 6) (k := 5) rfl inX7_readsNumber_X7 (by decide) fX7_readsNumber_19 dX7_readsNumber_88 (gfR_e e_q14) ?_
      refine v_aload_n C 1 dX7_readsNumber_91 rfl rfl ?_
      obtain ⟨x15, e_x15, h⟩ := bnd h
      refine v_getf C (ci := 6) (k := 16) rfl inX7_readsNumber_X7 (by decide) fX7_readsNumber_256 dX7_readsNumber_92 (gfI_e e_x15) ?_
      refine v_at (pc' := 95) rfl ?_
      obtain ⟨x16, e_x16, h⟩ := bnd h
      refine v_iald C dX7_readsNumber_95 e_x16 ?_
      refine v_iadd C dX7_readsNumber_96 ?_
      refine v_bipush C (v := 48) dX7_readsNumber_97 (by decide) ?_
      refine v_isub C dX7_readsNumber_99 ?_
      refine v_istore_n C (lv' := [(3, .int (((10 * (x6 - 48)) + x16) - 48)), (0, .ref a0), (1, .int a1), (2, .int a2)]) dX7_readsNumber_100 rfl (by decide) rfl ?_
      refine v_aload_n C 1 dX7_readsNumber_101 rfl rfl ?_
      refine v_dup C dX7_readsNumber_102 rfl ?_
      obtain ⟨x17, e_x17, h⟩ := bnd h
      refine v_getf C (ci := 6) (k := 16) rfl inX7_readsNumber_X7 (by decide) fX7_readsNumber_256 dX7_readsNumber_103 (gfI_e e_x17) ?_
      refine v_at (pc' := 106) rfl ?_
      refine v_iconst C (v := 1) dX7_readsNumber_106 (by decide) ?_
      refine v_iadd C dX7_readsNumber_107 ?_
      obtain ⟨w18, e_w18, h⟩ := bnd h
      refine v_putf C (ci := 6) (k := 16) rfl inX7_readsNumber_X7 tyX7_ok nmX7 (by decide) fX7_readsNumber_256 rfl (tyX7_ok 16 (by decide)) rfl rfl dX7_readsNumber_108 e_w18 ?_
      refine v_aload_n C 1 dX7_readsNumber_111 rfl rfl ?_
      obtain ⟨q19, e_q19, h⟩ := bnd h
      refine v_getf C (ci := 6) (k := 18) rfl inX7_readsNumber_X7 (by decide) fX7_readsNumber_34 dX7_readsNumber_112 (gfR_e e_q19) ?_
      refine v_iload_n C 2 dX7_readsNumber_115 rfl rfl ?_
      refine v_iload_n C 3 dX7_readsNumber_116 rfl rfl ?_
      refine v_if_eq C (tgt := 125) dX7_readsNumber_117 (by decide) (fun q => ?_) (fun q => ?_)
      · have h := ite_t q h
        refine v_iload_n C 0 dX7_readsNumber_125 rfl rfl ?_
        obtain ⟨w20, e_w20, h⟩ := bnd h
        refine v_iast C dX7_readsNumber_126 e_w20 ?_
        refine v_iconst C (v := 1) dX7_readsNumber_127 (by decide) ?_
        obtain rfl := Option.some.inj h
        exact v_zret C dX7_readsNumber_128 bo_1
      · have h := ite_f q h
        refine v_iload_n C 0 dX7_readsNumber_120 rfl rfl ?_
        refine v_ineg C dX7_readsNumber_121 ?_
        refine v_goto C (tgt := 126) dX7_readsNumber_122 (by decide) ?_
        obtain ⟨w21, e_w21, h⟩ := bnd h
        refine v_iast C dX7_readsNumber_126 e_w21 ?_
        refine v_iconst C (v := 1) dX7_readsNumber_127 (by decide) ?_
        obtain rfl := Option.some.inj h
        exact v_zret C dX7_readsNumber_128 bo_1
  · have h := ite_t q h
    refine v_iconst C (v := 0) dX7_readsNumber_47 (by decide) ?_
    obtain rfl := Option.some.inj h
    exact v_zret C dX7_readsNumber_48 bo_0
set_option maxRecDepth 100000 in
set_option maxHeartbeats 4000000 in
theorem r_X7_readsNumber {l : Launch} {G : GG} {A : Nat → Prop} {n : Nat} {w : Wd} {this : Nat} {a1 : Int32} {z : (Int32 × Wd)} (h : m_X7_readsNumber n w this a1 = some z) : Con l yX7_readsNumber wsX7_readsNumber { frames := 3, cells := 0, slots := 0, locals := 65 } G A [.ref this, .int a1] w (some (.int z.1)) z.2 := by
  refine Con.of (own := RX7) (cc := cX7_readsNumber) (maxL := 4) (ret := (some .boolean)) rfl (by decide) rfl (Nat.le_of_ble_eq_true rfl) ?_
  intro p e s m args below meth c C
  show V p l e { frames := 3, cells := 0, slots := 0, locals := 65 } s m args below meth c G A 4 0 [(0, .ref this), (1, .int a1)] [] w (some (.int z.1)) z.2
  unfold m_X7_readsNumber at h
  refine v_aload_n C 0 dX7_readsNumber_0 rfl rfl ?_
  obtain ⟨u1, e_u1, h⟩ := bnd h
  obtain ⟨z2, e_z2, h⟩ := bnd h
  refine v_callVi C (ci := 6) (av := []) (rest := []) rfl gX7_readsNumber_X7_skips rfl ⟨rfl, rfl⟩ hV_X7_skips ⟨(Nat.le_of_ble_eq_true rfl), (Nat.le_of_ble_eq_true rfl)⟩ e_u1 (r_X7_skips (A := A) e_z2) rfl rfl (Nat.le_of_ble_eq_true rfl) dX7_readsNumber_1 ?_
  refine v_if_ne C (tgt := 9) dX7_readsNumber_4 (by decide) (fun q => ?_) (fun q => ?_)
  · have h := ite_f q h
    refine v_aload_n C 0 dX7_readsNumber_9 rfl rfl ?_
    refine v_bipush C (v := 45) dX7_readsNumber_10 (by decide) ?_
    refine v_bipush C (v := 45) dX7_readsNumber_12 (by decide) ?_
    obtain ⟨u3, e_u3, h⟩ := bnd h
    obtain ⟨x4, e_x4, h⟩ := bnd h
    refine v_callVi C (ci := 6) (av := [.int 45, .int 45]) (rest := []) rfl gX7_readsNumber_X7_isAt rfl ⟨rfl, rfl⟩ hV_X7_isAt ⟨(Nat.le_of_ble_eq_true rfl), (Nat.le_of_ble_eq_true rfl)⟩ e_u3 (r_X7_isAt (A := A) e_x4) rfl rfl (Nat.le_of_ble_eq_true rfl) dX7_readsNumber_14 ?_
    refine v_istore_n C (lv' := [(2, .int x4), (0, .ref this), (1, .int a1)]) dX7_readsNumber_17 rfl (by decide) rfl ?_
    refine v_aload_n C 1 dX7_readsNumber_18 rfl rfl ?_
    refine v_dup C dX7_readsNumber_19 rfl ?_
    refine v_at (pc' := 20) rfl ?_
    obtain ⟨x5, e_x5, h⟩ := bnd h
    refine v_getf C (ci := 6) (k := 16) rfl inX7_readsNumber_X7 (by decide) fX7_readsNumber_256 dX7_readsNumber_20 (gfI_e e_x5) ?_
    refine v_iload_n C 0 dX7_readsNumber_23 rfl rfl ?_
    refine v_if_eq C (tgt := 31) dX7_readsNumber_24 (by decide) (fun q => ?_) (fun q => ?_)
    · have h := ite_t q h
      refine v_iconst C (v := 0) dX7_readsNumber_31 (by decide) ?_
      refine v_sub [1, 2, 0] rfl ?_
      exact r_X7_readsNumber_p32 C n _ _ _ _ _ _ _ h
    · have h := ite_f q h
      refine v_iconst C (v := 1) dX7_readsNumber_27 (by decide) ?_
      refine v_goto C (tgt := 32) dX7_readsNumber_28 (by decide) ?_
      refine v_sub [1, 2, 0] rfl ?_
      exact r_X7_readsNumber_p32 C n _ _ _ _ _ _ _ h
  · have h := ite_t q h
    refine v_iconst C (v := 0) dX7_readsNumber_7 (by decide) ?_
    obtain rfl := Option.some.inj h
    exact v_zret C dX7_readsNumber_8 bo_0
theorem fX7_reads_256 : Cond.fieldLink RX7 256 (TX7 16).1 (TX7 16).2.1 (TX7 16).2.2.1 ∈ wsX7_reads := by decide +kernel
theorem inX7_reads_X7 : ∀ x ∈ u_ws RX7 TX7 20, x ∈ wsX7_reads := by decide +kernel
theorem hV_X7_readsNumber : yX7_readsNumber.cls = RX7 ∧ yX7_readsNumber.cls ≠ "java/lang/invoke/MethodHandle" ∧ yX7_readsNumber.cls ≠ "java/lang/invoke/VarHandle" ∧ (parseMethodDescriptor yX7_readsNumber.desc).map (fun d => d.parameters.length) = some 1 := by decide +kernel
theorem hV_X7_wordFrom : yX7_wordFrom.cls = RX7 ∧ yX7_wordFrom.cls ≠ "java/lang/invoke/MethodHandle" ∧ yX7_wordFrom.cls ≠ "java/lang/invoke/VarHandle" ∧ (parseMethodDescriptor yX7_wordFrom.desc).map (fun d => d.parameters.length) = some 1 := by decide +kernel
theorem fX7_reads_269 : Cond.fieldLink RX7 269 (TX7 17).1 (TX7 17).2.1 (TX7 17).2.2.1 ∈ wsX7_reads := by decide +kernel
set_option maxRecDepth 100000 in
set_option maxHeartbeats 4000000 in
theorem r_X7_reads_p102 {p : Program} {l : Launch} {e : Env} {s : State} {m : MethodId} {args : Array Value} {below : List Frame} {meth : Method} {c : Code} {G : GG} {A : Nat → Prop} (C : Cx p s m args meth c G A cX7_reads 5 RX7 wsX7_reads (some .boolean)) (n : Nat) {z : (Int32 × Wd)} : ∀ (w : Wd) (a0 : Nat) (a3 : Int32), m_X7_reads_p102 n w a0 a3 = some z → V p l e { frames := 4, cells := 0, slots := 0, locals := 88 } s m args below meth c G A 5 102 [(0, .ref a0), (3, .int a3)] [] w (some (.int z.1)) z.2 := by
  intro w a0 a3 h
  unfold m_X7_reads_p102 at h
  refine v_iload_n C 1 dX7_reads_102 rfl rfl ?_
  refine v_if_eq C (tgt := 139) dX7_reads_103 (by decide) (fun q => ?_) (fun q => ?_)
  · have h := ite_t q h
    refine v_iload_n C 1 dX7_reads_139 rfl rfl ?_
    obtain ⟨u1, e_u1, h⟩ := bnd h
    obtain rfl := Option.some.inj h
    exact v_zret C dX7_reads_140 (bck_e e_u1)
  · have h := ite_f q h
    refine v_aload_n C 0 dX7_reads_106 rfl rfl ?_
    obtain ⟨u2, e_u2, h⟩ := bnd h
    obtain ⟨z3, e_z3, h⟩ := bnd h
    refine v_callVi C (ci := 6) (av := []) (rest := []) rfl gX7_reads_X7_skips rfl ⟨rfl, rfl⟩ hV_X7_skips ⟨(Nat.le_of_ble_eq_true rfl), (Nat.le_of_ble_eq_true rfl)⟩ e_u2 (r_X7_skips (A := A) e_z3) rfl rfl (Nat.le_of_ble_eq_true rfl) dX7_reads_107 ?_
    refine v_istore C (lv' := [(4, .int z3.1), (0, .ref a0), (3, .int a3)]) dX7_reads_110 (by decide) rfl ?_
    refine v_aload_n C 1 dX7_reads_112 rfl rfl ?_
    refine v_bipush C (v := 59) dX7_reads_113 (by decide) ?_
    refine v_bipush C (v := 59) dX7_reads_115 (by decide) ?_
    obtain ⟨u4, e_u4, h⟩ := bnd h
    obtain ⟨x5, e_x5, h⟩ := bnd h
    refine v_callVi C (ci := 6) (av := [.int 59, .int 59]) (rest := []) rfl gX7_reads_X7_isAt rfl ⟨rfl, rfl⟩ hV_X7_isAt ⟨(Nat.le_of_ble_eq_true rfl), (Nat.le_of_ble_eq_true rfl)⟩ e_u4 (r_X7_isAt (A := A) e_x5) rfl rfl (Nat.le_of_ble_eq_true rfl) dX7_reads_117 ?_
    refine v_at (pc' := 120) rfl ?_
    refine v_istore_n C (lv' := [(3, .int x5), (4, .int z3.1), (0, .ref a0)]) dX7_reads_120 rfl (by decide) rfl ?_
    refine v_aload_n C 2 dX7_reads_121 rfl rfl ?_
    refine v_dup C dX7_reads_122 rfl ?_
    obtain ⟨x6, e_x6, h⟩ := bnd h
    refine v_getf C (ci := 6) (k := 16) rfl inX7_reads_X7 (by decide) fX7_reads_256 dX7_reads_123 (gfI_e e_x6) ?_
    refine v_iload_n C 0 dX7_reads_126 rfl rfl ?_
    refine v_if_eq C (tgt := 134) dX7_reads_127 (by decide) (fun q => ?_) (fun q => ?_)
    · have h := ite_t q h
      refine v_iconst C (v := 0) dX7_reads_134 (by decide) ?_
      refine v_iadd C dX7_reads_135 ?_
      obtain ⟨w7, e_w7, h⟩ := bnd h
      refine v_putf C (ci := 6) (k := 16) rfl inX7_reads_X7 tyX7_ok nmX7 (by decide) fX7_reads_256 rfl (tyX7_ok 16 (by decide)) rfl rfl dX7_reads_136 e_w7 ?_
      refine v_iload_n C 0 dX7_reads_139 rfl rfl ?_
      obtain ⟨u8, e_u8, h⟩ := bnd h
      obtain rfl := Option.some.inj h
      exact v_zret C dX7_reads_140 (bck_e e_u8)
    · have h := ite_f q h
      refine v_iconst C (v := 1) dX7_reads_130 (by decide) ?_
      refine v_goto C (tgt := 135) dX7_reads_131 (by decide) ?_
      refine v_iadd C dX7_reads_135 ?_
      obtain ⟨w9, e_w9, h⟩ := bnd h
      refine v_putf C (ci := 6) (k := 16) rfl inX7_reads_X7 tyX7_ok nmX7 (by decide) fX7_reads_256 rfl (tyX7_ok 16 (by decide)) rfl rfl dX7_reads_136 e_w9 ?_
      refine v_iload_n C 0 dX7_reads_139 rfl rfl ?_
      obtain ⟨u10, e_u10, h⟩ := bnd h
      obtain rfl := Option.some.inj h
      exact v_zret C dX7_reads_140 (bck_e e_u10)
set_option maxRecDepth 100000 in
set_option maxHeartbeats 4000000 in
theorem r_X7_reads_p79 {p : Program} {l : Launch} {e : Env} {s : State} {m : MethodId} {args : Array Value} {below : List Frame} {meth : Method} {c : Code} {G : GG} {A : Nat → Prop} (C : Cx p s m args meth c G A cX7_reads 5 RX7 wsX7_reads (some .boolean)) (n : Nat) {z : (Int32 × Wd)} : ∀ (t : Nat), ∀ (w : Wd) (a0 : Nat) (a2 : Int32) (a3 : Int32) (a4 : Int32), m_X7_reads_p79 n t w a0 a2 a3 a4 = some z → V p l e { frames := 4, cells := 0, slots := 0, locals := 88 } s m args below meth c G A 5 79 [(0, .ref a0), (2, .int a2), (3, .int a3), (4, .int a4)] [] w (some (.int z.1)) z.2 := by
  intro t
  induction t with
  | zero =>
    intro w a0 a2 a3 a4 h
    rw [m_X7_reads_p79] at h
    cases h
  | succ t ih =>
    intro w a0 a2 a3 a4 h
    rw [m_X7_reads_p79] at h
    refine v_iload C 3 dX7_reads_79 rfl ?_
    refine v_iload_n C 1 dX7_reads_81 rfl rfl ?_
    refine v_icmp_ge C (tgt := 102) dX7_reads_82 (by decide) (fun q => ?_) (fun q => ?_)
    · have h := ite_t q h
      refine v_sub [0, 2] rfl ?_
      exact r_X7_reads_p102 C n _ _ _ h
    · have h := ite_f q h
      refine v_iload_n C 2 dX7_reads_85 rfl rfl ?_
      refine v_if_eq C (tgt := 102) dX7_reads_86 (by decide) (fun q => ?_) (fun q => ?_)
      · have h := ite_t q h
        refine v_sub [0, 2] rfl ?_
        exact r_X7_reads_p102 C n _ _ _ h
      · have h := ite_f q h
        refine v_aload_n C 0 dX7_reads_89 rfl rfl ?_
        refine v_iload C 3 dX7_reads_90 rfl ?_
        obtain ⟨u1, e_u1, h⟩ := bnd h
        obtain ⟨z2, e_z2, h⟩ := bnd h
        refine v_callVi C (ci := 6) (av := [.int a4]) (rest := []) rfl gX7_reads_X7_readsNumber rfl ⟨rfl, rfl⟩ hV_X7_readsNumber ⟨(Nat.le_of_ble_eq_true rfl), (Nat.le_of_ble_eq_true rfl)⟩ e_u1 (r_X7_readsNumber (A := A) e_z2) rfl rfl (Nat.le_of_ble_eq_true rfl) dX7_reads_92 ?_
        refine v_istore_n C (lv' := [(3, .int z2.1), (0, .ref a0), (2, .int a2), (4, .int a4)]) dX7_reads_95 rfl (by decide) rfl ?_
        refine v_iinc C (k := 3) (v := (a4 + 1)) (lv' := [(4, .int (a4 + 1)), (3, .int z2.1), (0, .ref a0), (2, .int a2)]) dX7_reads_96 rfl rfl (by decide) rfl ?_
        refine v_goto C (tgt := 79) dX7_reads_99 (by decide) ?_
        refine v_sub [2, 3, 1, 0] rfl ?_
        exact ih _ _ _ _ _ h
set_option maxRecDepth 100000 in
set_option maxHeartbeats 4000000 in
theorem r_X7_reads_p29 {p : Program} {l : Launch} {e : Env} {s : State} {m : MethodId} {args : Array Value} {below : List Frame} {meth : Method} {c : Code} {G : GG} {A : Nat → Prop} (C : Cx p s m args meth c G A cX7_reads 5 RX7 wsX7_reads (some .boolean)) (n : Nat) {z : (Int32 × Wd)} : ∀ (w : Wd) (a0 : Nat) (a1 : Int32), m_X7_reads_p29 n w a0 a1 = some z → V p l e { frames := 4, cells := 0, slots := 0, locals := 88 } s m args below meth c G A 5 29 [(0, .ref a0), (1, .int a1)] [] w (some (.int z.1)) z.2 := by
  intro w a0 a1 h
  unfold m_X7_reads_p29 at h
  refine v_aload_n C 0 dX7_reads_29 rfl rfl ?_
  refine v_aload_n C 0 dX7_reads_30 rfl rfl ?_
  refine v_iload_n C 1 dX7_reads_31 rfl rfl ?_
  obtain ⟨u1, e_u1, h⟩ := bnd h
  obtain ⟨x2, e_x2, h⟩ := bnd h
  refine v_callVi C (ci := 6) (av := [.int a1]) (rest := [.ref a0]) rfl gX7_reads_X7_wordFrom rfl ⟨rfl, rfl⟩ hV_X7_wordFrom ⟨(Nat.le_of_ble_eq_true rfl), (Nat.le_of_ble_eq_true rfl)⟩ e_u1 (r_X7_wordFrom (A := A) e_x2) rfl rfl (Nat.le_of_ble_eq_true rfl) dX7_reads_32 ?_
  obtain ⟨w3, e_w3, h⟩ := bnd h
  refine v_putf C (ci := 6) (k := 17) rfl inX7_reads_X7 tyX7_ok nmX7 (by decide) fX7_reads_269 rfl (tyX7_ok 17 (by decide)) rfl rfl dX7_reads_35 e_w3 ?_
  refine v_aload_n C 0 dX7_reads_38 rfl rfl ?_
  obtain ⟨x4, e_x4, h⟩ := bnd h
  refine v_getf C (ci := 6) (k := 17) rfl inX7_reads_X7 (by decide) fX7_reads_269 dX7_reads_39 (gfI_e e_x4) ?_
  refine v_at (pc' := 42) rfl ?_
  refine v_if_ne C (tgt := 52) dX7_reads_42 (by decide) (fun q => ?_) (fun q => ?_)
  · have h := ite_f q h
    refine v_aload_n C 0 dX7_reads_52 rfl rfl ?_
    obtain ⟨x5, e_x5, h⟩ := bnd h
    refine v_getf C (ci := 6) (k := 17) rfl inX7_reads_X7 (by decide) fX7_reads_269 dX7_reads_53 (gfI_e e_x5) ?_
    refine v_iconst C (v := 3) dX7_reads_56 (by decide) ?_
    refine v_icmp_eq C (tgt := 68) dX7_reads_57 (by decide) (fun q => ?_) (fun q => ?_)
    · have h := ite_t q h
      refine v_iconst C (v := 1) dX7_reads_68 (by decide) ?_
      refine v_goto C (tgt := 73) dX7_reads_69 (by decide) ?_
      refine v_istore_n C (lv' := [(2, .int 1), (0, .ref a0), (1, .int a1)]) dX7_reads_73 rfl (by decide) rfl ?_
      refine v_iconst C (v := 1) dX7_reads_74 (by decide) ?_
      refine v_istore_n C (lv' := [(3, .int 1), (2, .int 1), (0, .ref a0), (1, .int a1)]) dX7_reads_75 rfl (by decide) rfl ?_
      refine v_iconst C (v := 0) dX7_reads_76 (by decide) ?_
      refine v_istore C (lv' := [(4, .int 0), (3, .int 1), (2, .int 1), (0, .ref a0), (1, .int a1)]) dX7_reads_77 (by decide) rfl ?_
      refine v_sub [3, 2, 1, 0] rfl ?_
      exact r_X7_reads_p79 C n n _ _ _ _ _ h
    · have h := ite_f q h
      refine v_aload_n C 0 dX7_reads_60 rfl rfl ?_
      obtain ⟨x6, e_x6, h⟩ := bnd h
      refine v_getf C (ci := 6) (k := 17) rfl inX7_reads_X7 (by decide) fX7_reads_269 dX7_reads_61 (gfI_e e_x6) ?_
      refine v_iconst C (v := 5) dX7_reads_64 (by decide) ?_
      refine v_icmp_ne C (tgt := 72) dX7_reads_65 (by decide) (fun q => ?_) (fun q => ?_)
      · have h := ite_f q h
        refine v_iconst C (v := 3) dX7_reads_72 (by decide) ?_
        refine v_istore_n C (lv' := [(2, .int 3), (0, .ref a0), (1, .int a1)]) dX7_reads_73 rfl (by decide) rfl ?_
        refine v_iconst C (v := 1) dX7_reads_74 (by decide) ?_
        refine v_istore_n C (lv' := [(3, .int 1), (2, .int 3), (0, .ref a0), (1, .int a1)]) dX7_reads_75 rfl (by decide) rfl ?_
        refine v_iconst C (v := 0) dX7_reads_76 (by decide) ?_
        refine v_istore C (lv' := [(4, .int 0), (3, .int 1), (2, .int 3), (0, .ref a0), (1, .int a1)]) dX7_reads_77 (by decide) rfl ?_
        refine v_sub [3, 2, 1, 0] rfl ?_
        exact r_X7_reads_p79 C n n _ _ _ _ _ h
      · have h := ite_t q h
        refine v_iconst C (v := 1) dX7_reads_68 (by decide) ?_
        refine v_goto C (tgt := 73) dX7_reads_69 (by decide) ?_
        refine v_istore_n C (lv' := [(2, .int 1), (0, .ref a0), (1, .int a1)]) dX7_reads_73 rfl (by decide) rfl ?_
        refine v_iconst C (v := 1) dX7_reads_74 (by decide) ?_
        refine v_istore_n C (lv' := [(3, .int 1), (2, .int 1), (0, .ref a0), (1, .int a1)]) dX7_reads_75 rfl (by decide) rfl ?_
        refine v_iconst C (v := 0) dX7_reads_76 (by decide) ?_
        refine v_istore C (lv' := [(4, .int 0), (3, .int 1), (2, .int 1), (0, .ref a0), (1, .int a1)]) dX7_reads_77 (by decide) rfl ?_
        refine v_sub [3, 2, 1, 0] rfl ?_
        exact r_X7_reads_p79 C n n _ _ _ _ _ h
  · have h := ite_t q h
    refine v_aload_n C 0 dX7_reads_45 rfl rfl ?_
    refine v_iload_n C 1 dX7_reads_46 rfl rfl ?_
    obtain ⟨w7, e_w7, h⟩ := bnd h
    refine v_putf C (ci := 6) (k := 16) rfl inX7_reads_X7 tyX7_ok nmX7 (by decide) fX7_reads_256 rfl (tyX7_ok 16 (by decide)) rfl rfl dX7_reads_47 e_w7 ?_
    refine v_iconst C (v := 0) dX7_reads_50 (by decide) ?_
    obtain rfl := Option.some.inj h
    exact v_zret C dX7_reads_51 bo_0
set_option maxRecDepth 100000 in
set_option maxHeartbeats 4000000 in
theorem r_X7_reads_p5 {p : Program} {l : Launch} {e : Env} {s : State} {m : MethodId} {args : Array Value} {below : List Frame} {meth : Method} {c : Code} {G : GG} {A : Nat → Prop} (C : Cx p s m args meth c G A cX7_reads 5 RX7 wsX7_reads (some .boolean)) (n : Nat) {z : (Int32 × Wd)} : ∀ (t : Nat), ∀ (w : Wd) (a0 : Nat) (a1 : Int32), m_X7_reads_p5 n t w a0 a1 = some z → V p l e { frames := 4, cells := 0, slots := 0, locals := 88 } s m args below meth c G A 5 5 [(0, .ref a0), (1, .int a1)] [] w (some (.int z.1)) z.2 := by
  intro t
  induction t with
  | zero =>
    intro w a0 a1 h
    rw [m_X7_reads_p5] at h
    cases h
  | succ t ih =>
    intro w a0 a1 h
    rw [m_X7_reads_p5] at h
    refine v_aload_n C 0 dX7_reads_5 rfl rfl ?_
    refine v_bipush C (v := 97) dX7_reads_6 (by decide) ?_
    refine v_bipush C (v := 122) dX7_reads_8 (by decide) ?_
    obtain ⟨u1, e_u1, h⟩ := bnd h
    obtain ⟨x2, e_x2, h⟩ := bnd h
    refine v_callVi C (ci := 6) (av := [.int 97, .int 122]) (rest := []) rfl gX7_reads_X7_isAt rfl ⟨rfl, rfl⟩ hV_X7_isAt ⟨(Nat.le_of_ble_eq_true rfl), (Nat.le_of_ble_eq_true rfl)⟩ e_u1 (r_X7_isAt (A := A) e_x2) rfl rfl (Nat.le_of_ble_eq_true rfl) dX7_reads_10 ?_
    refine v_if_eq C (tgt := 29) dX7_reads_13 (by decide) (fun q => ?_) (fun q => ?_)
    · have h := ite_t q h
      exact r_X7_reads_p29 C n _ _ _ h
    · have h := ite_f q h
      refine v_aload_n C 0 dX7_reads_16 rfl rfl ?_
      refine v_dup C dX7_reads_17 rfl ?_
      obtain ⟨x3, e_x3, h⟩ := bnd h
      refine v_getf C (ci := 6) (k := 16) rfl inX7_reads_X7 (by decide) fX7_reads_256 dX7_reads_18 (gfI_e e_x3) ?_
      refine v_iconst C (v := 1) dX7_reads_21 (by decide) ?_
      refine v_iadd C dX7_reads_22 ?_
      obtain ⟨w4, e_w4, h⟩ := bnd h
      refine v_putf C (ci := 6) (k := 16) rfl inX7_reads_X7 tyX7_ok nmX7 (by decide) fX7_reads_256 rfl (tyX7_ok 16 (by decide)) rfl rfl dX7_reads_23 e_w4 ?_
      refine v_goto C (tgt := 5) dX7_reads_26 (by decide) ?_
      exact ih _ _ _ h
set_option maxRecDepth 100000 in
set_option maxHeartbeats 4000000 in
theorem r_X7_reads {l : Launch} {G : GG} {A : Nat → Prop} {n : Nat} {w : Wd} {this : Nat} {z : (Int32 × Wd)} (h : m_X7_reads n w this = some z) : Con l yX7_reads wsX7_reads { frames := 4, cells := 0, slots := 0, locals := 88 } G A [.ref this] w (some (.int z.1)) z.2 := by
  refine Con.of (own := RX7) (cc := cX7_reads) (maxL := 5) (ret := (some .boolean)) rfl (by decide) rfl (Nat.le_of_ble_eq_true rfl) ?_
  intro p e s m args below meth c C
  show V p l e { frames := 4, cells := 0, slots := 0, locals := 88 } s m args below meth c G A 5 0 [(0, .ref this)] [] w (some (.int z.1)) z.2
  unfold m_X7_reads at h
  refine v_aload_n C 0 dX7_reads_0 rfl rfl ?_
  obtain ⟨x1, e_x1, h⟩ := bnd h
  refine v_getf C (ci := 6) (k := 16) rfl inX7_reads_X7 (by decide) fX7_reads_256 dX7_reads_1 (gfI_e e_x1) ?_
  refine v_istore_n C (lv' := [(1, .int x1), (0, .ref this)]) dX7_reads_4 rfl (by decide) rfl ?_
  refine v_sub [1, 0] rfl ?_
  exact r_X7_reads_p5 C n n _ _ _ h
theorem fX7_does_269 : Cond.fieldLink RX7 269 (TX7 17).1 (TX7 17).2.1 (TX7 17).2.2.1 ∈ wsX7_does := by decide +kernel
theorem inX7_does_X7 : ∀ x ∈ u_ws RX7 TX7 20, x ∈ wsX7_does := by decide +kernel
theorem fX7_does_34 : Cond.fieldLink RX7 34 (TX7 18).1 (TX7 18).2.1 (TX7 18).2.2.1 ∈ wsX7_does := by decide +kernel
set_option maxRecDepth 100000 in
set_option maxHeartbeats 4000000 in
theorem r_X7_does_p103 {p : Program} {l : Launch} {e : Env} {s : State} {m : MethodId} {args : Array Value} {below : List Frame} {meth : Method} {c : Code} {G : GG} {A : Nat → Prop} (C : Cx p s m args meth c G A cX7_does 5 RX7 wsX7_does (some .boolean)) (n : Nat) {z : (Int32 × Wd)} : ∀ (w : Wd) (s0 : Int32) (a0 : Nat) (a1 : Int32) (a2 : Int32) (a3 : Int32), m_X7_does_p103 n w s0 a0 a1 a2 a3 = some z → V p l e { frames := 5, cells := 0, slots := 0, locals := 118 } s m args below meth c G A 5 103 [(0, .ref a0), (1, .int a1), (2, .int a2), (3, .int a3)] [.int s0] w (some (.int z.1)) z.2 := by
  intro w s0 a0 a1 a2 a3 h
  unfold m_X7_does_p103 at h
  refine v_istore C (lv' := [(4, .int s0), (0, .ref a0), (1, .int a1), (2, .int a2), (3, .int a3)]) dX7_does_103 (by decide) rfl ?_
  refine v_iload C 0 dX7_does_105 rfl ?_
  refine v_if_le C (tgt := 112) dX7_does_107 (by decide) (fun q => ?_) (fun q => ?_)
  · have h := ite_t q h
    refine v_aload_n C 1 dX7_does_112 rfl rfl ?_
    obtain ⟨x1, e_x1, h⟩ := bnd h
    refine v_getf C (ci := 6) (k := 17) rfl inX7_does_X7 (by decide) fX7_does_269 dX7_does_113 (gfI_e e_x1) ?_
    refine v_iconst C (v := 3) dX7_does_116 (by decide) ?_
    refine v_icmp_ne C (tgt := 128) dX7_does_117 (by decide) (fun q => ?_) (fun q => ?_)
    · have h := ite_f q h
      refine v_aload_n C 1 dX7_does_128 rfl rfl ?_
      obtain ⟨x2, e_x2, h⟩ := bnd h
      refine v_getf C (ci := 6) (k := 17) rfl inX7_does_X7 (by decide) fX7_does_269 dX7_does_129 (gfI_e e_x2) ?_
      refine v_iconst C (v := 4) dX7_does_132 (by decide) ?_
      refine v_icmp_ne C (tgt := 146) dX7_does_133 (by decide) (fun q => ?_) (fun q => ?_)
      · have h := ite_f q h
        refine v_aload_n C 1 dX7_does_146 rfl rfl ?_
        obtain ⟨x3, e_x3, h⟩ := bnd h
        refine v_getf C (ci := 6) (k := 17) rfl inX7_does_X7 (by decide) fX7_does_269 dX7_does_147 (gfI_e e_x3) ?_
        refine v_iconst C (v := 5) dX7_does_150 (by decide) ?_
        refine v_icmp_ne C (tgt := 162) dX7_does_151 (by decide) (fun q => ?_) (fun q => ?_)
        · have h := ite_f q h
          refine v_aload_n C 1 dX7_does_162 rfl rfl ?_
          refine v_iload_n C 2 dX7_does_163 rfl rfl ?_
          refine v_iload_n C 3 dX7_does_164 rfl rfl ?_
          refine v_iload_n C 4 dX7_does_165 rfl rfl ?_
          obtain ⟨u4, e_u4, h⟩ := bnd h
          obtain ⟨z5, e_z5, h⟩ := bnd h
          refine v_callVi C (ci := 6) (av := [.int a1, .int a2, .int a3]) (rest := []) rfl gX7_does_X7_adds rfl ⟨rfl, rfl⟩ hV_X7_adds ⟨(Nat.le_of_ble_eq_true rfl), (Nat.le_of_ble_eq_true rfl)⟩ e_u4 (r_X7_adds (A := A) e_z5) rfl rfl (Nat.le_of_ble_eq_true rfl) dX7_does_166 ?_
          refine v_istore C (lv' := [(4, .int z5.1), (0, .ref a0), (1, .int a1), (2, .int a2), (3, .int a3)]) dX7_does_169 (by decide) rfl ?_
          refine v_iload C 0 dX7_does_171 rfl ?_
          refine v_at (pc' := 173) rfl ?_
          refine v_if_lt C (tgt := 180) dX7_does_173 (by decide) (fun q => ?_) (fun q => ?_)
          · have h := ite_t q h
            refine v_iconst C (v := 0) dX7_does_180 (by decide) ?_
            obtain rfl := Option.some.inj h
            exact v_zret C dX7_does_181 bo_0
          · have h := ite_f q h
            refine v_iconst C (v := 1) dX7_does_176 (by decide) ?_
            refine v_goto C (tgt := 181) dX7_does_177 (by decide) ?_
            obtain rfl := Option.some.inj h
            exact v_zret C dX7_does_181 bo_1
        · have h := ite_t q h
          refine v_aload_n C 1 dX7_does_154 rfl rfl ?_
          refine v_iload_n C 2 dX7_does_155 rfl rfl ?_
          obtain ⟨u6, e_u6, h⟩ := bnd h
          obtain ⟨z7, e_z7, h⟩ := bnd h
          refine v_callVi C (ci := 6) (av := [.int a1]) (rest := []) rfl gX7_does_X7_passes rfl ⟨rfl, rfl⟩ hV_X7_passes ⟨(Nat.le_of_ble_eq_true rfl), (Nat.le_of_ble_eq_true rfl)⟩ e_u6 (r_X7_passes (A := A) e_z7) rfl rfl (Nat.le_of_ble_eq_true rfl) dX7_does_156 ?_
          refine v_goto C (tgt := 169) dX7_does_159 (by decide) ?_
          refine v_istore C (lv' := [(4, .int z7.1), (0, .ref a0), (1, .int a1), (2, .int a2), (3, .int a3)]) dX7_does_169 (by decide) rfl ?_
          refine v_iload C 0 dX7_does_171 rfl ?_
          refine v_if_lt C (tgt := 180) dX7_does_173 (by decide) (fun q => ?_) (fun q => ?_)
          · have h := ite_t q h
            refine v_iconst C (v := 0) dX7_does_180 (by decide) ?_
            obtain rfl := Option.some.inj h
            exact v_zret C dX7_does_181 bo_0
          · have h := ite_f q h
            refine v_iconst C (v := 1) dX7_does_176 (by decide) ?_
            refine v_goto C (tgt := 181) dX7_does_177 (by decide) ?_
            obtain rfl := Option.some.inj h
            exact v_zret C dX7_does_181 bo_1
      · have h := ite_t q h
        refine v_aload_n C 1 dX7_does_136 rfl rfl ?_
        refine v_iload_n C 2 dX7_does_137 rfl rfl ?_
        refine v_iload_n C 3 dX7_does_138 rfl rfl ?_
        refine v_iload_n C 4 dX7_does_139 rfl rfl ?_
        obtain ⟨u8, e_u8, h⟩ := bnd h
        obtain ⟨z9, e_z9, h⟩ := bnd h
        refine v_callVi C (ci := 6) (av := [.int a1, .int a2, .int a3]) (rest := []) rfl gX7_does_X7_speeds rfl ⟨rfl, rfl⟩ hV_X7_speeds ⟨(Nat.le_of_ble_eq_true rfl), (Nat.le_of_ble_eq_true rfl)⟩ e_u8 (r_X7_speeds (A := A) e_z9) rfl rfl (Nat.le_of_ble_eq_true rfl) dX7_does_140 ?_
        refine v_goto C (tgt := 169) dX7_does_143 (by decide) ?_
        refine v_istore C (lv' := [(4, .int z9.1), (0, .ref a0), (1, .int a1), (2, .int a2), (3, .int a3)]) dX7_does_169 (by decide) rfl ?_
        refine v_at (pc' := 171) rfl ?_
        refine v_iload C 0 dX7_does_171 rfl ?_
        refine v_if_lt C (tgt := 180) dX7_does_173 (by decide) (fun q => ?_) (fun q => ?_)
        · have h := ite_t q h
          refine v_iconst C (v := 0) dX7_does_180 (by decide) ?_
          obtain rfl := Option.some.inj h
          exact v_zret C dX7_does_181 bo_0
        · have h := ite_f q h
          refine v_iconst C (v := 1) dX7_does_176 (by decide) ?_
          refine v_goto C (tgt := 181) dX7_does_177 (by decide) ?_
          obtain rfl := Option.some.inj h
          exact v_zret C dX7_does_181 bo_1
    · have h := ite_t q h
      refine v_aload_n C 1 dX7_does_120 rfl rfl ?_
      refine v_iload_n C 2 dX7_does_121 rfl rfl ?_
      obtain ⟨u10, e_u10, h⟩ := bnd h
      obtain ⟨z11, e_z11, h⟩ := bnd h
      refine v_callVi C (ci := 6) (av := [.int a1]) (rest := []) rfl gX7_does_X7_removes rfl ⟨rfl, rfl⟩ hV_X7_removes ⟨(Nat.le_of_ble_eq_true rfl), (Nat.le_of_ble_eq_true rfl)⟩ e_u10 (r_X7_removes (A := A) e_z11) rfl rfl (Nat.le_of_ble_eq_true rfl) dX7_does_122 ?_
      refine v_goto C (tgt := 169) dX7_does_125 (by decide) ?_
      refine v_istore C (lv' := [(4, .int z11.1), (0, .ref a0), (1, .int a1), (2, .int a2), (3, .int a3)]) dX7_does_169 (by decide) rfl ?_
      refine v_iload C 0 dX7_does_171 rfl ?_
      refine v_if_lt C (tgt := 180) dX7_does_173 (by decide) (fun q => ?_) (fun q => ?_)
      · have h := ite_t q h
        refine v_iconst C (v := 0) dX7_does_180 (by decide) ?_
        obtain rfl := Option.some.inj h
        exact v_zret C dX7_does_181 bo_0
      · have h := ite_f q h
        refine v_iconst C (v := 1) dX7_does_176 (by decide) ?_
        refine v_goto C (tgt := 181) dX7_does_177 (by decide) ?_
        obtain rfl := Option.some.inj h
        exact v_zret C dX7_does_181 bo_1
  · have h := ite_f q h
    refine v_iconst C (v := 0) dX7_does_110 (by decide) ?_
    obtain rfl := Option.some.inj h
    exact v_zret C dX7_does_111 bo_0
set_option maxRecDepth 100000 in
set_option maxHeartbeats 4000000 in
theorem r_X7_does {l : Launch} {G : GG} {A : Nat → Prop} {n : Nat} {w : Wd} {this : Nat} {z : (Int32 × Wd)} (h : m_X7_does n w this = some z) : Con l yX7_does wsX7_does { frames := 5, cells := 0, slots := 0, locals := 118 } G A [.ref this] w (some (.int z.1)) z.2 := by
  refine Con.of (own := RX7) (cc := cX7_does) (maxL := 5) (ret := (some .boolean)) rfl (by decide) rfl (Nat.le_of_ble_eq_true rfl) ?_
  intro p e s m args below meth c C
  show V p l e { frames := 5, cells := 0, slots := 0, locals := 118 } s m args below meth c G A 5 0 [(0, .ref this)] [] w (some (.int z.1)) z.2
  unfold m_X7_does at h
  refine v_aload_n C 0 dX7_does_0 rfl rfl ?_
  obtain ⟨q1, e_q1, h⟩ := bnd h
  refine v_getf C (ci := 6) (k := 18) rfl inX7_does_X7 (by decide) fX7_does_34 dX7_does_1 (gfR_e e_q1) ?_
  refine v_iconst C (v := 0) dX7_does_4 (by decide) ?_
  obtain ⟨x2, e_x2, h⟩ := bnd h
  refine v_iald C dX7_does_5 e_x2 ?_
  refine v_istore_n C (lv' := [(1, .int x2), (0, .ref this)]) dX7_does_6 rfl (by decide) rfl ?_
  refine v_aload_n C 1 dX7_does_7 rfl rfl ?_
  obtain ⟨q3, e_q3, h⟩ := bnd h
  refine v_getf C (ci := 6) (k := 18) rfl inX7_does_X7 (by decide) fX7_does_34 dX7_does_8 (gfR_e e_q3) ?_
  refine v_at (pc' := 11) rfl ?_
  refine v_iconst C (v := 1) dX7_does_11 (by decide) ?_
  obtain ⟨x4, e_x4, h⟩ := bnd h
  refine v_iald C dX7_does_12 e_x4 ?_
  refine v_istore_n C (lv' := [(2, .int x4), (1, .int x2), (0, .ref this)]) dX7_does_13 rfl (by decide) rfl ?_
  refine v_aload_n C 2 dX7_does_14 rfl rfl ?_
  obtain ⟨q5, e_q5, h⟩ := bnd h
  refine v_getf C (ci := 6) (k := 18) rfl inX7_does_X7 (by decide) fX7_does_34 dX7_does_15 (gfR_e e_q5) ?_
  refine v_iconst C (v := 2) dX7_does_18 (by decide) ?_
  obtain ⟨x6, e_x6, h⟩ := bnd h
  refine v_iald C dX7_does_19 e_x6 ?_
  refine v_istore_n C (lv' := [(3, .int x6), (2, .int x4), (1, .int x2), (0, .ref this)]) dX7_does_20 rfl (by decide) rfl ?_
  refine v_at (pc' := 21) rfl ?_
  refine v_aload_n C 3 dX7_does_21 rfl rfl ?_
  obtain ⟨x7, e_x7, h⟩ := bnd h
  refine v_getf C (ci := 6) (k := 17) rfl inX7_does_X7 (by decide) fX7_does_269 dX7_does_22 (gfI_e e_x7) ?_
  refine v_iconst C (v := 1) dX7_does_25 (by decide) ?_
  refine v_icmp_ne C (tgt := 39) dX7_does_26 (by decide) (fun q => ?_) (fun q => ?_)
  · have h := ite_f q h
    refine v_aload_n C 3 dX7_does_39 rfl rfl ?_
    obtain ⟨x8, e_x8, h⟩ := bnd h
    refine v_getf C (ci := 6) (k := 17) rfl inX7_does_X7 (by decide) fX7_does_269 dX7_does_40 (gfI_e e_x8) ?_
    refine v_iconst C (v := 2) dX7_does_43 (by decide) ?_
    refine v_icmp_ne C (tgt := 57) dX7_does_44 (by decide) (fun q => ?_) (fun q => ?_)
    · have h := ite_f q h
      refine v_aload_n C 3 dX7_does_57 rfl rfl ?_
      obtain ⟨x9, e_x9, h⟩ := bnd h
      refine v_getf C (ci := 6) (k := 17) rfl inX7_does_X7 (by decide) fX7_does_269 dX7_does_58 (gfI_e e_x9) ?_
      refine v_iconst C (v := 3) dX7_does_61 (by decide) ?_
      refine v_icmp_ne C (tgt := 73) dX7_does_62 (by decide) (fun q => ?_) (fun q => ?_)
      · have h := ite_f q h
        refine v_aload_n C 3 dX7_does_73 rfl rfl ?_
        obtain ⟨x10, e_x10, h⟩ := bnd h
        refine v_getf C (ci := 6) (k := 17) rfl inX7_does_X7 (by decide) fX7_does_269 dX7_does_74 (gfI_e e_x10) ?_
        refine v_iconst C (v := 4) dX7_does_77 (by decide) ?_
        refine v_icmp_ne C (tgt := 91) dX7_does_78 (by decide) (fun q => ?_) (fun q => ?_)
        · have h := ite_f q h
          refine v_iload_n C 2 dX7_does_91 rfl rfl ?_
          refine v_callSi C (av := [.int x2]) (rest := []) gX7_does_X7_areTicks rfl ⟨rfl, rfl⟩ hS_X7_areTicks ⟨(Nat.le_of_ble_eq_true rfl), (Nat.le_of_ble_eq_true rfl)⟩ (r_X7_areTicks (A := A) rfl) rfl rfl (Nat.le_of_ble_eq_true rfl) dX7_does_92 ?_
          refine v_if_eq C (tgt := 102) dX7_does_95 (by decide) (fun q => ?_) (fun q => ?_)
          · have h := ite_t q h
            refine v_iconst C (v := 1) dX7_does_102 (by decide) ?_
            refine v_sub [3, 2, 1, 0] rfl ?_
            exact r_X7_does_p103 C n _ _ _ _ _ _ h
          · have h := ite_f q h
            refine v_iconst C (v := 0) dX7_does_98 (by decide) ?_
            refine v_goto C (tgt := 103) dX7_does_99 (by decide) ?_
            refine v_sub [3, 2, 1, 0] rfl ?_
            exact r_X7_does_p103 C n _ _ _ _ _ _ h
        · have h := ite_t q h
          refine v_aload_n C 3 dX7_does_81 rfl rfl ?_
          refine v_iload_n C 2 dX7_does_82 rfl rfl ?_
          refine v_iload_n C 1 dX7_does_83 rfl rfl ?_
          refine v_iload_n C 0 dX7_does_84 rfl rfl ?_
          obtain ⟨u11, e_u11, h⟩ := bnd h
          obtain ⟨x12, e_x12, h⟩ := bnd h
          refine v_callVi C (ci := 6) (av := [.int x2, .int x4, .int x6]) (rest := []) rfl gX7_does_X7_badSpeed rfl ⟨rfl, rfl⟩ hV_X7_badSpeed ⟨(Nat.le_of_ble_eq_true rfl), (Nat.le_of_ble_eq_true rfl)⟩ e_u11 (r_X7_badSpeed (A := A) e_x12) rfl rfl (Nat.le_of_ble_eq_true rfl) dX7_does_85 ?_
          refine v_goto C (tgt := 103) dX7_does_88 (by decide) ?_
          refine v_sub [3, 2, 1, 0] rfl ?_
          exact r_X7_does_p103 C n _ _ _ _ _ _ h
      · have h := ite_t q h
        refine v_aload_n C 3 dX7_does_65 rfl rfl ?_
        refine v_iload_n C 2 dX7_does_66 rfl rfl ?_
        obtain ⟨u13, e_u13, h⟩ := bnd h
        obtain ⟨x14, e_x14, h⟩ := bnd h
        refine v_callVi C (ci := 6) (av := [.int x2]) (rest := []) rfl gX7_does_X7_badRemove rfl ⟨rfl, rfl⟩ hV_X7_badRemove ⟨(Nat.le_of_ble_eq_true rfl), (Nat.le_of_ble_eq_true rfl)⟩ e_u13 (r_X7_badRemove (A := A) e_x14) rfl rfl (Nat.le_of_ble_eq_true rfl) dX7_does_67 ?_
        refine v_goto C (tgt := 103) dX7_does_70 (by decide) ?_
        refine v_sub [3, 2, 1, 0] rfl ?_
        exact r_X7_does_p103 C n _ _ _ _ _ _ h
    · have h := ite_t q h
      refine v_aload_n C 3 dX7_does_47 rfl rfl ?_
      refine v_iload_n C 2 dX7_does_48 rfl rfl ?_
      refine v_iload_n C 1 dX7_does_49 rfl rfl ?_
      refine v_iload_n C 0 dX7_does_50 rfl rfl ?_
      obtain ⟨u15, e_u15, h⟩ := bnd h
      obtain ⟨x16, e_x16, h⟩ := bnd h
      refine v_callVi C (ci := 6) (av := [.int x2, .int x4, .int x6]) (rest := []) rfl gX7_does_X7_badMove rfl ⟨rfl, rfl⟩ hV_X7_badMove ⟨(Nat.le_of_ble_eq_true rfl), (Nat.le_of_ble_eq_true rfl)⟩ e_u15 (r_X7_badMove (A := A) e_x16) rfl rfl (Nat.le_of_ble_eq_true rfl) dX7_does_51 ?_
      refine v_goto C (tgt := 103) dX7_does_54 (by decide) ?_
      refine v_sub [3, 2, 1, 0] rfl ?_
      exact r_X7_does_p103 C n _ _ _ _ _ _ h
  · have h := ite_t q h
    refine v_aload_n C 3 dX7_does_29 rfl rfl ?_
    refine v_iload_n C 2 dX7_does_30 rfl rfl ?_
    refine v_iload_n C 1 dX7_does_31 rfl rfl ?_
    refine v_iload_n C 0 dX7_does_32 rfl rfl ?_
    obtain ⟨u17, e_u17, h⟩ := bnd h
    obtain ⟨x18, e_x18, h⟩ := bnd h
    refine v_callVi C (ci := 6) (av := [.int x2, .int x4, .int x6]) (rest := []) rfl gX7_does_X7_badAdd rfl ⟨rfl, rfl⟩ hV_X7_badAdd ⟨(Nat.le_of_ble_eq_true rfl), (Nat.le_of_ble_eq_true rfl)⟩ e_u17 (r_X7_badAdd (A := A) e_x18) rfl rfl (Nat.le_of_ble_eq_true rfl) dX7_does_33 ?_
    refine v_goto C (tgt := 103) dX7_does_36 (by decide) ?_
    refine v_sub [3, 2, 1, 0] rfl ?_
    exact r_X7_does_p103 C n _ _ _ _ _ _ h
theorem fX7_run_256 : Cond.fieldLink RX7 256 (TX7 16).1 (TX7 16).2.1 (TX7 16).2.2.1 ∈ wsX7_run := by decide +kernel
theorem inX7_run_X7 : ∀ x ∈ u_ws RX7 TX7 20, x ∈ wsX7_run := by decide +kernel
theorem fX7_run_253 : Cond.fieldLink RX7 253 (TX7 6).1 (TX7 6).2.1 (TX7 6).2.2.1 ∈ wsX7_run := by decide +kernel
theorem hV_X7_reads : yX7_reads.cls = RX7 ∧ yX7_reads.cls ≠ "java/lang/invoke/MethodHandle" ∧ yX7_reads.cls ≠ "java/lang/invoke/VarHandle" ∧ (parseMethodDescriptor yX7_reads.desc).map (fun d => d.parameters.length) = some 0 := by decide +kernel
theorem hV_X7_does : yX7_does.cls = RX7 ∧ yX7_does.cls ≠ "java/lang/invoke/MethodHandle" ∧ yX7_does.cls ≠ "java/lang/invoke/VarHandle" ∧ (parseMethodDescriptor yX7_does.desc).map (fun d => d.parameters.length) = some 0 := by decide +kernel
theorem fX7_run_37 : Cond.fieldLink RX7 37 (TX7 4).1 (TX7 4).2.1 (TX7 4).2.2.1 ∈ wsX7_run := by decide +kernel
set_option maxRecDepth 100000 in
set_option maxHeartbeats 4000000 in
theorem r_X7_run_p33 {p : Program} {l : Launch} {e : Env} {s : State} {m : MethodId} {args : Array Value} {below : List Frame} {meth : Method} {c : Code} {G : GG} {A : Nat → Prop} (C : Cx p s m args meth c G A cX7_run 4 RX7 wsX7_run (some .int)) (n : Nat) {z : (Int32 × Wd)} : ∀ (w : Wd) (a0 : Nat), m_X7_run_p33 n w a0 = some z → V p l e { frames := 6, cells := 0, slots := 0, locals := 142 } s m args below meth c G A 4 33 [(0, .ref a0)] [] w (some (.int z.1)) z.2 := by
  intro w a0 h
  unfold m_X7_run_p33 at h
  refine v_bipush C (v := (-10)) dX7_run_33 (by decide) ?_
  refine v_aload_n C 0 dX7_run_35 rfl rfl ?_
  obtain ⟨x1, e_x1, h⟩ := bnd h
  refine v_getf C (ci := 6) (k := 16) rfl inX7_run_X7 (by decide) fX7_run_256 dX7_run_36 (gfI_e e_x1) ?_
  refine v_isub C dX7_run_39 ?_
  obtain rfl := Option.some.inj h
  exact v_iret C dX7_run_40
set_option maxRecDepth 100000 in
set_option maxHeartbeats 4000000 in
theorem r_X7_run_p67 {p : Program} {l : Launch} {e : Env} {s : State} {m : MethodId} {args : Array Value} {below : List Frame} {meth : Method} {c : Code} {G : GG} {A : Nat → Prop} (C : Cx p s m args meth c G A cX7_run 4 RX7 wsX7_run (some .int)) (n : Nat) {z : (Int32 × Wd)} : ∀ (t : Nat), ∀ (w : Wd) (a0 : Nat) (a2 : Int32) (a3 : Int32), m_X7_run_p67 n t w a0 a2 a3 = some z → V p l e { frames := 6, cells := 0, slots := 0, locals := 142 } s m args below meth c G A 4 67 [(0, .ref a0), (2, .int a2), (3, .int a3)] [] w (some (.int z.1)) z.2 := by
  intro t
  induction t with
  | zero =>
    intro w a0 a2 a3 h
    rw [m_X7_run_p67] at h
    cases h
  | succ t ih =>
    intro w a0 a2 a3 h
    rw [m_X7_run_p67] at h
    refine v_aload_n C 0 dX7_run_67 rfl rfl ?_
    obtain ⟨x1, e_x1, h⟩ := bnd h
    refine v_getf C (ci := 6) (k := 16) rfl inX7_run_X7 (by decide) fX7_run_256 dX7_run_68 (gfI_e e_x1) ?_
    refine v_aload_n C 0 dX7_run_71 rfl rfl ?_
    obtain ⟨x2, e_x2, h⟩ := bnd h
    refine v_getf C (ci := 6) (k := 6) rfl inX7_run_X7 (by decide) fX7_run_253 dX7_run_72 (gfI_e e_x2) ?_
    refine v_icmp_ge C (tgt := 122) dX7_run_75 (by decide) (fun q => ?_) (fun q => ?_)
    · have h := ite_t q h
      refine v_iload_n C 1 dX7_run_122 rfl rfl ?_
      obtain rfl := Option.some.inj h
      exact v_iret C dX7_run_123
    · have h := ite_f q h
      refine v_iload_n C 2 dX7_run_78 rfl rfl ?_
      refine v_if_eq C (tgt := 122) dX7_run_79 (by decide) (fun q => ?_) (fun q => ?_)
      · have h := ite_t q h
        refine v_iload_n C 1 dX7_run_122 rfl rfl ?_
        obtain rfl := Option.some.inj h
        exact v_iret C dX7_run_123
      · have h := ite_f q h
        refine v_aload_n C 0 dX7_run_82 rfl rfl ?_
        obtain ⟨u3, e_u3, h⟩ := bnd h
        obtain ⟨z4, e_z4, h⟩ := bnd h
        refine v_callVi C (ci := 6) (av := []) (rest := []) rfl gX7_run_X7_reads rfl ⟨rfl, rfl⟩ hV_X7_reads ⟨(Nat.le_of_ble_eq_true rfl), (Nat.le_of_ble_eq_true rfl)⟩ e_u3 (r_X7_reads (A := A) e_z4) rfl rfl (Nat.le_of_ble_eq_true rfl) dX7_run_83 ?_
        refine v_if_eq C (tgt := 100) dX7_run_86 (by decide) (fun q => ?_) (fun q => ?_)
        · have h := ite_t q h
          refine v_iconst C (v := 0) dX7_run_100 (by decide) ?_
          refine v_istore_n C (lv' := [(3, .int 0), (0, .ref a0), (2, .int a2)]) dX7_run_101 rfl (by decide) rfl ?_
          refine v_iload_n C 2 dX7_run_102 rfl rfl ?_
          refine v_iload_n C 0 dX7_run_103 rfl rfl ?_
          refine v_if_eq C (tgt := 111) dX7_run_104 (by decide) (fun _ => ?_) (fun q => absurd (by decide) q)
          refine v_iconst C (v := 0) dX7_run_111 (by decide) ?_
          refine v_iadd C dX7_run_112 ?_
          refine v_at (pc' := 113) rfl ?_
          refine v_istore_n C (lv' := [(2, .int (a2 + 0)), (3, .int 0), (0, .ref a0)]) dX7_run_113 rfl (by decide) rfl ?_
          refine v_aload_n C 2 dX7_run_114 rfl rfl ?_
          obtain ⟨u5, e_u5, h⟩ := bnd h
          obtain ⟨z6, e_z6, h⟩ := bnd h
          refine v_callVi C (ci := 6) (av := []) (rest := []) rfl gX7_run_X7_skips rfl ⟨rfl, rfl⟩ hV_X7_skips ⟨(Nat.le_of_ble_eq_true rfl), (Nat.le_of_ble_eq_true rfl)⟩ e_u5 (r_X7_skips (A := A) e_z6) rfl rfl (Nat.le_of_ble_eq_true rfl) dX7_run_115 ?_
          refine v_istore_n C (lv' := [(1, .int z6.1), (2, .int (a2 + 0)), (3, .int 0), (0, .ref a0)]) dX7_run_118 rfl (by decide) rfl ?_
          refine v_goto C (tgt := 67) dX7_run_119 (by decide) ?_
          refine v_sub [3, 1, 2] rfl ?_
          exact ih _ _ _ _ h
        · have h := ite_f q h
          refine v_aload_n C 0 dX7_run_89 rfl rfl ?_
          obtain ⟨u7, e_u7, h⟩ := bnd h
          obtain ⟨z8, e_z8, h⟩ := bnd h
          refine v_callVi C (ci := 6) (av := []) (rest := []) rfl gX7_run_X7_does rfl ⟨rfl, rfl⟩ hV_X7_does ⟨(Nat.le_of_ble_eq_true rfl), (Nat.le_of_ble_eq_true rfl)⟩ e_u7 (r_X7_does (A := A) e_z8) rfl rfl (Nat.le_of_ble_eq_true rfl) dX7_run_90 ?_
          refine v_if_eq C (tgt := 100) dX7_run_93 (by decide) (fun q => ?_) (fun q => ?_)
          · have h := ite_t q h
            refine v_iconst C (v := 0) dX7_run_100 (by decide) ?_
            refine v_istore_n C (lv' := [(3, .int 0), (0, .ref a0), (2, .int a2)]) dX7_run_101 rfl (by decide) rfl ?_
            refine v_iload_n C 2 dX7_run_102 rfl rfl ?_
            refine v_iload_n C 0 dX7_run_103 rfl rfl ?_
            refine v_if_eq C (tgt := 111) dX7_run_104 (by decide) (fun _ => ?_) (fun q => absurd (by decide) q)
            refine v_iconst C (v := 0) dX7_run_111 (by decide) ?_
            refine v_iadd C dX7_run_112 ?_
            refine v_at (pc' := 113) rfl ?_
            refine v_istore_n C (lv' := [(2, .int (a2 + 0)), (3, .int 0), (0, .ref a0)]) dX7_run_113 rfl (by decide) rfl ?_
            refine v_aload_n C 2 dX7_run_114 rfl rfl ?_
            obtain ⟨u9, e_u9, h⟩ := bnd h
            obtain ⟨z10, e_z10, h⟩ := bnd h
            refine v_callVi C (ci := 6) (av := []) (rest := []) rfl gX7_run_X7_skips rfl ⟨rfl, rfl⟩ hV_X7_skips ⟨(Nat.le_of_ble_eq_true rfl), (Nat.le_of_ble_eq_true rfl)⟩ e_u9 (r_X7_skips (A := A) e_z10) rfl rfl (Nat.le_of_ble_eq_true rfl) dX7_run_115 ?_
            refine v_istore_n C (lv' := [(1, .int z10.1), (2, .int (a2 + 0)), (3, .int 0), (0, .ref a0)]) dX7_run_118 rfl (by decide) rfl ?_
            refine v_goto C (tgt := 67) dX7_run_119 (by decide) ?_
            refine v_sub [3, 1, 2] rfl ?_
            exact ih _ _ _ _ h
          · have h := ite_f q h
            refine v_iconst C (v := 1) dX7_run_96 (by decide) ?_
            refine v_goto C (tgt := 101) dX7_run_97 (by decide) ?_
            refine v_istore_n C (lv' := [(3, .int 1), (0, .ref a0), (2, .int a2)]) dX7_run_101 rfl (by decide) rfl ?_
            refine v_iload_n C 2 dX7_run_102 rfl rfl ?_
            refine v_iload_n C 0 dX7_run_103 rfl rfl ?_
            refine v_if_eq C (tgt := 111) dX7_run_104 (by decide) (fun q => absurd q (by decide)) (fun _ => ?_)
            refine v_iconst C (v := 1) dX7_run_107 (by decide) ?_
            refine v_at (pc' := 108) rfl ?_
            refine v_goto C (tgt := 112) dX7_run_108 (by decide) ?_
            refine v_iadd C dX7_run_112 ?_
            refine v_istore_n C (lv' := [(2, .int (a2 + 1)), (3, .int 1), (0, .ref a0)]) dX7_run_113 rfl (by decide) rfl ?_
            refine v_aload_n C 2 dX7_run_114 rfl rfl ?_
            obtain ⟨u11, e_u11, h⟩ := bnd h
            obtain ⟨z12, e_z12, h⟩ := bnd h
            refine v_callVi C (ci := 6) (av := []) (rest := []) rfl gX7_run_X7_skips rfl ⟨rfl, rfl⟩ hV_X7_skips ⟨(Nat.le_of_ble_eq_true rfl), (Nat.le_of_ble_eq_true rfl)⟩ e_u11 (r_X7_skips (A := A) e_z12) rfl rfl (Nat.le_of_ble_eq_true rfl) dX7_run_115 ?_
            refine v_istore_n C (lv' := [(1, .int z12.1), (2, .int (a2 + 1)), (3, .int 1), (0, .ref a0)]) dX7_run_118 rfl (by decide) rfl ?_
            refine v_goto C (tgt := 67) dX7_run_119 (by decide) ?_
            refine v_sub [3, 1, 2] rfl ?_
            exact ih _ _ _ _ h
set_option maxRecDepth 100000 in
set_option maxHeartbeats 4000000 in
theorem r_X7_run_p49 {p : Program} {l : Launch} {e : Env} {s : State} {m : MethodId} {args : Array Value} {below : List Frame} {meth : Method} {c : Code} {G : GG} {A : Nat → Prop} (C : Cx p s m args meth c G A cX7_run 4 RX7 wsX7_run (some .int)) (n : Nat) {z : (Int32 × Wd)} : ∀ (w : Wd) (a0 : Nat), m_X7_run_p49 n w a0 = some z → V p l e { frames := 6, cells := 0, slots := 0, locals := 142 } s m args below meth c G A 4 49 [(0, .ref a0)] [] w (some (.int z.1)) z.2 := by
  intro w a0 h
  unfold m_X7_run_p49 at h
  refine v_aload_n C 0 dX7_run_49 rfl rfl ?_
  obtain ⟨u1, e_u1, h⟩ := bnd h
  obtain ⟨z2, e_z2, h⟩ := bnd h
  refine v_callVv C (ci := 6) (av := []) (rest := []) rfl gX7_run_X7_saves rfl ⟨rfl, rfl⟩ hV_X7_saves ⟨(Nat.le_of_ble_eq_true rfl), (Nat.le_of_ble_eq_true rfl)⟩ e_u1 (r_X7_saves (A := A) e_z2) rfl rfl (Nat.le_of_ble_eq_true rfl) dX7_run_50 ?_
  refine v_aload_n C 0 dX7_run_53 rfl rfl ?_
  refine v_iconst C (v := 0) dX7_run_54 (by decide) ?_
  obtain ⟨w3, e_w3, h⟩ := bnd h
  refine v_putf C (ci := 6) (k := 16) rfl inX7_run_X7 tyX7_ok nmX7 (by decide) fX7_run_256 rfl (tyX7_ok 16 (by decide)) rfl rfl dX7_run_55 e_w3 ?_
  refine v_iconst C (v := 0) dX7_run_58 (by decide) ?_
  refine v_istore_n C (lv' := [(2, .int 0), (0, .ref a0)]) dX7_run_59 rfl (by decide) rfl ?_
  refine v_at (pc' := 60) rfl ?_
  refine v_iconst C (v := 1) dX7_run_60 (by decide) ?_
  refine v_istore_n C (lv' := [(3, .int 1), (2, .int 0), (0, .ref a0)]) dX7_run_61 rfl (by decide) rfl ?_
  refine v_aload_n C 2 dX7_run_62 rfl rfl ?_
  obtain ⟨u4, e_u4, h⟩ := bnd h
  obtain ⟨z5, e_z5, h⟩ := bnd h
  refine v_callVi C (ci := 6) (av := []) (rest := []) rfl gX7_run_X7_skips rfl ⟨rfl, rfl⟩ hV_X7_skips ⟨(Nat.le_of_ble_eq_true rfl), (Nat.le_of_ble_eq_true rfl)⟩ e_u4 (r_X7_skips (A := A) e_z5) rfl rfl (Nat.le_of_ble_eq_true rfl) dX7_run_63 ?_
  refine v_istore_n C (lv' := [(1, .int z5.1), (3, .int 1), (2, .int 0), (0, .ref a0)]) dX7_run_66 rfl (by decide) rfl ?_
  refine v_sub [3, 2, 1] rfl ?_
  exact r_X7_run_p67 C n n _ _ _ _ h
set_option maxRecDepth 100000 in
set_option maxHeartbeats 4000000 in
theorem r_X7_run_p15 {p : Program} {l : Launch} {e : Env} {s : State} {m : MethodId} {args : Array Value} {below : List Frame} {meth : Method} {c : Code} {G : GG} {A : Nat → Prop} (C : Cx p s m args meth c G A cX7_run 4 RX7 wsX7_run (some .int)) (n : Nat) {z : (Int32 × Wd)} : ∀ (t : Nat), ∀ (w : Wd) (a0 : Nat), m_X7_run_p15 n t w a0 = some z → V p l e { frames := 6, cells := 0, slots := 0, locals := 142 } s m args below meth c G A 4 15 [(0, .ref a0)] [] w (some (.int z.1)) z.2 := by
  intro t
  induction t with
  | zero =>
    intro w a0 h
    rw [m_X7_run_p15] at h
    cases h
  | succ t ih =>
    intro w a0 h
    rw [m_X7_run_p15] at h
    refine v_aload_n C 0 dX7_run_15 rfl rfl ?_
    obtain ⟨x1, e_x1, h⟩ := bnd h
    refine v_getf C (ci := 6) (k := 16) rfl inX7_run_X7 (by decide) fX7_run_256 dX7_run_16 (gfI_e e_x1) ?_
    refine v_aload_n C 0 dX7_run_19 rfl rfl ?_
    obtain ⟨x2, e_x2, h⟩ := bnd h
    refine v_getf C (ci := 6) (k := 6) rfl inX7_run_X7 (by decide) fX7_run_253 dX7_run_20 (gfI_e e_x2) ?_
    refine v_icmp_ge C (tgt := 49) dX7_run_23 (by decide) (fun q => ?_) (fun q => ?_)
    · have h := ite_t q h
      exact r_X7_run_p49 C n _ _ h
    · have h := ite_f q h
      refine v_aload_n C 0 dX7_run_26 rfl rfl ?_
      obtain ⟨u3, e_u3, h⟩ := bnd h
      obtain ⟨z4, e_z4, h⟩ := bnd h
      refine v_callVi C (ci := 6) (av := []) (rest := []) rfl gX7_run_X7_reads rfl ⟨rfl, rfl⟩ hV_X7_reads ⟨(Nat.le_of_ble_eq_true rfl), (Nat.le_of_ble_eq_true rfl)⟩ e_u3 (r_X7_reads (A := A) e_z4) rfl rfl (Nat.le_of_ble_eq_true rfl) dX7_run_27 ?_
      refine v_if_ne C (tgt := 41) dX7_run_30 (by decide) (fun q => ?_) (fun q => ?_)
      · have h := ite_f q h
        refine v_aload_n C 0 dX7_run_41 rfl rfl ?_
        obtain ⟨u5, e_u5, h⟩ := bnd h
        obtain ⟨z6, e_z6, h⟩ := bnd h
        refine v_callVi C (ci := 6) (av := []) (rest := []) rfl gX7_run_X7_skips rfl ⟨rfl, rfl⟩ hV_X7_skips ⟨(Nat.le_of_ble_eq_true rfl), (Nat.le_of_ble_eq_true rfl)⟩ e_u5 (r_X7_skips (A := A) e_z6) rfl rfl (Nat.le_of_ble_eq_true rfl) dX7_run_42 ?_
        refine v_istore_n C (lv' := [(1, .int z6.1), (0, .ref a0)]) dX7_run_45 rfl (by decide) rfl ?_
        refine v_goto C (tgt := 15) dX7_run_46 (by decide) ?_
        refine v_sub [1] rfl ?_
        exact ih _ _ h
      · have h := ite_t q h
        exact r_X7_run_p33 C n _ _ h
set_option maxRecDepth 100000 in
set_option maxHeartbeats 4000000 in
theorem r_X7_run {l : Launch} {G : GG} {A : Nat → Prop} {n : Nat} {w : Wd} {this : Nat} {z : (Int32 × Wd)} (h : m_X7_run n w this = some z) : Con l yX7_run wsX7_run { frames := 6, cells := 0, slots := 0, locals := 142 } G A [.ref this] w (some (.int z.1)) z.2 := by
  refine Con.of (own := RX7) (cc := cX7_run) (maxL := 4) (ret := (some .int)) rfl (by decide) rfl (Nat.le_of_ble_eq_true rfl) ?_
  intro p e s m args below meth c C
  show V p l e { frames := 6, cells := 0, slots := 0, locals := 142 } s m args below meth c G A 4 0 [(0, .ref this)] [] w (some (.int z.1)) z.2
  unfold m_X7_run at h
  refine v_aload_n C 0 dX7_run_0 rfl rfl ?_
  refine v_iconst C (v := 0) dX7_run_1 (by decide) ?_
  obtain ⟨w1, e_w1, h⟩ := bnd h
  refine v_putf C (ci := 6) (k := 4) rfl inX7_run_X7 tyX7_ok nmX7 (by decide) fX7_run_37 rfl (tyX7_ok 4 (by decide)) rfl rfl dX7_run_2 e_w1 ?_
  refine v_aload_n C 0 dX7_run_5 rfl rfl ?_
  refine v_iconst C (v := 0) dX7_run_6 (by decide) ?_
  obtain ⟨w2, e_w2, h⟩ := bnd h
  refine v_putf C (ci := 6) (k := 16) rfl inX7_run_X7 tyX7_ok nmX7 (by decide) fX7_run_256 rfl (tyX7_ok 16 (by decide)) rfl rfl dX7_run_7 e_w2 ?_
  refine v_aload_n C 0 dX7_run_10 rfl rfl ?_
  refine v_at (pc' := 11) rfl ?_
  obtain ⟨u3, e_u3, h⟩ := bnd h
  obtain ⟨z4, e_z4, h⟩ := bnd h
  refine v_callVi C (ci := 6) (av := []) (rest := []) rfl gX7_run_X7_skips rfl ⟨rfl, rfl⟩ hV_X7_skips ⟨(Nat.le_of_ble_eq_true rfl), (Nat.le_of_ble_eq_true rfl)⟩ e_u3 (r_X7_skips (A := A) e_z4) rfl rfl (Nat.le_of_ble_eq_true rfl) dX7_run_11 ?_
  refine v_istore_n C (lv' := [(1, .int z4.1), (0, .ref this)]) dX7_run_14 rfl (by decide) rfl ?_
  refine v_sub [1] rfl ?_
  exact r_X7_run_p15 C n n _ _ h
theorem fX7_time_37 : Cond.fieldLink RX7 37 (TX7 4).1 (TX7 4).2.1 (TX7 4).2.2.1 ∈ wsX7_time := by decide +kernel
theorem inX7_time_X7 : ∀ x ∈ u_ws RX7 TX7 20, x ∈ wsX7_time := by decide +kernel
theorem fX7_time_7 : Cond.fieldLink RX7 7 (TX7 0).1 (TX7 0).2.1 (TX7 0).2.2.1 ∈ wsX7_time := by decide +kernel
set_option maxRecDepth 100000 in
set_option maxHeartbeats 4000000 in
theorem r_X7_time {l : Launch} {G : GG} {A : Nat → Prop} {n : Nat} {w : Wd} {this : Nat} {z : (Int32 × Wd)} (h : m_X7_time n w this = some z) : Con l yX7_time wsX7_time { frames := 0, cells := 0, slots := 0, locals := 0 } G A [.ref this] w (some (.int z.1)) z.2 := by
  refine Con.of (own := RX7) (cc := cX7_time) (maxL := 1) (ret := (some .int)) rfl (by decide) rfl (Nat.le_of_ble_eq_true rfl) ?_
  intro p e s m args below meth c C
  show V p l e { frames := 0, cells := 0, slots := 0, locals := 0 } s m args below meth c G A 1 0 [(0, .ref this)] [] w (some (.int z.1)) z.2
  unfold m_X7_time at h
  refine v_aload_n C 0 dX7_time_0 rfl rfl ?_
  refine v_iconst C (v := 0) dX7_time_1 (by decide) ?_
  obtain ⟨w1, e_w1, h⟩ := bnd h
  refine v_putf C (ci := 6) (k := 4) rfl inX7_time_X7 tyX7_ok nmX7 (by decide) fX7_time_37 rfl (tyX7_ok 4 (by decide)) rfl rfl dX7_time_2 e_w1 ?_
  refine v_aload_n C 0 dX7_time_5 rfl rfl ?_
  obtain ⟨q2, e_q2, h⟩ := bnd h
  refine v_getf C (ci := 6) (k := 0) rfl inX7_time_X7 (by decide) fX7_time_7 dX7_time_6 (gfR_e e_q2) ?_
  refine v_sipush C (v := 140) dX7_time_9 (by decide) ?_
  obtain ⟨x3, e_x3, h⟩ := bnd h
  refine v_iald C dX7_time_12 e_x3 ?_
  refine v_at (pc' := 13) rfl ?_
  obtain rfl := Option.some.inj h
  exact v_iret C dX7_time_13
theorem cX7_mix_281 : Cond.constantLong RX7 281 (31) ∈ wsX7_mix := by decide +kernel
theorem fX7_mix_283 : Cond.fieldLink RX7 283 (TX7 19).1 (TX7 19).2.1 (TX7 19).2.2.1 ∈ wsX7_mix := by decide +kernel
theorem inX7_mix_X7 : ∀ x ∈ u_ws RX7 TX7 20, x ∈ wsX7_mix := by decide +kernel
set_option maxRecDepth 100000 in
set_option maxHeartbeats 4000000 in
theorem r_X7_mix {l : Launch} {G : GG} {A : Nat → Prop} {n : Nat} {w : Wd} {this : Nat} {a1 : Int32} {z : Wd} (h : m_X7_mix n w this a1 = some z) : Con l yX7_mix wsX7_mix { frames := 0, cells := 0, slots := 0, locals := 0 } G A [.ref this, .int a1] w (none) z := by
  refine Con.of (own := RX7) (cc := cX7_mix) (maxL := 2) (ret := none) rfl (by decide) rfl (Nat.le_of_ble_eq_true rfl) ?_
  intro p e s m args below meth c C
  show V p l e { frames := 0, cells := 0, slots := 0, locals := 0 } s m args below meth c G A 2 0 [(0, .ref this), (1, .int a1)] [] w (none) z
  unfold m_X7_mix at h
  refine v_aload_n C 0 dX7_mix_0 rfl rfl ?_
  refine v_ldc2 C dX7_mix_1 cX7_mix_281 ?_
  refine v_aload_n C 0 dX7_mix_4 rfl rfl ?_
  obtain ⟨x1, e_x1, h⟩ := bnd h
  refine v_getf C (ci := 6) (k := 19) rfl inX7_mix_X7 (by decide) fX7_mix_283 dX7_mix_5 (gfJ_e e_x1) ?_
  refine v_lmul C dX7_mix_8 ?_
  refine v_iload_n C 1 dX7_mix_9 rfl rfl ?_
  refine v_i2l C dX7_mix_10 ?_
  refine v_at (pc' := 11) rfl ?_
  refine v_ladd C dX7_mix_11 ?_
  obtain ⟨w2, e_w2, h⟩ := bnd h
  refine v_putf C (ci := 6) (k := 19) rfl inX7_mix_X7 tyX7_ok nmX7 (by decide) fX7_mix_283 rfl (tyX7_ok 19 (by decide)) rfl rfl dX7_mix_12 e_w2 ?_
  obtain rfl := Option.some.inj h
  exact v_vret C dX7_mix_15
theorem hV_X7_mix : yX7_mix.cls = RX7 ∧ yX7_mix.cls ≠ "java/lang/invoke/MethodHandle" ∧ yX7_mix.cls ≠ "java/lang/invoke/VarHandle" ∧ (parseMethodDescriptor yX7_mix.desc).map (fun d => d.parameters.length) = some 1 := by decide +kernel
theorem fX7_mixNodes_25 : Cond.fieldLink RX7 25 (TX7 8).1 (TX7 8).2.1 (TX7 8).2.2.1 ∈ wsX7_mixNodes := by decide +kernel
theorem inX7_mixNodes_X7 : ∀ x ∈ u_ws RX7 TX7 20, x ∈ wsX7_mixNodes := by decide +kernel
set_option maxRecDepth 100000 in
set_option maxHeartbeats 4000000 in
theorem r_X7_mixNodes_p39 {p : Program} {l : Launch} {e : Env} {s : State} {m : MethodId} {args : Array Value} {below : List Frame} {meth : Method} {c : Code} {G : GG} {A : Nat → Prop} (C : Cx p s m args meth c G A cX7_mixNodes 4 RX7 wsX7_mixNodes none) (n : Nat) {k2 : Wd → Nat → Int32 → Int32 → Option Wd} {z : Wd} (H2 : ∀ (w : Wd) (b0 : Nat) (b1 : Int32) (b2 : Int32), k2 w b0 b1 b2 = some z → V p l e { frames := 5, cells := 0, slots := 0, locals := 120 } s m args below meth c G A 4 2 [(0, .ref b0), (1, .int b1), (2, .int b2)] [] w (none) z) : ∀ (t : Nat), ∀ (w : Wd) (a0 : Nat) (a1 : Int32) (a2 : Int32) (a3 : Int32), m_X7_mixNodes_p39 n k2 t w a0 a1 a2 a3 = some z → V p l e { frames := 5, cells := 0, slots := 0, locals := 120 } s m args below meth c G A 4 39 [(0, .ref a0), (1, .int a1), (2, .int a2), (3, .int a3)] [] w (none) z := by
  intro t
  induction t with
  | zero =>
    intro w a0 a1 a2 a3 h
    rw [m_X7_mixNodes_p39] at h
    cases h
  | succ t ih =>
    intro w a0 a1 a2 a3 h
    rw [m_X7_mixNodes_p39] at h
    refine v_iload_n C 3 dX7_mixNodes_39 rfl rfl ?_
    refine v_iconst C (v := 4) dX7_mixNodes_40 (by decide) ?_
    refine v_icmp_ge C (tgt := 61) dX7_mixNodes_41 (by decide) (fun q => ?_) (fun q => ?_)
    · have h := ite_t q h
      refine v_iinc C (k := 2) (v := (a2 + 1)) (lv' := [(2, .int (a2 + 1)), (0, .ref a0), (1, .int a1), (3, .int a3)]) dX7_mixNodes_61 rfl rfl (by decide) rfl ?_
      refine v_goto C (tgt := 2) dX7_mixNodes_64 (by decide) ?_
      refine v_sub [1, 2, 0] rfl ?_
      exact H2 _ _ _ _ h
    · have h := ite_f q h
      refine v_aload_n C 0 dX7_mixNodes_44 rfl rfl ?_
      refine v_aload_n C 0 dX7_mixNodes_45 rfl rfl ?_
      refine v_iload_n C 1 dX7_mixNodes_46 rfl rfl ?_
      refine v_iload_n C 2 dX7_mixNodes_47 rfl rfl ?_
      refine v_iload_n C 3 dX7_mixNodes_48 rfl rfl ?_
      obtain ⟨u1, e_u1, h⟩ := bnd h
      obtain ⟨z2, e_z2, h⟩ := bnd h
      refine v_callVi C (ci := 6) (av := [.int a1, .int a2, .int a3]) (rest := [.ref a0]) rfl gX7_mixNodes_X7_tellChild rfl ⟨rfl, rfl⟩ hV_X7_tellChild ⟨(Nat.le_of_ble_eq_true rfl), (Nat.le_of_ble_eq_true rfl)⟩ e_u1 (r_X7_tellChild (A := A) e_z2) rfl rfl (Nat.le_of_ble_eq_true rfl) dX7_mixNodes_49 ?_
      obtain ⟨u3, e_u3, h⟩ := bnd h
      obtain ⟨z4, e_z4, h⟩ := bnd h
      refine v_callVv C (ci := 6) (av := [.int z2.1]) (rest := []) rfl gX7_mixNodes_X7_mix rfl ⟨rfl, rfl⟩ hV_X7_mix ⟨(Nat.le_of_ble_eq_true rfl), (Nat.le_of_ble_eq_true rfl)⟩ e_u3 (r_X7_mix (A := A) e_z4) rfl rfl (Nat.le_of_ble_eq_true rfl) dX7_mixNodes_52 ?_
      refine v_at (pc' := 55) rfl ?_
      refine v_iinc C (k := 3) (v := (a3 + 1)) (lv' := [(3, .int (a3 + 1)), (0, .ref a0), (1, .int a1), (2, .int a2)]) dX7_mixNodes_55 rfl rfl (by decide) rfl ?_
      refine v_goto C (tgt := 39) dX7_mixNodes_58 (by decide) ?_
      refine v_sub [1, 2, 3, 0] rfl ?_
      exact ih _ _ _ _ _ h
set_option maxRecDepth 100000 in
set_option maxHeartbeats 4000000 in
theorem r_X7_mixNodes_p37 {p : Program} {l : Launch} {e : Env} {s : State} {m : MethodId} {args : Array Value} {below : List Frame} {meth : Method} {c : Code} {G : GG} {A : Nat → Prop} (C : Cx p s m args meth c G A cX7_mixNodes 4 RX7 wsX7_mixNodes none) (n : Nat) {k2 : Wd → Nat → Int32 → Int32 → Option Wd} {z : Wd} (H2 : ∀ (w : Wd) (b0 : Nat) (b1 : Int32) (b2 : Int32), k2 w b0 b1 b2 = some z → V p l e { frames := 5, cells := 0, slots := 0, locals := 120 } s m args below meth c G A 4 2 [(0, .ref b0), (1, .int b1), (2, .int b2)] [] w (none) z) : ∀ (w : Wd) (a0 : Nat) (a1 : Int32) (a2 : Int32), m_X7_mixNodes_p37 n k2 w a0 a1 a2 = some z → V p l e { frames := 5, cells := 0, slots := 0, locals := 120 } s m args below meth c G A 4 37 [(0, .ref a0), (1, .int a1), (2, .int a2)] [] w (none) z := by
  intro w a0 a1 a2 h
  unfold m_X7_mixNodes_p37 at h
  refine v_iconst C (v := 0) dX7_mixNodes_37 (by decide) ?_
  refine v_istore_n C (lv' := [(3, .int 0), (0, .ref a0), (1, .int a1), (2, .int a2)]) dX7_mixNodes_38 rfl (by decide) rfl ?_
  refine v_sub [1, 2, 3, 0] rfl ?_
  exact r_X7_mixNodes_p39 C n H2 n _ _ _ _ _ h
set_option maxRecDepth 100000 in
set_option maxHeartbeats 4000000 in
theorem r_X7_mixNodes_p14 {p : Program} {l : Launch} {e : Env} {s : State} {m : MethodId} {args : Array Value} {below : List Frame} {meth : Method} {c : Code} {G : GG} {A : Nat → Prop} (C : Cx p s m args meth c G A cX7_mixNodes 4 RX7 wsX7_mixNodes none) (n : Nat) {k2 : Wd → Nat → Int32 → Int32 → Option Wd} {z : Wd} (H2 : ∀ (w : Wd) (b0 : Nat) (b1 : Int32) (b2 : Int32), k2 w b0 b1 b2 = some z → V p l e { frames := 5, cells := 0, slots := 0, locals := 120 } s m args below meth c G A 4 2 [(0, .ref b0), (1, .int b1), (2, .int b2)] [] w (none) z) : ∀ (t : Nat), ∀ (w : Wd) (a0 : Nat) (a1 : Int32) (a2 : Int32) (a3 : Int32), m_X7_mixNodes_p14 n k2 t w a0 a1 a2 a3 = some z → V p l e { frames := 5, cells := 0, slots := 0, locals := 120 } s m args below meth c G A 4 14 [(0, .ref a0), (1, .int a1), (2, .int a2), (3, .int a3)] [] w (none) z := by
  intro t
  induction t with
  | zero =>
    intro w a0 a1 a2 a3 h
    rw [m_X7_mixNodes_p14] at h
    cases h
  | succ t ih =>
    intro w a0 a1 a2 a3 h
    rw [m_X7_mixNodes_p14] at h
    refine v_iload_n C 3 dX7_mixNodes_14 rfl rfl ?_
    refine v_bipush C (v := 6) dX7_mixNodes_15 (by decide) ?_
    refine v_icmp_ge C (tgt := 37) dX7_mixNodes_17 (by decide) (fun q => ?_) (fun q => ?_)
    · have h := ite_t q h
      refine v_sub [0, 1, 2] rfl ?_
      exact r_X7_mixNodes_p37 C n H2 _ _ _ _ h
    · have h := ite_f q h
      refine v_aload_n C 0 dX7_mixNodes_20 rfl rfl ?_
      refine v_aload_n C 0 dX7_mixNodes_21 rfl rfl ?_
      refine v_iload_n C 1 dX7_mixNodes_22 rfl rfl ?_
      refine v_iload_n C 2 dX7_mixNodes_23 rfl rfl ?_
      refine v_iload_n C 3 dX7_mixNodes_24 rfl rfl ?_
      obtain ⟨u1, e_u1, h⟩ := bnd h
      obtain ⟨z2, e_z2, h⟩ := bnd h
      refine v_callVi C (ci := 6) (av := [.int a1, .int a2, .int a3]) (rest := [.ref a0]) rfl gX7_mixNodes_X7_tellNode rfl ⟨rfl, rfl⟩ hV_X7_tellNode ⟨(Nat.le_of_ble_eq_true rfl), (Nat.le_of_ble_eq_true rfl)⟩ e_u1 (r_X7_tellNode (A := A) e_z2) rfl rfl (Nat.le_of_ble_eq_true rfl) dX7_mixNodes_25 ?_
      obtain ⟨u3, e_u3, h⟩ := bnd h
      obtain ⟨z4, e_z4, h⟩ := bnd h
      refine v_callVv C (ci := 6) (av := [.int z2.1]) (rest := []) rfl gX7_mixNodes_X7_mix rfl ⟨rfl, rfl⟩ hV_X7_mix ⟨(Nat.le_of_ble_eq_true rfl), (Nat.le_of_ble_eq_true rfl)⟩ e_u3 (r_X7_mix (A := A) e_z4) rfl rfl (Nat.le_of_ble_eq_true rfl) dX7_mixNodes_28 ?_
      refine v_at (pc' := 31) rfl ?_
      refine v_iinc C (k := 3) (v := (a3 + 1)) (lv' := [(3, .int (a3 + 1)), (0, .ref a0), (1, .int a1), (2, .int a2)]) dX7_mixNodes_31 rfl rfl (by decide) rfl ?_
      refine v_goto C (tgt := 14) dX7_mixNodes_34 (by decide) ?_
      refine v_sub [1, 2, 3, 0] rfl ?_
      exact ih _ _ _ _ _ h
set_option maxRecDepth 100000 in
set_option maxHeartbeats 4000000 in
theorem r_X7_mixNodes_p2 {p : Program} {l : Launch} {e : Env} {s : State} {m : MethodId} {args : Array Value} {below : List Frame} {meth : Method} {c : Code} {G : GG} {A : Nat → Prop} (C : Cx p s m args meth c G A cX7_mixNodes 4 RX7 wsX7_mixNodes none) (n : Nat) {z : Wd} : ∀ (t : Nat), ∀ (w : Wd) (a0 : Nat) (a1 : Int32) (a2 : Int32), m_X7_mixNodes_p2 n t w a0 a1 a2 = some z → V p l e { frames := 5, cells := 0, slots := 0, locals := 120 } s m args below meth c G A 4 2 [(0, .ref a0), (1, .int a1), (2, .int a2)] [] w (none) z := by
  intro t
  induction t with
  | zero =>
    intro w a0 a1 a2 h
    rw [m_X7_mixNodes_p2] at h
    cases h
  | succ t ih =>
    intro w a0 a1 a2 h
    rw [m_X7_mixNodes_p2] at h
    refine v_iload_n C 2 dX7_mixNodes_2 rfl rfl ?_
    refine v_aload_n C 0 dX7_mixNodes_3 rfl rfl ?_
    obtain ⟨q1, e_q1, h⟩ := bnd h
    refine v_getf C (ci := 6) (k := 8) rfl inX7_mixNodes_X7 (by decide) fX7_mixNodes_25 dX7_mixNodes_4 (gfR_e e_q1) ?_
    refine v_iload_n C 1 dX7_mixNodes_7 rfl rfl ?_
    obtain ⟨x2, e_x2, h⟩ := bnd h
    refine v_iald C dX7_mixNodes_8 e_x2 ?_
    refine v_icmp_ge C (tgt := 67) dX7_mixNodes_9 (by decide) (fun q => ?_) (fun q => ?_)
    · have h := ite_t q h
      obtain rfl := Option.some.inj h
      exact v_vret C dX7_mixNodes_67
    · have h := ite_f q h
      refine v_iconst C (v := 0) dX7_mixNodes_12 (by decide) ?_
      refine v_istore_n C (lv' := [(3, .int 0), (0, .ref a0), (1, .int a1), (2, .int a2)]) dX7_mixNodes_13 rfl (by decide) rfl ?_
      refine v_sub [1, 2, 3, 0] rfl ?_
      exact r_X7_mixNodes_p14 C n ih n _ _ _ _ _ h
set_option maxRecDepth 100000 in
set_option maxHeartbeats 4000000 in
theorem r_X7_mixNodes {l : Launch} {G : GG} {A : Nat → Prop} {n : Nat} {w : Wd} {this : Nat} {a1 : Int32} {z : Wd} (h : m_X7_mixNodes n w this a1 = some z) : Con l yX7_mixNodes wsX7_mixNodes { frames := 5, cells := 0, slots := 0, locals := 120 } G A [.ref this, .int a1] w (none) z := by
  refine Con.of (own := RX7) (cc := cX7_mixNodes) (maxL := 4) (ret := none) rfl (by decide) rfl (Nat.le_of_ble_eq_true rfl) ?_
  intro p e s m args below meth c C
  show V p l e { frames := 5, cells := 0, slots := 0, locals := 120 } s m args below meth c G A 4 0 [(0, .ref this), (1, .int a1)] [] w (none) z
  unfold m_X7_mixNodes at h
  refine v_iconst C (v := 0) dX7_mixNodes_0 (by decide) ?_
  refine v_istore_n C (lv' := [(2, .int 0), (0, .ref this), (1, .int a1)]) dX7_mixNodes_1 rfl (by decide) rfl ?_
  refine v_sub [1, 2, 0] rfl ?_
  exact r_X7_mixNodes_p2 C n n _ _ _ _ h
theorem hV_X7_mixNodes : yX7_mixNodes.cls = RX7 ∧ yX7_mixNodes.cls ≠ "java/lang/invoke/MethodHandle" ∧ yX7_mixNodes.cls ≠ "java/lang/invoke/VarHandle" ∧ (parseMethodDescriptor yX7_mixNodes.desc).map (fun d => d.parameters.length) = some 1 := by decide +kernel
theorem fX7_digest_283 : Cond.fieldLink RX7 283 (TX7 19).1 (TX7 19).2.1 (TX7 19).2.2.1 ∈ wsX7_digest := by decide +kernel
theorem inX7_digest_X7 : ∀ x ∈ u_ws RX7 TX7 20, x ∈ wsX7_digest := by decide +kernel
theorem fX7_digest_37 : Cond.fieldLink RX7 37 (TX7 4).1 (TX7 4).2.1 (TX7 4).2.2.1 ∈ wsX7_digest := by decide +kernel
theorem cX7_digest_289 : Cond.constantLong RX7 289 (19606) ∈ wsX7_digest := by decide +kernel
theorem fX7_digest_53 : Cond.fieldLink RX7 53 (TX7 3).1 (TX7 3).2.1 (TX7 3).2.2.1 ∈ wsX7_digest := by decide +kernel
theorem fX7_digest_253 : Cond.fieldLink RX7 253 (TX7 6).1 (TX7 6).2.1 (TX7 6).2.2.1 ∈ wsX7_digest := by decide +kernel
theorem fX7_digest_7 : Cond.fieldLink RX7 7 (TX7 0).1 (TX7 0).2.1 (TX7 0).2.2.1 ∈ wsX7_digest := by decide +kernel
set_option maxRecDepth 100000 in
set_option maxHeartbeats 4000000 in
theorem r_X7_digest_p54 {p : Program} {l : Launch} {e : Env} {s : State} {m : MethodId} {args : Array Value} {below : List Frame} {meth : Method} {c : Code} {G : GG} {A : Nat → Prop} (C : Cx p s m args meth c G A cX7_digest 3 RX7 wsX7_digest (some .long)) (n : Nat) {k46 : Wd → Nat → Int32 → Option (Int64 × Wd)} {z : (Int64 × Wd)} (H46 : ∀ (w : Wd) (b0 : Nat) (b1 : Int32), k46 w b0 b1 = some z → V p l e { frames := 6, cells := 0, slots := 0, locals := 143 } s m args below meth c G A 3 46 [(0, .ref b0), (1, .int b1)] [] w (some (.long z.1)) z.2) : ∀ (t : Nat), ∀ (w : Wd) (a0 : Nat) (a1 : Int32) (a2 : Int32), m_X7_digest_p54 n k46 t w a0 a1 a2 = some z → V p l e { frames := 6, cells := 0, slots := 0, locals := 143 } s m args below meth c G A 3 54 [(0, .ref a0), (1, .int a1), (2, .int a2)] [] w (some (.long z.1)) z.2 := by
  intro t
  induction t with
  | zero =>
    intro w a0 a1 a2 h
    rw [m_X7_digest_p54] at h
    cases h
  | succ t ih =>
    intro w a0 a1 a2 h
    rw [m_X7_digest_p54] at h
    refine v_iload_n C 2 dX7_digest_54 rfl rfl ?_
    refine v_bipush C (v := 6) dX7_digest_55 (by decide) ?_
    refine v_icmp_ge C (tgt := 76) dX7_digest_57 (by decide) (fun q => ?_) (fun q => ?_)
    · have h := ite_t q h
      refine v_iinc C (k := 1) (v := (a1 + 1)) (lv' := [(1, .int (a1 + 1)), (0, .ref a0), (2, .int a2)]) dX7_digest_76 rfl rfl (by decide) rfl ?_
      refine v_goto C (tgt := 46) dX7_digest_79 (by decide) ?_
      refine v_sub [1, 0] rfl ?_
      exact H46 _ _ _ h
    · have h := ite_f q h
      refine v_aload_n C 0 dX7_digest_60 rfl rfl ?_
      refine v_aload_n C 0 dX7_digest_61 rfl rfl ?_
      refine v_iload_n C 1 dX7_digest_62 rfl rfl ?_
      refine v_iload_n C 2 dX7_digest_63 rfl rfl ?_
      obtain ⟨u1, e_u1, h⟩ := bnd h
      obtain ⟨x2, e_x2, h⟩ := bnd h
      refine v_callVi C (ci := 6) (av := [.int a1, .int a2]) (rest := [.ref a0]) rfl gX7_digest_X7_tellPoint rfl ⟨rfl, rfl⟩ hV_X7_tellPoint ⟨(Nat.le_of_ble_eq_true rfl), (Nat.le_of_ble_eq_true rfl)⟩ e_u1 (r_X7_tellPoint (A := A) e_x2) rfl rfl (Nat.le_of_ble_eq_true rfl) dX7_digest_64 ?_
      obtain ⟨u3, e_u3, h⟩ := bnd h
      obtain ⟨z4, e_z4, h⟩ := bnd h
      refine v_callVv C (ci := 6) (av := [.int x2]) (rest := []) rfl gX7_digest_X7_mix rfl ⟨rfl, rfl⟩ hV_X7_mix ⟨(Nat.le_of_ble_eq_true rfl), (Nat.le_of_ble_eq_true rfl)⟩ e_u3 (r_X7_mix (A := A) e_z4) rfl rfl (Nat.le_of_ble_eq_true rfl) dX7_digest_67 ?_
      refine v_iinc C (k := 2) (v := (a2 + 1)) (lv' := [(2, .int (a2 + 1)), (0, .ref a0), (1, .int a1)]) dX7_digest_70 rfl rfl (by decide) rfl ?_
      refine v_at (pc' := 73) rfl ?_
      refine v_goto C (tgt := 54) dX7_digest_73 (by decide) ?_
      refine v_sub [1, 2, 0] rfl ?_
      exact ih _ _ _ _ h
set_option maxRecDepth 100000 in
set_option maxHeartbeats 4000000 in
theorem r_X7_digest_p112 {p : Program} {l : Launch} {e : Env} {s : State} {m : MethodId} {args : Array Value} {below : List Frame} {meth : Method} {c : Code} {G : GG} {A : Nat → Prop} (C : Cx p s m args meth c G A cX7_digest 3 RX7 wsX7_digest (some .long)) (n : Nat) {k84 : Wd → Nat → Int32 → Option (Int64 × Wd)} {z : (Int64 × Wd)} (H84 : ∀ (w : Wd) (b0 : Nat) (b1 : Int32), k84 w b0 b1 = some z → V p l e { frames := 6, cells := 0, slots := 0, locals := 143 } s m args below meth c G A 3 84 [(0, .ref b0), (1, .int b1)] [] w (some (.long z.1)) z.2) : ∀ (w : Wd) (a0 : Nat) (a1 : Int32), m_X7_digest_p112 n k84 w a0 a1 = some z → V p l e { frames := 6, cells := 0, slots := 0, locals := 143 } s m args below meth c G A 3 112 [(0, .ref a0), (1, .int a1)] [] w (some (.long z.1)) z.2 := by
  intro w a0 a1 h
  unfold m_X7_digest_p112 at h
  refine v_aload_n C 0 dX7_digest_112 rfl rfl ?_
  refine v_iload_n C 1 dX7_digest_113 rfl rfl ?_
  obtain ⟨u1, e_u1, h⟩ := bnd h
  obtain ⟨z2, e_z2, h⟩ := bnd h
  refine v_callVv C (ci := 6) (av := [.int a1]) (rest := []) rfl gX7_digest_X7_mixNodes rfl ⟨rfl, rfl⟩ hV_X7_mixNodes ⟨(Nat.le_of_ble_eq_true rfl), (Nat.le_of_ble_eq_true rfl)⟩ e_u1 (r_X7_mixNodes (A := A) e_z2) rfl rfl (Nat.le_of_ble_eq_true rfl) dX7_digest_114 ?_
  refine v_iinc C (k := 1) (v := (a1 + 1)) (lv' := [(1, .int (a1 + 1)), (0, .ref a0)]) dX7_digest_117 rfl rfl (by decide) rfl ?_
  refine v_goto C (tgt := 84) dX7_digest_120 (by decide) ?_
  refine v_sub [1, 0] rfl ?_
  exact H84 _ _ _ h
set_option maxRecDepth 100000 in
set_option maxHeartbeats 4000000 in
theorem r_X7_digest_p91 {p : Program} {l : Launch} {e : Env} {s : State} {m : MethodId} {args : Array Value} {below : List Frame} {meth : Method} {c : Code} {G : GG} {A : Nat → Prop} (C : Cx p s m args meth c G A cX7_digest 3 RX7 wsX7_digest (some .long)) (n : Nat) {k84 : Wd → Nat → Int32 → Option (Int64 × Wd)} {z : (Int64 × Wd)} (H84 : ∀ (w : Wd) (b0 : Nat) (b1 : Int32), k84 w b0 b1 = some z → V p l e { frames := 6, cells := 0, slots := 0, locals := 143 } s m args below meth c G A 3 84 [(0, .ref b0), (1, .int b1)] [] w (some (.long z.1)) z.2) : ∀ (t : Nat), ∀ (w : Wd) (a0 : Nat) (a1 : Int32) (a2 : Int32), m_X7_digest_p91 n k84 t w a0 a1 a2 = some z → V p l e { frames := 6, cells := 0, slots := 0, locals := 143 } s m args below meth c G A 3 91 [(0, .ref a0), (1, .int a1), (2, .int a2)] [] w (some (.long z.1)) z.2 := by
  intro t
  induction t with
  | zero =>
    intro w a0 a1 a2 h
    rw [m_X7_digest_p91] at h
    cases h
  | succ t ih =>
    intro w a0 a1 a2 h
    rw [m_X7_digest_p91] at h
    refine v_iload_n C 2 dX7_digest_91 rfl rfl ?_
    refine v_iconst C (v := 5) dX7_digest_92 (by decide) ?_
    refine v_icmp_ge C (tgt := 112) dX7_digest_93 (by decide) (fun q => ?_) (fun q => ?_)
    · have h := ite_t q h
      refine v_sub [0, 1] rfl ?_
      exact r_X7_digest_p112 C n H84 _ _ _ h
    · have h := ite_f q h
      refine v_aload_n C 0 dX7_digest_96 rfl rfl ?_
      refine v_aload_n C 0 dX7_digest_97 rfl rfl ?_
      refine v_iload_n C 1 dX7_digest_98 rfl rfl ?_
      refine v_iload_n C 2 dX7_digest_99 rfl rfl ?_
      obtain ⟨u1, e_u1, h⟩ := bnd h
      obtain ⟨z2, e_z2, h⟩ := bnd h
      refine v_callVi C (ci := 6) (av := [.int a1, .int a2]) (rest := [.ref a0]) rfl gX7_digest_X7_tellLevel rfl ⟨rfl, rfl⟩ hV_X7_tellLevel ⟨(Nat.le_of_ble_eq_true rfl), (Nat.le_of_ble_eq_true rfl)⟩ e_u1 (r_X7_tellLevel (A := A) e_z2) rfl rfl (Nat.le_of_ble_eq_true rfl) dX7_digest_100 ?_
      obtain ⟨u3, e_u3, h⟩ := bnd h
      obtain ⟨z4, e_z4, h⟩ := bnd h
      refine v_callVv C (ci := 6) (av := [.int z2.1]) (rest := []) rfl gX7_digest_X7_mix rfl ⟨rfl, rfl⟩ hV_X7_mix ⟨(Nat.le_of_ble_eq_true rfl), (Nat.le_of_ble_eq_true rfl)⟩ e_u3 (r_X7_mix (A := A) e_z4) rfl rfl (Nat.le_of_ble_eq_true rfl) dX7_digest_103 ?_
      refine v_iinc C (k := 2) (v := (a2 + 1)) (lv' := [(2, .int (a2 + 1)), (0, .ref a0), (1, .int a1)]) dX7_digest_106 rfl rfl (by decide) rfl ?_
      refine v_at (pc' := 109) rfl ?_
      refine v_goto C (tgt := 91) dX7_digest_109 (by decide) ?_
      refine v_sub [1, 2, 0] rfl ?_
      exact ih _ _ _ _ h
set_option maxRecDepth 100000 in
set_option maxHeartbeats 4000000 in
theorem r_X7_digest_p150 {p : Program} {l : Launch} {e : Env} {s : State} {m : MethodId} {args : Array Value} {below : List Frame} {meth : Method} {c : Code} {G : GG} {A : Nat → Prop} (C : Cx p s m args meth c G A cX7_digest 3 RX7 wsX7_digest (some .long)) (n : Nat) {k143 : Wd → Nat → Int32 → Option (Int64 × Wd)} {z : (Int64 × Wd)} (H143 : ∀ (w : Wd) (b0 : Nat) (b1 : Int32), k143 w b0 b1 = some z → V p l e { frames := 6, cells := 0, slots := 0, locals := 143 } s m args below meth c G A 3 143 [(0, .ref b0), (1, .int b1)] [] w (some (.long z.1)) z.2) : ∀ (t : Nat), ∀ (w : Wd) (a0 : Nat) (a1 : Int32) (a2 : Int32), m_X7_digest_p150 n k143 t w a0 a1 a2 = some z → V p l e { frames := 6, cells := 0, slots := 0, locals := 143 } s m args below meth c G A 3 150 [(0, .ref a0), (1, .int a1), (2, .int a2)] [] w (some (.long z.1)) z.2 := by
  intro t
  induction t with
  | zero =>
    intro w a0 a1 a2 h
    rw [m_X7_digest_p150] at h
    cases h
  | succ t ih =>
    intro w a0 a1 a2 h
    rw [m_X7_digest_p150] at h
    refine v_iload_n C 2 dX7_digest_150 rfl rfl ?_
    refine v_bipush C (v := 6) dX7_digest_151 (by decide) ?_
    refine v_icmp_ge C (tgt := 172) dX7_digest_153 (by decide) (fun q => ?_) (fun q => ?_)
    · have h := ite_t q h
      refine v_iinc C (k := 1) (v := (a1 + 1)) (lv' := [(1, .int (a1 + 1)), (0, .ref a0), (2, .int a2)]) dX7_digest_172 rfl rfl (by decide) rfl ?_
      refine v_goto C (tgt := 143) dX7_digest_175 (by decide) ?_
      refine v_sub [1, 0] rfl ?_
      exact H143 _ _ _ h
    · have h := ite_f q h
      refine v_aload_n C 0 dX7_digest_156 rfl rfl ?_
      refine v_aload_n C 0 dX7_digest_157 rfl rfl ?_
      refine v_iload_n C 1 dX7_digest_158 rfl rfl ?_
      refine v_iload_n C 2 dX7_digest_159 rfl rfl ?_
      obtain ⟨u1, e_u1, h⟩ := bnd h
      obtain ⟨x2, e_x2, h⟩ := bnd h
      refine v_callVi C (ci := 6) (av := [.int a1, .int a2]) (rest := [.ref a0]) rfl gX7_digest_X7_tellCursor rfl ⟨rfl, rfl⟩ hV_X7_tellCursor ⟨(Nat.le_of_ble_eq_true rfl), (Nat.le_of_ble_eq_true rfl)⟩ e_u1 (r_X7_tellCursor (A := A) e_x2) rfl rfl (Nat.le_of_ble_eq_true rfl) dX7_digest_160 ?_
      obtain ⟨u3, e_u3, h⟩ := bnd h
      obtain ⟨z4, e_z4, h⟩ := bnd h
      refine v_callVv C (ci := 6) (av := [.int x2]) (rest := []) rfl gX7_digest_X7_mix rfl ⟨rfl, rfl⟩ hV_X7_mix ⟨(Nat.le_of_ble_eq_true rfl), (Nat.le_of_ble_eq_true rfl)⟩ e_u3 (r_X7_mix (A := A) e_z4) rfl rfl (Nat.le_of_ble_eq_true rfl) dX7_digest_163 ?_
      refine v_iinc C (k := 2) (v := (a2 + 1)) (lv' := [(2, .int (a2 + 1)), (0, .ref a0), (1, .int a1)]) dX7_digest_166 rfl rfl (by decide) rfl ?_
      refine v_at (pc' := 169) rfl ?_
      refine v_goto C (tgt := 150) dX7_digest_169 (by decide) ?_
      refine v_sub [1, 2, 0] rfl ?_
      exact ih _ _ _ _ h
set_option maxRecDepth 100000 in
set_option maxHeartbeats 4000000 in
theorem r_X7_digest_p180 {p : Program} {l : Launch} {e : Env} {s : State} {m : MethodId} {args : Array Value} {below : List Frame} {meth : Method} {c : Code} {G : GG} {A : Nat → Prop} (C : Cx p s m args meth c G A cX7_digest 3 RX7 wsX7_digest (some .long)) (n : Nat) {z : (Int64 × Wd)} : ∀ (t : Nat), ∀ (w : Wd) (a0 : Nat) (a1 : Int32), m_X7_digest_p180 n t w a0 a1 = some z → V p l e { frames := 6, cells := 0, slots := 0, locals := 143 } s m args below meth c G A 3 180 [(0, .ref a0), (1, .int a1)] [] w (some (.long z.1)) z.2 := by
  intro t
  induction t with
  | zero =>
    intro w a0 a1 h
    rw [m_X7_digest_p180] at h
    cases h
  | succ t ih =>
    intro w a0 a1 h
    rw [m_X7_digest_p180] at h
    refine v_iload_n C 1 dX7_digest_180 rfl rfl ?_
    refine v_iconst C (v := 3) dX7_digest_181 (by decide) ?_
    refine v_icmp_ge C (tgt := 200) dX7_digest_182 (by decide) (fun q => ?_) (fun q => ?_)
    · have h := ite_t q h
      refine v_aload_n C 0 dX7_digest_200 rfl rfl ?_
      obtain ⟨x1, e_x1, h⟩ := bnd h
      refine v_getf C (ci := 6) (k := 19) rfl inX7_digest_X7 (by decide) fX7_digest_283 dX7_digest_201 (gfJ_e e_x1) ?_
      obtain rfl := Option.some.inj h
      exact v_lret C dX7_digest_204
    · have h := ite_f q h
      refine v_aload_n C 0 dX7_digest_185 rfl rfl ?_
      refine v_aload_n C 0 dX7_digest_186 rfl rfl ?_
      refine v_iload_n C 1 dX7_digest_187 rfl rfl ?_
      obtain ⟨u2, e_u2, h⟩ := bnd h
      obtain ⟨x3, e_x3, h⟩ := bnd h
      refine v_callVi C (ci := 6) (av := [.int a1]) (rest := [.ref a0]) rfl gX7_digest_X7_tellClosest rfl ⟨rfl, rfl⟩ hV_X7_tellClosest ⟨(Nat.le_of_ble_eq_true rfl), (Nat.le_of_ble_eq_true rfl)⟩ e_u2 (r_X7_tellClosest (A := A) e_x3) rfl rfl (Nat.le_of_ble_eq_true rfl) dX7_digest_188 ?_
      obtain ⟨u4, e_u4, h⟩ := bnd h
      obtain ⟨z5, e_z5, h⟩ := bnd h
      refine v_callVv C (ci := 6) (av := [.int x3]) (rest := []) rfl gX7_digest_X7_mix rfl ⟨rfl, rfl⟩ hV_X7_mix ⟨(Nat.le_of_ble_eq_true rfl), (Nat.le_of_ble_eq_true rfl)⟩ e_u4 (r_X7_mix (A := A) e_z5) rfl rfl (Nat.le_of_ble_eq_true rfl) dX7_digest_191 ?_
      refine v_iinc C (k := 1) (v := (a1 + 1)) (lv' := [(1, .int (a1 + 1)), (0, .ref a0)]) dX7_digest_194 rfl rfl (by decide) rfl ?_
      refine v_goto C (tgt := 180) dX7_digest_197 (by decide) ?_
      refine v_sub [1, 0] rfl ?_
      exact ih _ _ _ h
set_option maxRecDepth 100000 in
set_option maxHeartbeats 4000000 in
theorem r_X7_digest_p178 {p : Program} {l : Launch} {e : Env} {s : State} {m : MethodId} {args : Array Value} {below : List Frame} {meth : Method} {c : Code} {G : GG} {A : Nat → Prop} (C : Cx p s m args meth c G A cX7_digest 3 RX7 wsX7_digest (some .long)) (n : Nat) {z : (Int64 × Wd)} : ∀ (w : Wd) (a0 : Nat), m_X7_digest_p178 n w a0 = some z → V p l e { frames := 6, cells := 0, slots := 0, locals := 143 } s m args below meth c G A 3 178 [(0, .ref a0)] [] w (some (.long z.1)) z.2 := by
  intro w a0 h
  unfold m_X7_digest_p178 at h
  refine v_iconst C (v := 0) dX7_digest_178 (by decide) ?_
  refine v_istore_n C (lv' := [(1, .int 0), (0, .ref a0)]) dX7_digest_179 rfl (by decide) rfl ?_
  refine v_sub [1, 0] rfl ?_
  exact r_X7_digest_p180 C n n _ _ _ h
set_option maxRecDepth 100000 in
set_option maxHeartbeats 4000000 in
theorem r_X7_digest_p143 {p : Program} {l : Launch} {e : Env} {s : State} {m : MethodId} {args : Array Value} {below : List Frame} {meth : Method} {c : Code} {G : GG} {A : Nat → Prop} (C : Cx p s m args meth c G A cX7_digest 3 RX7 wsX7_digest (some .long)) (n : Nat) {z : (Int64 × Wd)} : ∀ (t : Nat), ∀ (w : Wd) (a0 : Nat) (a1 : Int32), m_X7_digest_p143 n t w a0 a1 = some z → V p l e { frames := 6, cells := 0, slots := 0, locals := 143 } s m args below meth c G A 3 143 [(0, .ref a0), (1, .int a1)] [] w (some (.long z.1)) z.2 := by
  intro t
  induction t with
  | zero =>
    intro w a0 a1 h
    rw [m_X7_digest_p143] at h
    cases h
  | succ t ih =>
    intro w a0 a1 h
    rw [m_X7_digest_p143] at h
    refine v_iload_n C 1 dX7_digest_143 rfl rfl ?_
    refine v_iconst C (v := 4) dX7_digest_144 (by decide) ?_
    refine v_icmp_ge C (tgt := 178) dX7_digest_145 (by decide) (fun q => ?_) (fun q => ?_)
    · have h := ite_t q h
      refine v_sub [0] rfl ?_
      exact r_X7_digest_p178 C n _ _ h
    · have h := ite_f q h
      refine v_iconst C (v := 0) dX7_digest_148 (by decide) ?_
      refine v_istore_n C (lv' := [(2, .int 0), (0, .ref a0), (1, .int a1)]) dX7_digest_149 rfl (by decide) rfl ?_
      refine v_sub [1, 2, 0] rfl ?_
      exact r_X7_digest_p150 C n ih n _ _ _ _ h
set_option maxRecDepth 100000 in
set_option maxHeartbeats 4000000 in
theorem r_X7_digest_p123 {p : Program} {l : Launch} {e : Env} {s : State} {m : MethodId} {args : Array Value} {below : List Frame} {meth : Method} {c : Code} {G : GG} {A : Nat → Prop} (C : Cx p s m args meth c G A cX7_digest 3 RX7 wsX7_digest (some .long)) (n : Nat) {z : (Int64 × Wd)} : ∀ (w : Wd) (a0 : Nat), m_X7_digest_p123 n w a0 = some z → V p l e { frames := 6, cells := 0, slots := 0, locals := 143 } s m args below meth c G A 3 123 [(0, .ref a0)] [] w (some (.long z.1)) z.2 := by
  intro w a0 h
  unfold m_X7_digest_p123 at h
  refine v_aload_n C 0 dX7_digest_123 rfl rfl ?_
  refine v_aload_n C 0 dX7_digest_124 rfl rfl ?_
  refine v_iconst C (v := 1) dX7_digest_125 (by decide) ?_
  obtain ⟨u1, e_u1, h⟩ := bnd h
  obtain ⟨z2, e_z2, h⟩ := bnd h
  refine v_callVi C (ci := 6) (av := [.int 1]) (rest := [.ref a0]) rfl gX7_digest_X7_most rfl ⟨rfl, rfl⟩ hV_X7_most ⟨(Nat.le_of_ble_eq_true rfl), (Nat.le_of_ble_eq_true rfl)⟩ e_u1 (r_X7_most (A := A) e_z2) rfl rfl (Nat.le_of_ble_eq_true rfl) dX7_digest_126 ?_
  obtain ⟨u3, e_u3, h⟩ := bnd h
  obtain ⟨z4, e_z4, h⟩ := bnd h
  refine v_callVv C (ci := 6) (av := [.int z2.1]) (rest := []) rfl gX7_digest_X7_mix rfl ⟨rfl, rfl⟩ hV_X7_mix ⟨(Nat.le_of_ble_eq_true rfl), (Nat.le_of_ble_eq_true rfl)⟩ e_u3 (r_X7_mix (A := A) e_z4) rfl rfl (Nat.le_of_ble_eq_true rfl) dX7_digest_129 ?_
  refine v_aload_n C 0 dX7_digest_132 rfl rfl ?_
  refine v_aload_n C 0 dX7_digest_133 rfl rfl ?_
  refine v_at (pc' := 134) rfl ?_
  refine v_iconst C (v := 0) dX7_digest_134 (by decide) ?_
  obtain ⟨u5, e_u5, h⟩ := bnd h
  obtain ⟨z6, e_z6, h⟩ := bnd h
  refine v_callVi C (ci := 6) (av := [.int 0]) (rest := [.ref a0]) rfl gX7_digest_X7_most rfl ⟨rfl, rfl⟩ hV_X7_most ⟨(Nat.le_of_ble_eq_true rfl), (Nat.le_of_ble_eq_true rfl)⟩ e_u5 (r_X7_most (A := A) e_z6) rfl rfl (Nat.le_of_ble_eq_true rfl) dX7_digest_135 ?_
  obtain ⟨u7, e_u7, h⟩ := bnd h
  obtain ⟨z8, e_z8, h⟩ := bnd h
  refine v_callVv C (ci := 6) (av := [.int z6.1]) (rest := []) rfl gX7_digest_X7_mix rfl ⟨rfl, rfl⟩ hV_X7_mix ⟨(Nat.le_of_ble_eq_true rfl), (Nat.le_of_ble_eq_true rfl)⟩ e_u7 (r_X7_mix (A := A) e_z8) rfl rfl (Nat.le_of_ble_eq_true rfl) dX7_digest_138 ?_
  refine v_iconst C (v := 0) dX7_digest_141 (by decide) ?_
  refine v_istore_n C (lv' := [(1, .int 0), (0, .ref a0)]) dX7_digest_142 rfl (by decide) rfl ?_
  refine v_sub [1, 0] rfl ?_
  exact r_X7_digest_p143 C n n _ _ _ h
set_option maxRecDepth 100000 in
set_option maxHeartbeats 4000000 in
theorem r_X7_digest_p84 {p : Program} {l : Launch} {e : Env} {s : State} {m : MethodId} {args : Array Value} {below : List Frame} {meth : Method} {c : Code} {G : GG} {A : Nat → Prop} (C : Cx p s m args meth c G A cX7_digest 3 RX7 wsX7_digest (some .long)) (n : Nat) {z : (Int64 × Wd)} : ∀ (t : Nat), ∀ (w : Wd) (a0 : Nat) (a1 : Int32), m_X7_digest_p84 n t w a0 a1 = some z → V p l e { frames := 6, cells := 0, slots := 0, locals := 143 } s m args below meth c G A 3 84 [(0, .ref a0), (1, .int a1)] [] w (some (.long z.1)) z.2 := by
  intro t
  induction t with
  | zero =>
    intro w a0 a1 h
    rw [m_X7_digest_p84] at h
    cases h
  | succ t ih =>
    intro w a0 a1 h
    rw [m_X7_digest_p84] at h
    refine v_iload_n C 1 dX7_digest_84 rfl rfl ?_
    refine v_iconst C (v := 5) dX7_digest_85 (by decide) ?_
    refine v_icmp_ge C (tgt := 123) dX7_digest_86 (by decide) (fun q => ?_) (fun q => ?_)
    · have h := ite_t q h
      refine v_sub [0] rfl ?_
      exact r_X7_digest_p123 C n _ _ h
    · have h := ite_f q h
      refine v_iconst C (v := 0) dX7_digest_89 (by decide) ?_
      refine v_istore_n C (lv' := [(2, .int 0), (0, .ref a0), (1, .int a1)]) dX7_digest_90 rfl (by decide) rfl ?_
      refine v_sub [1, 2, 0] rfl ?_
      exact r_X7_digest_p91 C n ih n _ _ _ _ h
set_option maxRecDepth 100000 in
set_option maxHeartbeats 4000000 in
theorem r_X7_digest_p82 {p : Program} {l : Launch} {e : Env} {s : State} {m : MethodId} {args : Array Value} {below : List Frame} {meth : Method} {c : Code} {G : GG} {A : Nat → Prop} (C : Cx p s m args meth c G A cX7_digest 3 RX7 wsX7_digest (some .long)) (n : Nat) {z : (Int64 × Wd)} : ∀ (w : Wd) (a0 : Nat), m_X7_digest_p82 n w a0 = some z → V p l e { frames := 6, cells := 0, slots := 0, locals := 143 } s m args below meth c G A 3 82 [(0, .ref a0)] [] w (some (.long z.1)) z.2 := by
  intro w a0 h
  unfold m_X7_digest_p82 at h
  refine v_iconst C (v := 0) dX7_digest_82 (by decide) ?_
  refine v_istore_n C (lv' := [(1, .int 0), (0, .ref a0)]) dX7_digest_83 rfl (by decide) rfl ?_
  refine v_sub [1, 0] rfl ?_
  exact r_X7_digest_p84 C n n _ _ _ h
set_option maxRecDepth 100000 in
set_option maxHeartbeats 4000000 in
theorem r_X7_digest_p46 {p : Program} {l : Launch} {e : Env} {s : State} {m : MethodId} {args : Array Value} {below : List Frame} {meth : Method} {c : Code} {G : GG} {A : Nat → Prop} (C : Cx p s m args meth c G A cX7_digest 3 RX7 wsX7_digest (some .long)) (n : Nat) {z : (Int64 × Wd)} : ∀ (t : Nat), ∀ (w : Wd) (a0 : Nat) (a1 : Int32), m_X7_digest_p46 n t w a0 a1 = some z → V p l e { frames := 6, cells := 0, slots := 0, locals := 143 } s m args below meth c G A 3 46 [(0, .ref a0), (1, .int a1)] [] w (some (.long z.1)) z.2 := by
  intro t
  induction t with
  | zero =>
    intro w a0 a1 h
    rw [m_X7_digest_p46] at h
    cases h
  | succ t ih =>
    intro w a0 a1 h
    rw [m_X7_digest_p46] at h
    refine v_iload_n C 1 dX7_digest_46 rfl rfl ?_
    refine v_bipush C (v := 24) dX7_digest_47 (by decide) ?_
    refine v_icmp_ge C (tgt := 82) dX7_digest_49 (by decide) (fun q => ?_) (fun q => ?_)
    · have h := ite_t q h
      refine v_sub [0] rfl ?_
      exact r_X7_digest_p82 C n _ _ h
    · have h := ite_f q h
      refine v_iconst C (v := 0) dX7_digest_52 (by decide) ?_
      refine v_istore_n C (lv' := [(2, .int 0), (0, .ref a0), (1, .int a1)]) dX7_digest_53 rfl (by decide) rfl ?_
      refine v_sub [1, 2, 0] rfl ?_
      exact r_X7_digest_p54 C n ih n _ _ _ _ h
set_option maxRecDepth 100000 in
set_option maxHeartbeats 4000000 in
theorem r_X7_digest {l : Launch} {G : GG} {A : Nat → Prop} {n : Nat} {w : Wd} {this : Nat} {z : (Int64 × Wd)} (h : m_X7_digest n w this = some z) : Con l yX7_digest wsX7_digest { frames := 6, cells := 0, slots := 0, locals := 143 } G A [.ref this] w (some (.long z.1)) z.2 := by
  refine Con.of (own := RX7) (cc := cX7_digest) (maxL := 3) (ret := (some .long)) rfl (by decide) rfl (Nat.le_of_ble_eq_true rfl) ?_
  intro p e s m args below meth c C
  show V p l e { frames := 6, cells := 0, slots := 0, locals := 143 } s m args below meth c G A 3 0 [(0, .ref this)] [] w (some (.long z.1)) z.2
  unfold m_X7_digest at h
  refine v_aload_n C 0 dX7_digest_0 rfl rfl ?_
  refine v_iconst C (v := 0) dX7_digest_1 (by decide) ?_
  obtain ⟨w1, e_w1, h⟩ := bnd h
  refine v_putf C (ci := 6) (k := 4) rfl inX7_digest_X7 tyX7_ok nmX7 (by decide) fX7_digest_37 rfl (tyX7_ok 4 (by decide)) rfl rfl dX7_digest_2 e_w1 ?_
  refine v_aload_n C 0 dX7_digest_5 rfl rfl ?_
  obtain ⟨u2, e_u2, h⟩ := bnd h
  obtain ⟨z3, e_z3, h⟩ := bnd h
  refine v_callVv C (ci := 6) (av := []) (rest := []) rfl gX7_digest_X7_lays rfl ⟨rfl, rfl⟩ hV_X7_lays ⟨(Nat.le_of_ble_eq_true rfl), (Nat.le_of_ble_eq_true rfl)⟩ e_u2 (r_X7_lays (A := A) e_z3) rfl rfl (Nat.le_of_ble_eq_true rfl) dX7_digest_6 ?_
  refine v_aload_n C 0 dX7_digest_9 rfl rfl ?_
  refine v_ldc2 C dX7_digest_10 cX7_digest_289 ?_
  refine v_at (pc' := 13) rfl ?_
  obtain ⟨w4, e_w4, h⟩ := bnd h
  refine v_putf C (ci := 6) (k := 19) rfl inX7_digest_X7 tyX7_ok nmX7 (by decide) fX7_digest_283 rfl (tyX7_ok 19 (by decide)) rfl rfl dX7_digest_13 e_w4 ?_
  refine v_aload_n C 0 dX7_digest_16 rfl rfl ?_
  refine v_aload_n C 0 dX7_digest_17 rfl rfl ?_
  obtain ⟨x5, e_x5, h⟩ := bnd h
  refine v_getf C (ci := 6) (k := 3) rfl inX7_digest_X7 (by decide) fX7_digest_53 dX7_digest_18 (gfI_e e_x5) ?_
  obtain ⟨u6, e_u6, h⟩ := bnd h
  obtain ⟨z7, e_z7, h⟩ := bnd h
  refine v_callVv C (ci := 6) (av := [.int x5]) (rest := []) rfl gX7_digest_X7_mix rfl ⟨rfl, rfl⟩ hV_X7_mix ⟨(Nat.le_of_ble_eq_true rfl), (Nat.le_of_ble_eq_true rfl)⟩ e_u6 (r_X7_mix (A := A) e_z7) rfl rfl (Nat.le_of_ble_eq_true rfl) dX7_digest_21 ?_
  refine v_aload_n C 0 dX7_digest_24 rfl rfl ?_
  refine v_aload_n C 0 dX7_digest_25 rfl rfl ?_
  obtain ⟨x8, e_x8, h⟩ := bnd h
  refine v_getf C (ci := 6) (k := 6) rfl inX7_digest_X7 (by decide) fX7_digest_253 dX7_digest_26 (gfI_e e_x8) ?_
  refine v_at (pc' := 29) rfl ?_
  obtain ⟨u9, e_u9, h⟩ := bnd h
  obtain ⟨z10, e_z10, h⟩ := bnd h
  refine v_callVv C (ci := 6) (av := [.int x8]) (rest := []) rfl gX7_digest_X7_mix rfl ⟨rfl, rfl⟩ hV_X7_mix ⟨(Nat.le_of_ble_eq_true rfl), (Nat.le_of_ble_eq_true rfl)⟩ e_u9 (r_X7_mix (A := A) e_z10) rfl rfl (Nat.le_of_ble_eq_true rfl) dX7_digest_29 ?_
  refine v_aload_n C 0 dX7_digest_32 rfl rfl ?_
  refine v_aload_n C 0 dX7_digest_33 rfl rfl ?_
  obtain ⟨q11, e_q11, h⟩ := bnd h
  refine v_getf C (ci := 6) (k := 0) rfl inX7_digest_X7 (by decide) fX7_digest_7 dX7_digest_34 (gfR_e e_q11) ?_
  refine v_sipush C (v := 140) dX7_digest_37 (by decide) ?_
  obtain ⟨x12, e_x12, h⟩ := bnd h
  refine v_iald C dX7_digest_40 e_x12 ?_
  obtain ⟨u13, e_u13, h⟩ := bnd h
  obtain ⟨z14, e_z14, h⟩ := bnd h
  refine v_callVv C (ci := 6) (av := [.int x12]) (rest := []) rfl gX7_digest_X7_mix rfl ⟨rfl, rfl⟩ hV_X7_mix ⟨(Nat.le_of_ble_eq_true rfl), (Nat.le_of_ble_eq_true rfl)⟩ e_u13 (r_X7_mix (A := A) e_z14) rfl rfl (Nat.le_of_ble_eq_true rfl) dX7_digest_41 ?_
  refine v_iconst C (v := 0) dX7_digest_44 (by decide) ?_
  refine v_at (pc' := 45) rfl ?_
  refine v_istore_n C (lv' := [(1, .int 0), (0, .ref this)]) dX7_digest_45 rfl (by decide) rfl ?_
  refine v_sub [1, 0] rfl ?_
  exact r_X7_digest_p46 C n n _ _ _ h
