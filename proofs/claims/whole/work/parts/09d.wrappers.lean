theorem hV_X6_add : yX6_add.cls = RX6 ∧ yX6_add.cls ≠ "java/lang/invoke/MethodHandle" ∧ yX6_add.cls ≠ "java/lang/invoke/VarHandle" ∧ (parseMethodDescriptor yX6_add.desc).map (fun d => d.parameters.length) = some 3 := by decide +kernel
theorem hV_X6_move : yX6_move.cls = RX6 ∧ yX6_move.cls ≠ "java/lang/invoke/MethodHandle" ∧ yX6_move.cls ≠ "java/lang/invoke/VarHandle" ∧ (parseMethodDescriptor yX6_move.desc).map (fun d => d.parameters.length) = some 3 := by decide +kernel
theorem hV_X6_nearest : yX6_nearest.cls = RX6 ∧ yX6_nearest.cls ≠ "java/lang/invoke/MethodHandle" ∧ yX6_nearest.cls ≠ "java/lang/invoke/VarHandle" ∧ (parseMethodDescriptor yX6_nearest.desc).map (fun d => d.parameters.length) = some 3 := by decide +kernel
theorem hV_X6_next : yX6_next.cls = RX6 ∧ yX6_next.cls ≠ "java/lang/invoke/MethodHandle" ∧ yX6_next.cls ≠ "java/lang/invoke/VarHandle" ∧ (parseMethodDescriptor yX6_next.desc).map (fun d => d.parameters.length) = some 1 := by decide +kernel
theorem hV_X6_open : yX6_open.cls = RX6 ∧ yX6_open.cls ≠ "java/lang/invoke/MethodHandle" ∧ yX6_open.cls ≠ "java/lang/invoke/VarHandle" ∧ (parseMethodDescriptor yX6_open.desc).map (fun d => d.parameters.length) = some 3 := by decide +kernel
theorem hV_X6_remove : yX6_remove.cls = RX6 ∧ yX6_remove.cls ≠ "java/lang/invoke/MethodHandle" ∧ yX6_remove.cls ≠ "java/lang/invoke/VarHandle" ∧ (parseMethodDescriptor yX6_remove.desc).map (fun d => d.parameters.length) = some 1 := by decide +kernel
theorem hV_X6_scatter : yX6_scatter.cls = RX6 ∧ yX6_scatter.cls ≠ "java/lang/invoke/MethodHandle" ∧ yX6_scatter.cls ≠ "java/lang/invoke/VarHandle" ∧ (parseMethodDescriptor yX6_scatter.desc).map (fun d => d.parameters.length) = some 4 := by decide +kernel
theorem hV_X6_search : yX6_search.cls = RX6 ∧ yX6_search.cls ≠ "java/lang/invoke/MethodHandle" ∧ yX6_search.cls ≠ "java/lang/invoke/VarHandle" ∧ (parseMethodDescriptor yX6_search.desc).map (fun d => d.parameters.length) = some 4 := by decide +kernel
theorem hV_X6_setVelocity : yX6_setVelocity.cls = RX6 ∧ yX6_setVelocity.cls ≠ "java/lang/invoke/MethodHandle" ∧ yX6_setVelocity.cls ≠ "java/lang/invoke/VarHandle" ∧ (parseMethodDescriptor yX6_setVelocity.desc).map (fun d => d.parameters.length) = some 3 := by decide +kernel
theorem hV_X6_tick : yX6_tick.cls = RX6 ∧ yX6_tick.cls ≠ "java/lang/invoke/MethodHandle" ∧ yX6_tick.cls ≠ "java/lang/invoke/VarHandle" ∧ (parseMethodDescriptor yX6_tick.desc).map (fun d => d.parameters.length) = some 1 := by decide +kernel
theorem hV_X6_type : yX6_type.cls = RX6 ∧ yX6_type.cls ≠ "java/lang/invoke/MethodHandle" ∧ yX6_type.cls ≠ "java/lang/invoke/VarHandle" ∧ (parseMethodDescriptor yX6_type.desc).map (fun d => d.parameters.length) = some 1 := by decide +kernel
theorem hV_X6_undo : yX6_undo.cls = RX6 ∧ yX6_undo.cls ≠ "java/lang/invoke/MethodHandle" ∧ yX6_undo.cls ≠ "java/lang/invoke/VarHandle" ∧ (parseMethodDescriptor yX6_undo.desc).map (fun d => d.parameters.length) = some 0 := by decide +kernel
theorem hV_X6_within : yX6_within.cls = RX6 ∧ yX6_within.cls ≠ "java/lang/invoke/MethodHandle" ∧ yX6_within.cls ≠ "java/lang/invoke/VarHandle" ∧ (parseMethodDescriptor yX6_within.desc).map (fun d => d.parameters.length) = some 4 := by decide +kernel
theorem hV_X6_wouldTouch : yX6_wouldTouch.cls = RX6 ∧ yX6_wouldTouch.cls ≠ "java/lang/invoke/MethodHandle" ∧ yX6_wouldTouch.cls ≠ "java/lang/invoke/VarHandle" ∧ (parseMethodDescriptor yX6_wouldTouch.desc).map (fun d => d.parameters.length) = some 3 := by decide +kernel
theorem clL_add_13 : Cond.classLink RL 13 eI ∈ wsL_add := by decide +kernel
theorem clL_add_15 : Cond.classLink RL 15 eA ∈ wsL_add := by decide +kernel
theorem clL_add_17 : Cond.classLink RL 17 eS ∈ wsL_add := by decide +kernel
set_option maxRecDepth 100000 in
set_option maxHeartbeats 4000000 in
theorem r_L_add {l : Launch} (hst : l.stackTraces = false) {G : GG} {A : Nat → Prop} {n : Nat} {w : Wd} {a0 : Nat} {a1 : Int32} {a2 : Int32} {a3 : Int32} {a4 : Nat} {z : Int32 × Wd} (h : m_L_add n w a0 a1 a2 a3 a4 = some z) : WCon l yL_add wsL_add { frames := 8, cells := 1, slots := 6, locals := 140 } G A [.ref a0, .int a1, .int a2, .int a3, .ref a4] w (some (.int z.1)) z.2 := by
  refine WCon.of (own := RL) (cc := cL_add) (maxL := 6) (ret := (some .int)) (hh := [(0, 12, 15, 13), (0, 12, 19, 15), (0, 12, 23, 17)]) rfl (by decide) rfl (Nat.le_of_ble_eq_true rfl) ?_
  intro p e s m args below meth c C hT
  show VQ p l e _ s m args below meth c G A 6 0 0 _ 0 [(0, .ref a0), (1, .int a1), (2, .int a2), (3, .int a3), (4, .ref a4)] [] w
  unfold m_L_add at h
  obtain ⟨u, e_u, h⟩ := bnd h
  obtain ⟨k, e_k, h⟩ := bnd h
  refine v_aload C 4 dL_add_0 rfl ?_
  refine v_iconst C (v := 0) dL_add_2 (by decide) ?_
  refine v_aload_n C 0 dL_add_3 rfl rfl ?_
  refine v_iload_n C 1 dL_add_4 rfl rfl ?_
  refine v_iload_n C 2 dL_add_5 rfl rfl ?_
  refine v_iload_n C 3 dL_add_6 rfl rfl ?_
  by_cases q0 : k = 0
  · have h := ite_t q0 h
    obtain ⟨z1, e_z, h⟩ := bnd h
    refine v_callVi C (ci := 5) (av := [.int a1, .int a2, .int a3]) (rest := [.int 0, .ref a4]) rfl gL_add_X6_add rfl ⟨rfl, rfl⟩ hV_X6_add ⟨(Nat.le_of_ble_eq_true rfl), (Nat.le_of_ble_eq_true rfl)⟩ e_u (r_X6_add (A := A) e_z) rfl rfl (Nat.le_of_ble_eq_true rfl) dL_add_7 ?_
    refine v_i2l C dL_add_10 ?_
    obtain ⟨w2, e_w2, h⟩ := bnd h
    refine v_last C dL_add_11 e_w2 ?_
    refine v_goto C (tgt := 27) dL_add_12 (by decide) ?_
    refine v_iconst C (v := 0) dL_add_27 (by decide) ?_
    obtain rfl := Option.some.inj h
    refine v_widen (k1 := 1) (s1 := 6) (by decide) (by decide) ?_
    exact v_iretW C dL_add_28
  have h := ite_f q0 h
  by_cases q1 : k = 1
  · have h := ite_t q1 h
    refine xw_callV C [] ⟨0, 12, 15, 13⟩ [⟨0, 12, 19, 15⟩, ⟨0, 12, 23, 17⟩] (by rw [hT]; rfl) (fun _ h => absurd h List.not_mem_nil) (by decide) (by decide) clL_add_13 C.xe.2.1.1 (ci := 5) (av := [.int a1, .int a2, .int a3]) (rest := [.int 0, .ref a4]) rfl gL_add_X6_add rfl ⟨rfl, rfl⟩ hV_X6_add ⟨(Nat.le_of_ble_eq_true rfl), (Nat.le_of_ble_eq_true rfl)⟩ ⟨(Nat.le_of_ble_eq_true rfl), (Nat.le_of_ble_eq_true rfl)⟩ e_u (x_X6_add hst (Or.inl ⟨q1, rfl⟩) e_k) rfl rfl (Nat.le_of_ble_eq_true rfl) dL_add_7 (fun q9 => ?_)
    refine v_astore C (lv' := [(5, .ref q9), (0, .ref a0), (1, .int a1), (2, .int a2), (3, .int a3), (4, .ref a4)]) dL_add_15 (by decide) rfl ?_
    refine v_iconst C (v := 1) dL_add_17 (by decide) ?_
    obtain rfl := Option.some.inj h
    exact v_iretW C dL_add_18
  have h := ite_f q1 h
  by_cases q2 : k = 2
  · have h := ite_t q2 h
    refine xw_callV C [⟨0, 12, 15, 13⟩] ⟨0, 12, 19, 15⟩ [⟨0, 12, 23, 17⟩] (by rw [hT]; rfl) (List.forall_mem_cons.mpr ⟨Or.inr ⟨by decide, eI, C.2.2.2.2.1 _ clL_add_13, C.xe.2.2.1⟩, (fun _ h => absurd h List.not_mem_nil)⟩) (by decide) (by decide) clL_add_15 C.xe.2.1.2.1 (ci := 5) (av := [.int a1, .int a2, .int a3]) (rest := [.int 0, .ref a4]) rfl gL_add_X6_add rfl ⟨rfl, rfl⟩ hV_X6_add ⟨(Nat.le_of_ble_eq_true rfl), (Nat.le_of_ble_eq_true rfl)⟩ ⟨(Nat.le_of_ble_eq_true rfl), (Nat.le_of_ble_eq_true rfl)⟩ e_u (x_X6_add hst (Or.inr (Or.inl ⟨q2, rfl⟩)) e_k) rfl rfl (Nat.le_of_ble_eq_true rfl) dL_add_7 (fun q9 => ?_)
    refine v_astore C (lv' := [(5, .ref q9), (0, .ref a0), (1, .int a1), (2, .int a2), (3, .int a3), (4, .ref a4)]) dL_add_19 (by decide) rfl ?_
    refine v_iconst C (v := 2) dL_add_21 (by decide) ?_
    obtain rfl := Option.some.inj h
    exact v_iretW C dL_add_22
  have h := ite_f q2 h
  by_cases q3 : k = 3
  · have h := ite_t q3 h
    refine xw_callV C [⟨0, 12, 15, 13⟩, ⟨0, 12, 19, 15⟩] ⟨0, 12, 23, 17⟩ [] (by rw [hT]; rfl) (List.forall_mem_cons.mpr ⟨Or.inr ⟨by decide, eI, C.2.2.2.2.1 _ clL_add_13, C.xe.2.2.2.1⟩, (List.forall_mem_cons.mpr ⟨Or.inr ⟨by decide, eA, C.2.2.2.2.1 _ clL_add_15, C.xe.2.2.2.2⟩, (fun _ h => absurd h List.not_mem_nil)⟩)⟩) (by decide) (by decide) clL_add_17 C.xe.2.1.2.2 (ci := 5) (av := [.int a1, .int a2, .int a3]) (rest := [.int 0, .ref a4]) rfl gL_add_X6_add rfl ⟨rfl, rfl⟩ hV_X6_add ⟨(Nat.le_of_ble_eq_true rfl), (Nat.le_of_ble_eq_true rfl)⟩ ⟨(Nat.le_of_ble_eq_true rfl), (Nat.le_of_ble_eq_true rfl)⟩ e_u (x_X6_add hst (Or.inr (Or.inr ⟨q3, rfl⟩)) e_k) rfl rfl (Nat.le_of_ble_eq_true rfl) dL_add_7 (fun q9 => ?_)
    refine v_astore C (lv' := [(5, .ref q9), (0, .ref a0), (1, .int a1), (2, .int a2), (3, .int a3), (4, .ref a4)]) dL_add_23 (by decide) rfl ?_
    refine v_iconst C (v := 3) dL_add_25 (by decide) ?_
    obtain rfl := Option.some.inj h
    exact v_iretW C dL_add_26
  have h := ite_f q3 h
  cases h
theorem clL_child_13 : Cond.classLink RL 13 eI ∈ wsL_child := by decide +kernel
theorem clL_child_15 : Cond.classLink RL 15 eA ∈ wsL_child := by decide +kernel
set_option maxRecDepth 100000 in
set_option maxHeartbeats 4000000 in
theorem r_L_child {l : Launch} (hst : l.stackTraces = false) {G : GG} {A : Nat → Prop} {n : Nat} {w : Wd} {a0 : Nat} {a1 : Int32} {a2 : Int32} {a3 : Int32} {a4 : Nat} {z : Int32 × Wd} (h : m_L_child n w a0 a1 a2 a3 a4 = some z) : WCon l yL_child wsL_child { frames := 8, cells := 1, slots := 6, locals := 125 } G A [.ref a0, .int a1, .int a2, .int a3, .ref a4] w (some (.int z.1)) z.2 := by
  refine WCon.of (own := RL) (cc := cL_child) (maxL := 6) (ret := (some .int)) (hh := [(0, 12, 15, 13), (0, 12, 19, 15)]) rfl (by decide) rfl (Nat.le_of_ble_eq_true rfl) ?_
  intro p e s m args below meth c C hT
  show VQ p l e _ s m args below meth c G A 6 0 0 _ 0 [(0, .ref a0), (1, .int a1), (2, .int a2), (3, .int a3), (4, .ref a4)] [] w
  unfold m_L_child at h
  obtain ⟨u, e_u, h⟩ := bnd h
  obtain ⟨k, e_k, h⟩ := bnd h
  refine v_aload C 4 dL_child_0 rfl ?_
  refine v_iconst C (v := 0) dL_child_2 (by decide) ?_
  refine v_aload_n C 0 dL_child_3 rfl rfl ?_
  refine v_iload_n C 1 dL_child_4 rfl rfl ?_
  refine v_iload_n C 2 dL_child_5 rfl rfl ?_
  refine v_iload_n C 3 dL_child_6 rfl rfl ?_
  by_cases q0 : k = 0
  · have h := ite_t q0 h
    obtain ⟨z1, e_z, h⟩ := bnd h
    refine v_callVi C (ci := 5) (av := [.int a1, .int a2, .int a3]) (rest := [.int 0, .ref a4]) rfl gL_child_X6_child rfl ⟨rfl, rfl⟩ hV_X6_child ⟨(Nat.le_of_ble_eq_true rfl), (Nat.le_of_ble_eq_true rfl)⟩ e_u (r_X6_child (A := A) e_z) rfl rfl (Nat.le_of_ble_eq_true rfl) dL_child_7 ?_
    refine v_i2l C dL_child_10 ?_
    obtain ⟨w2, e_w2, h⟩ := bnd h
    refine v_last C dL_child_11 e_w2 ?_
    refine v_goto C (tgt := 23) dL_child_12 (by decide) ?_
    refine v_iconst C (v := 0) dL_child_23 (by decide) ?_
    obtain rfl := Option.some.inj h
    refine v_widen (k1 := 1) (s1 := 6) (by decide) (by decide) ?_
    exact v_iretW C dL_child_24
  have h := ite_f q0 h
  by_cases q1 : k = 1
  · have h := ite_t q1 h
    refine xw_callV C [] ⟨0, 12, 15, 13⟩ [⟨0, 12, 19, 15⟩] (by rw [hT]; rfl) (fun _ h => absurd h List.not_mem_nil) (by decide) (by decide) clL_child_13 C.xe.2.1.1 (ci := 5) (av := [.int a1, .int a2, .int a3]) (rest := [.int 0, .ref a4]) rfl gL_child_X6_child rfl ⟨rfl, rfl⟩ hV_X6_child ⟨(Nat.le_of_ble_eq_true rfl), (Nat.le_of_ble_eq_true rfl)⟩ ⟨(Nat.le_of_ble_eq_true rfl), (Nat.le_of_ble_eq_true rfl)⟩ e_u (x_X6_child hst (Or.inl ⟨q1, rfl⟩) e_k) rfl rfl (Nat.le_of_ble_eq_true rfl) dL_child_7 (fun q9 => ?_)
    refine v_astore C (lv' := [(5, .ref q9), (0, .ref a0), (1, .int a1), (2, .int a2), (3, .int a3), (4, .ref a4)]) dL_child_15 (by decide) rfl ?_
    refine v_iconst C (v := 1) dL_child_17 (by decide) ?_
    obtain rfl := Option.some.inj h
    exact v_iretW C dL_child_18
  have h := ite_f q1 h
  by_cases q2 : k = 2
  · have h := ite_t q2 h
    refine xw_callV C [⟨0, 12, 15, 13⟩] ⟨0, 12, 19, 15⟩ [] (by rw [hT]; rfl) (List.forall_mem_cons.mpr ⟨Or.inr ⟨by decide, eI, C.2.2.2.2.1 _ clL_child_13, C.xe.2.2.1⟩, (fun _ h => absurd h List.not_mem_nil)⟩) (by decide) (by decide) clL_child_15 C.xe.2.1.2.1 (ci := 5) (av := [.int a1, .int a2, .int a3]) (rest := [.int 0, .ref a4]) rfl gL_child_X6_child rfl ⟨rfl, rfl⟩ hV_X6_child ⟨(Nat.le_of_ble_eq_true rfl), (Nat.le_of_ble_eq_true rfl)⟩ ⟨(Nat.le_of_ble_eq_true rfl), (Nat.le_of_ble_eq_true rfl)⟩ e_u (x_X6_child hst (Or.inr (Or.inl ⟨q2, rfl⟩)) e_k) rfl rfl (Nat.le_of_ble_eq_true rfl) dL_child_7 (fun q9 => ?_)
    refine v_astore C (lv' := [(5, .ref q9), (0, .ref a0), (1, .int a1), (2, .int a2), (3, .int a3), (4, .ref a4)]) dL_child_19 (by decide) rfl ?_
    refine v_iconst C (v := 2) dL_child_21 (by decide) ?_
    obtain rfl := Option.some.inj h
    exact v_iretW C dL_child_22
  have h := ite_f q2 h
  cases h
theorem clL_closest_15 : Cond.classLink RL 15 eA ∈ wsL_closest := by decide +kernel
set_option maxRecDepth 100000 in
set_option maxHeartbeats 4000000 in
theorem r_L_closest {l : Launch} (hst : l.stackTraces = false) {G : GG} {A : Nat → Prop} {n : Nat} {w : Wd} {a0 : Nat} {a1 : Int32} {a2 : Nat} {z : Int32 × Wd} (h : m_L_closest n w a0 a1 a2 = some z) : WCon l yL_closest wsL_closest { frames := 8, cells := 1, slots := 6, locals := 124 } G A [.ref a0, .int a1, .ref a2] w (some (.int z.1)) z.2 := by
  refine WCon.of (own := RL) (cc := cL_closest) (maxL := 4) (ret := (some .int)) (hh := [(0, 9, 12, 15)]) rfl (by decide) rfl (Nat.le_of_ble_eq_true rfl) ?_
  intro p e s m args below meth c C hT
  show VQ p l e _ s m args below meth c G A 4 0 0 _ 0 [(0, .ref a0), (1, .int a1), (2, .ref a2)] [] w
  unfold m_L_closest at h
  obtain ⟨u, e_u, h⟩ := bnd h
  obtain ⟨k, e_k, h⟩ := bnd h
  refine v_aload_n C 2 dL_closest_0 rfl rfl ?_
  refine v_iconst C (v := 0) dL_closest_1 (by decide) ?_
  refine v_aload_n C 0 dL_closest_2 rfl rfl ?_
  refine v_iload_n C 1 dL_closest_3 rfl rfl ?_
  by_cases q0 : k = 0
  · have h := ite_t q0 h
    obtain ⟨z1, e_z, h⟩ := bnd h
    refine v_callVi C (ci := 5) (av := [.int a1]) (rest := [.int 0, .ref a2]) rfl gL_closest_X6_closest rfl ⟨rfl, rfl⟩ hV_X6_closest ⟨(Nat.le_of_ble_eq_true rfl), (Nat.le_of_ble_eq_true rfl)⟩ e_u (r_X6_closest (A := A) e_z) rfl rfl (Nat.le_of_ble_eq_true rfl) dL_closest_4 ?_
    refine v_i2l C dL_closest_7 ?_
    obtain ⟨w2, e_w2, h⟩ := bnd h
    refine v_last C dL_closest_8 e_w2 ?_
    refine v_goto C (tgt := 15) dL_closest_9 (by decide) ?_
    refine v_iconst C (v := 0) dL_closest_15 (by decide) ?_
    obtain rfl := Option.some.inj h
    refine v_widen (k1 := 1) (s1 := 6) (by decide) (by decide) ?_
    exact v_iretW C dL_closest_16
  have h := ite_f q0 h
  by_cases q2 : k = 2
  · have h := ite_t q2 h
    refine xw_callV C [] ⟨0, 9, 12, 15⟩ [] (by rw [hT]; rfl) (fun _ h => absurd h List.not_mem_nil) (by decide) (by decide) clL_closest_15 C.xe.2.1.2.1 (ci := 5) (av := [.int a1]) (rest := [.int 0, .ref a2]) rfl gL_closest_X6_closest rfl ⟨rfl, rfl⟩ hV_X6_closest ⟨(Nat.le_of_ble_eq_true rfl), (Nat.le_of_ble_eq_true rfl)⟩ ⟨(Nat.le_of_ble_eq_true rfl), (Nat.le_of_ble_eq_true rfl)⟩ e_u (x_X6_closest hst (Or.inr (Or.inl ⟨q2, rfl⟩)) e_k) rfl rfl (Nat.le_of_ble_eq_true rfl) dL_closest_4 (fun q9 => ?_)
    refine v_astore_n C (lv' := [(3, .ref q9), (0, .ref a0), (1, .int a1), (2, .ref a2)]) dL_closest_12 rfl (by decide) rfl ?_
    refine v_iconst C (v := 1) dL_closest_13 (by decide) ?_
    obtain rfl := Option.some.inj h
    exact v_iretW C dL_closest_14
  have h := ite_f q2 h
  cases h
theorem clL_cursor_13 : Cond.classLink RL 13 eI ∈ wsL_cursor := by decide +kernel
theorem clL_cursor_15 : Cond.classLink RL 15 eA ∈ wsL_cursor := by decide +kernel
set_option maxRecDepth 100000 in
set_option maxHeartbeats 4000000 in
theorem r_L_cursor {l : Launch} (hst : l.stackTraces = false) {G : GG} {A : Nat → Prop} {n : Nat} {w : Wd} {a0 : Nat} {a1 : Int32} {a2 : Int32} {a3 : Nat} {z : Int32 × Wd} (h : m_L_cursor n w a0 a1 a2 a3 = some z) : WCon l yL_cursor wsL_cursor { frames := 8, cells := 1, slots := 6, locals := 127 } G A [.ref a0, .int a1, .int a2, .ref a3] w (some (.int z.1)) z.2 := by
  refine WCon.of (own := RL) (cc := cL_cursor) (maxL := 5) (ret := (some .int)) (hh := [(0, 10, 13, 13), (0, 10, 17, 15)]) rfl (by decide) rfl (Nat.le_of_ble_eq_true rfl) ?_
  intro p e s m args below meth c C hT
  show VQ p l e _ s m args below meth c G A 5 0 0 _ 0 [(0, .ref a0), (1, .int a1), (2, .int a2), (3, .ref a3)] [] w
  unfold m_L_cursor at h
  obtain ⟨u, e_u, h⟩ := bnd h
  obtain ⟨k, e_k, h⟩ := bnd h
  refine v_aload_n C 3 dL_cursor_0 rfl rfl ?_
  refine v_iconst C (v := 0) dL_cursor_1 (by decide) ?_
  refine v_aload_n C 0 dL_cursor_2 rfl rfl ?_
  refine v_iload_n C 1 dL_cursor_3 rfl rfl ?_
  refine v_iload_n C 2 dL_cursor_4 rfl rfl ?_
  by_cases q0 : k = 0
  · have h := ite_t q0 h
    obtain ⟨z1, e_z, h⟩ := bnd h
    refine v_callVi C (ci := 5) (av := [.int a1, .int a2]) (rest := [.int 0, .ref a3]) rfl gL_cursor_X6_cursor rfl ⟨rfl, rfl⟩ hV_X6_cursor ⟨(Nat.le_of_ble_eq_true rfl), (Nat.le_of_ble_eq_true rfl)⟩ e_u (r_X6_cursor (A := A) e_z) rfl rfl (Nat.le_of_ble_eq_true rfl) dL_cursor_5 ?_
    refine v_i2l C dL_cursor_8 ?_
    obtain ⟨w2, e_w2, h⟩ := bnd h
    refine v_last C dL_cursor_9 e_w2 ?_
    refine v_goto C (tgt := 21) dL_cursor_10 (by decide) ?_
    refine v_iconst C (v := 0) dL_cursor_21 (by decide) ?_
    obtain rfl := Option.some.inj h
    refine v_widen (k1 := 1) (s1 := 6) (by decide) (by decide) ?_
    exact v_iretW C dL_cursor_22
  have h := ite_f q0 h
  by_cases q1 : k = 1
  · have h := ite_t q1 h
    refine xw_callV C [] ⟨0, 10, 13, 13⟩ [⟨0, 10, 17, 15⟩] (by rw [hT]; rfl) (fun _ h => absurd h List.not_mem_nil) (by decide) (by decide) clL_cursor_13 C.xe.2.1.1 (ci := 5) (av := [.int a1, .int a2]) (rest := [.int 0, .ref a3]) rfl gL_cursor_X6_cursor rfl ⟨rfl, rfl⟩ hV_X6_cursor ⟨(Nat.le_of_ble_eq_true rfl), (Nat.le_of_ble_eq_true rfl)⟩ ⟨(Nat.le_of_ble_eq_true rfl), (Nat.le_of_ble_eq_true rfl)⟩ e_u (x_X6_cursor hst (Or.inl ⟨q1, rfl⟩) e_k) rfl rfl (Nat.le_of_ble_eq_true rfl) dL_cursor_5 (fun q9 => ?_)
    refine v_astore C (lv' := [(4, .ref q9), (0, .ref a0), (1, .int a1), (2, .int a2), (3, .ref a3)]) dL_cursor_13 (by decide) rfl ?_
    refine v_iconst C (v := 1) dL_cursor_15 (by decide) ?_
    obtain rfl := Option.some.inj h
    exact v_iretW C dL_cursor_16
  have h := ite_f q1 h
  by_cases q2 : k = 2
  · have h := ite_t q2 h
    refine xw_callV C [⟨0, 10, 13, 13⟩] ⟨0, 10, 17, 15⟩ [] (by rw [hT]; rfl) (List.forall_mem_cons.mpr ⟨Or.inr ⟨by decide, eI, C.2.2.2.2.1 _ clL_cursor_13, C.xe.2.2.1⟩, (fun _ h => absurd h List.not_mem_nil)⟩) (by decide) (by decide) clL_cursor_15 C.xe.2.1.2.1 (ci := 5) (av := [.int a1, .int a2]) (rest := [.int 0, .ref a3]) rfl gL_cursor_X6_cursor rfl ⟨rfl, rfl⟩ hV_X6_cursor ⟨(Nat.le_of_ble_eq_true rfl), (Nat.le_of_ble_eq_true rfl)⟩ ⟨(Nat.le_of_ble_eq_true rfl), (Nat.le_of_ble_eq_true rfl)⟩ e_u (x_X6_cursor hst (Or.inr (Or.inl ⟨q2, rfl⟩)) e_k) rfl rfl (Nat.le_of_ble_eq_true rfl) dL_cursor_5 (fun q9 => ?_)
    refine v_astore C (lv' := [(4, .ref q9), (0, .ref a0), (1, .int a1), (2, .int a2), (3, .ref a3)]) dL_cursor_17 (by decide) rfl ?_
    refine v_iconst C (v := 2) dL_cursor_19 (by decide) ?_
    obtain rfl := Option.some.inj h
    exact v_iretW C dL_cursor_20
  have h := ite_f q2 h
  cases h
theorem clL_level_13 : Cond.classLink RL 13 eI ∈ wsL_level := by decide +kernel
theorem clL_level_15 : Cond.classLink RL 15 eA ∈ wsL_level := by decide +kernel
set_option maxRecDepth 100000 in
set_option maxHeartbeats 4000000 in
theorem r_L_level {l : Launch} (hst : l.stackTraces = false) {G : GG} {A : Nat → Prop} {n : Nat} {w : Wd} {a0 : Nat} {a1 : Int32} {a2 : Int32} {a3 : Nat} {z : Int32 × Wd} (h : m_L_level n w a0 a1 a2 a3 = some z) : WCon l yL_level wsL_level { frames := 8, cells := 1, slots := 6, locals := 136 } G A [.ref a0, .int a1, .int a2, .ref a3] w (some (.int z.1)) z.2 := by
  refine WCon.of (own := RL) (cc := cL_level) (maxL := 5) (ret := (some .int)) (hh := [(0, 10, 13, 13), (0, 10, 17, 15)]) rfl (by decide) rfl (Nat.le_of_ble_eq_true rfl) ?_
  intro p e s m args below meth c C hT
  show VQ p l e _ s m args below meth c G A 5 0 0 _ 0 [(0, .ref a0), (1, .int a1), (2, .int a2), (3, .ref a3)] [] w
  unfold m_L_level at h
  obtain ⟨u, e_u, h⟩ := bnd h
  obtain ⟨k, e_k, h⟩ := bnd h
  refine v_aload_n C 3 dL_level_0 rfl rfl ?_
  refine v_iconst C (v := 0) dL_level_1 (by decide) ?_
  refine v_aload_n C 0 dL_level_2 rfl rfl ?_
  refine v_iload_n C 1 dL_level_3 rfl rfl ?_
  refine v_iload_n C 2 dL_level_4 rfl rfl ?_
  by_cases q0 : k = 0
  · have h := ite_t q0 h
    obtain ⟨z1, e_z, h⟩ := bnd h
    refine v_callVi C (ci := 5) (av := [.int a1, .int a2]) (rest := [.int 0, .ref a3]) rfl gL_level_X6_level rfl ⟨rfl, rfl⟩ hV_X6_level ⟨(Nat.le_of_ble_eq_true rfl), (Nat.le_of_ble_eq_true rfl)⟩ e_u (r_X6_level (A := A) e_z) rfl rfl (Nat.le_of_ble_eq_true rfl) dL_level_5 ?_
    refine v_i2l C dL_level_8 ?_
    obtain ⟨w2, e_w2, h⟩ := bnd h
    refine v_last C dL_level_9 e_w2 ?_
    refine v_goto C (tgt := 21) dL_level_10 (by decide) ?_
    refine v_iconst C (v := 0) dL_level_21 (by decide) ?_
    obtain rfl := Option.some.inj h
    refine v_widen (k1 := 1) (s1 := 6) (by decide) (by decide) ?_
    exact v_iretW C dL_level_22
  have h := ite_f q0 h
  by_cases q1 : k = 1
  · have h := ite_t q1 h
    refine xw_callV C [] ⟨0, 10, 13, 13⟩ [⟨0, 10, 17, 15⟩] (by rw [hT]; rfl) (fun _ h => absurd h List.not_mem_nil) (by decide) (by decide) clL_level_13 C.xe.2.1.1 (ci := 5) (av := [.int a1, .int a2]) (rest := [.int 0, .ref a3]) rfl gL_level_X6_level rfl ⟨rfl, rfl⟩ hV_X6_level ⟨(Nat.le_of_ble_eq_true rfl), (Nat.le_of_ble_eq_true rfl)⟩ ⟨(Nat.le_of_ble_eq_true rfl), (Nat.le_of_ble_eq_true rfl)⟩ e_u (x_X6_level hst (Or.inl ⟨q1, rfl⟩) e_k) rfl rfl (Nat.le_of_ble_eq_true rfl) dL_level_5 (fun q9 => ?_)
    refine v_astore C (lv' := [(4, .ref q9), (0, .ref a0), (1, .int a1), (2, .int a2), (3, .ref a3)]) dL_level_13 (by decide) rfl ?_
    refine v_iconst C (v := 1) dL_level_15 (by decide) ?_
    obtain rfl := Option.some.inj h
    exact v_iretW C dL_level_16
  have h := ite_f q1 h
  by_cases q2 : k = 2
  · have h := ite_t q2 h
    refine xw_callV C [⟨0, 10, 13, 13⟩] ⟨0, 10, 17, 15⟩ [] (by rw [hT]; rfl) (List.forall_mem_cons.mpr ⟨Or.inr ⟨by decide, eI, C.2.2.2.2.1 _ clL_level_13, C.xe.2.2.1⟩, (fun _ h => absurd h List.not_mem_nil)⟩) (by decide) (by decide) clL_level_15 C.xe.2.1.2.1 (ci := 5) (av := [.int a1, .int a2]) (rest := [.int 0, .ref a3]) rfl gL_level_X6_level rfl ⟨rfl, rfl⟩ hV_X6_level ⟨(Nat.le_of_ble_eq_true rfl), (Nat.le_of_ble_eq_true rfl)⟩ ⟨(Nat.le_of_ble_eq_true rfl), (Nat.le_of_ble_eq_true rfl)⟩ e_u (x_X6_level hst (Or.inr (Or.inl ⟨q2, rfl⟩)) e_k) rfl rfl (Nat.le_of_ble_eq_true rfl) dL_level_5 (fun q9 => ?_)
    refine v_astore C (lv' := [(4, .ref q9), (0, .ref a0), (1, .int a1), (2, .int a2), (3, .ref a3)]) dL_level_17 (by decide) rfl ?_
    refine v_iconst C (v := 2) dL_level_19 (by decide) ?_
    obtain rfl := Option.some.inj h
    exact v_iretW C dL_level_20
  have h := ite_f q2 h
  cases h
theorem clL_move_13 : Cond.classLink RL 13 eI ∈ wsL_move := by decide +kernel
theorem clL_move_15 : Cond.classLink RL 15 eA ∈ wsL_move := by decide +kernel
theorem clL_move_17 : Cond.classLink RL 17 eS ∈ wsL_move := by decide +kernel
set_option maxRecDepth 100000 in
set_option maxHeartbeats 4000000 in
theorem r_L_move {l : Launch} (hst : l.stackTraces = false) {G : GG} {A : Nat → Prop} {n : Nat} {w : Wd} {a0 : Nat} {a1 : Int32} {a2 : Int32} {a3 : Int32} {a4 : Nat} {z : Int32 × Wd} (h : m_L_move n w a0 a1 a2 a3 a4 = some z) : WCon l yL_move wsL_move { frames := 8, cells := 1, slots := 6, locals := 140 } G A [.ref a0, .int a1, .int a2, .int a3, .ref a4] w (some (.int z.1)) z.2 := by
  refine WCon.of (own := RL) (cc := cL_move) (maxL := 6) (ret := (some .int)) (hh := [(0, 12, 15, 13), (0, 12, 19, 15), (0, 12, 23, 17)]) rfl (by decide) rfl (Nat.le_of_ble_eq_true rfl) ?_
  intro p e s m args below meth c C hT
  show VQ p l e _ s m args below meth c G A 6 0 0 _ 0 [(0, .ref a0), (1, .int a1), (2, .int a2), (3, .int a3), (4, .ref a4)] [] w
  unfold m_L_move at h
  obtain ⟨u, e_u, h⟩ := bnd h
  obtain ⟨k, e_k, h⟩ := bnd h
  refine v_aload C 4 dL_move_0 rfl ?_
  refine v_iconst C (v := 0) dL_move_2 (by decide) ?_
  refine v_aload_n C 0 dL_move_3 rfl rfl ?_
  refine v_iload_n C 1 dL_move_4 rfl rfl ?_
  refine v_iload_n C 2 dL_move_5 rfl rfl ?_
  refine v_iload_n C 3 dL_move_6 rfl rfl ?_
  by_cases q0 : k = 0
  · have h := ite_t q0 h
    obtain ⟨z1, e_z, h⟩ := bnd h
    refine v_callVi C (ci := 5) (av := [.int a1, .int a2, .int a3]) (rest := [.int 0, .ref a4]) rfl gL_move_X6_move rfl ⟨rfl, rfl⟩ hV_X6_move ⟨(Nat.le_of_ble_eq_true rfl), (Nat.le_of_ble_eq_true rfl)⟩ e_u (r_X6_move (A := A) e_z) rfl rfl (Nat.le_of_ble_eq_true rfl) dL_move_7 ?_
    refine v_i2l C dL_move_10 ?_
    obtain ⟨w2, e_w2, h⟩ := bnd h
    refine v_last C dL_move_11 e_w2 ?_
    refine v_goto C (tgt := 27) dL_move_12 (by decide) ?_
    refine v_iconst C (v := 0) dL_move_27 (by decide) ?_
    obtain rfl := Option.some.inj h
    refine v_widen (k1 := 1) (s1 := 6) (by decide) (by decide) ?_
    exact v_iretW C dL_move_28
  have h := ite_f q0 h
  by_cases q1 : k = 1
  · have h := ite_t q1 h
    refine xw_callV C [] ⟨0, 12, 15, 13⟩ [⟨0, 12, 19, 15⟩, ⟨0, 12, 23, 17⟩] (by rw [hT]; rfl) (fun _ h => absurd h List.not_mem_nil) (by decide) (by decide) clL_move_13 C.xe.2.1.1 (ci := 5) (av := [.int a1, .int a2, .int a3]) (rest := [.int 0, .ref a4]) rfl gL_move_X6_move rfl ⟨rfl, rfl⟩ hV_X6_move ⟨(Nat.le_of_ble_eq_true rfl), (Nat.le_of_ble_eq_true rfl)⟩ ⟨(Nat.le_of_ble_eq_true rfl), (Nat.le_of_ble_eq_true rfl)⟩ e_u (x_X6_move hst (Or.inl ⟨q1, rfl⟩) e_k) rfl rfl (Nat.le_of_ble_eq_true rfl) dL_move_7 (fun q9 => ?_)
    refine v_astore C (lv' := [(5, .ref q9), (0, .ref a0), (1, .int a1), (2, .int a2), (3, .int a3), (4, .ref a4)]) dL_move_15 (by decide) rfl ?_
    refine v_iconst C (v := 1) dL_move_17 (by decide) ?_
    obtain rfl := Option.some.inj h
    exact v_iretW C dL_move_18
  have h := ite_f q1 h
  by_cases q2 : k = 2
  · have h := ite_t q2 h
    refine xw_callV C [⟨0, 12, 15, 13⟩] ⟨0, 12, 19, 15⟩ [⟨0, 12, 23, 17⟩] (by rw [hT]; rfl) (List.forall_mem_cons.mpr ⟨Or.inr ⟨by decide, eI, C.2.2.2.2.1 _ clL_move_13, C.xe.2.2.1⟩, (fun _ h => absurd h List.not_mem_nil)⟩) (by decide) (by decide) clL_move_15 C.xe.2.1.2.1 (ci := 5) (av := [.int a1, .int a2, .int a3]) (rest := [.int 0, .ref a4]) rfl gL_move_X6_move rfl ⟨rfl, rfl⟩ hV_X6_move ⟨(Nat.le_of_ble_eq_true rfl), (Nat.le_of_ble_eq_true rfl)⟩ ⟨(Nat.le_of_ble_eq_true rfl), (Nat.le_of_ble_eq_true rfl)⟩ e_u (x_X6_move hst (Or.inr (Or.inl ⟨q2, rfl⟩)) e_k) rfl rfl (Nat.le_of_ble_eq_true rfl) dL_move_7 (fun q9 => ?_)
    refine v_astore C (lv' := [(5, .ref q9), (0, .ref a0), (1, .int a1), (2, .int a2), (3, .int a3), (4, .ref a4)]) dL_move_19 (by decide) rfl ?_
    refine v_iconst C (v := 2) dL_move_21 (by decide) ?_
    obtain rfl := Option.some.inj h
    exact v_iretW C dL_move_22
  have h := ite_f q2 h
  by_cases q3 : k = 3
  · have h := ite_t q3 h
    refine xw_callV C [⟨0, 12, 15, 13⟩, ⟨0, 12, 19, 15⟩] ⟨0, 12, 23, 17⟩ [] (by rw [hT]; rfl) (List.forall_mem_cons.mpr ⟨Or.inr ⟨by decide, eI, C.2.2.2.2.1 _ clL_move_13, C.xe.2.2.2.1⟩, (List.forall_mem_cons.mpr ⟨Or.inr ⟨by decide, eA, C.2.2.2.2.1 _ clL_move_15, C.xe.2.2.2.2⟩, (fun _ h => absurd h List.not_mem_nil)⟩)⟩) (by decide) (by decide) clL_move_17 C.xe.2.1.2.2 (ci := 5) (av := [.int a1, .int a2, .int a3]) (rest := [.int 0, .ref a4]) rfl gL_move_X6_move rfl ⟨rfl, rfl⟩ hV_X6_move ⟨(Nat.le_of_ble_eq_true rfl), (Nat.le_of_ble_eq_true rfl)⟩ ⟨(Nat.le_of_ble_eq_true rfl), (Nat.le_of_ble_eq_true rfl)⟩ e_u (x_X6_move hst (Or.inr (Or.inr ⟨q3, rfl⟩)) e_k) rfl rfl (Nat.le_of_ble_eq_true rfl) dL_move_7 (fun q9 => ?_)
    refine v_astore C (lv' := [(5, .ref q9), (0, .ref a0), (1, .int a1), (2, .int a2), (3, .int a3), (4, .ref a4)]) dL_move_23 (by decide) rfl ?_
    refine v_iconst C (v := 3) dL_move_25 (by decide) ?_
    obtain rfl := Option.some.inj h
    exact v_iretW C dL_move_26
  have h := ite_f q3 h
  cases h
theorem clL_nearest_15 : Cond.classLink RL 15 eA ∈ wsL_nearest := by decide +kernel
set_option maxRecDepth 100000 in
set_option maxHeartbeats 4000000 in
theorem r_L_nearest {l : Launch} (hst : l.stackTraces = false) {G : GG} {A : Nat → Prop} {n : Nat} {w : Wd} {a0 : Nat} {a1 : Int32} {a2 : Int32} {a3 : Int32} {a4 : Nat} {z : Int32 × Wd} (h : m_L_nearest n w a0 a1 a2 a3 a4 = some z) : WCon l yL_nearest wsL_nearest { frames := 8, cells := 1, slots := 6, locals := 127 } G A [.ref a0, .int a1, .int a2, .int a3, .ref a4] w (some (.int z.1)) z.2 := by
  refine WCon.of (own := RL) (cc := cL_nearest) (maxL := 6) (ret := (some .int)) (hh := [(0, 12, 15, 15)]) rfl (by decide) rfl (Nat.le_of_ble_eq_true rfl) ?_
  intro p e s m args below meth c C hT
  show VQ p l e _ s m args below meth c G A 6 0 0 _ 0 [(0, .ref a0), (1, .int a1), (2, .int a2), (3, .int a3), (4, .ref a4)] [] w
  unfold m_L_nearest at h
  obtain ⟨u, e_u, h⟩ := bnd h
  obtain ⟨k, e_k, h⟩ := bnd h
  refine v_aload C 4 dL_nearest_0 rfl ?_
  refine v_iconst C (v := 0) dL_nearest_2 (by decide) ?_
  refine v_aload_n C 0 dL_nearest_3 rfl rfl ?_
  refine v_iload_n C 1 dL_nearest_4 rfl rfl ?_
  refine v_iload_n C 2 dL_nearest_5 rfl rfl ?_
  refine v_iload_n C 3 dL_nearest_6 rfl rfl ?_
  by_cases q0 : k = 0
  · have h := ite_t q0 h
    obtain ⟨z1, e_z, h⟩ := bnd h
    refine v_callVi C (ci := 5) (av := [.int a1, .int a2, .int a3]) (rest := [.int 0, .ref a4]) rfl gL_nearest_X6_nearest rfl ⟨rfl, rfl⟩ hV_X6_nearest ⟨(Nat.le_of_ble_eq_true rfl), (Nat.le_of_ble_eq_true rfl)⟩ e_u (r_X6_nearest (A := A) e_z) rfl rfl (Nat.le_of_ble_eq_true rfl) dL_nearest_7 ?_
    refine v_i2l C dL_nearest_10 ?_
    obtain ⟨w2, e_w2, h⟩ := bnd h
    refine v_last C dL_nearest_11 e_w2 ?_
    refine v_goto C (tgt := 19) dL_nearest_12 (by decide) ?_
    refine v_iconst C (v := 0) dL_nearest_19 (by decide) ?_
    obtain rfl := Option.some.inj h
    refine v_widen (k1 := 1) (s1 := 6) (by decide) (by decide) ?_
    exact v_iretW C dL_nearest_20
  have h := ite_f q0 h
  by_cases q2 : k = 2
  · have h := ite_t q2 h
    refine xw_callV C [] ⟨0, 12, 15, 15⟩ [] (by rw [hT]; rfl) (fun _ h => absurd h List.not_mem_nil) (by decide) (by decide) clL_nearest_15 C.xe.2.1.2.1 (ci := 5) (av := [.int a1, .int a2, .int a3]) (rest := [.int 0, .ref a4]) rfl gL_nearest_X6_nearest rfl ⟨rfl, rfl⟩ hV_X6_nearest ⟨(Nat.le_of_ble_eq_true rfl), (Nat.le_of_ble_eq_true rfl)⟩ ⟨(Nat.le_of_ble_eq_true rfl), (Nat.le_of_ble_eq_true rfl)⟩ e_u (x_X6_nearest hst (Or.inr (Or.inl ⟨q2, rfl⟩)) e_k) rfl rfl (Nat.le_of_ble_eq_true rfl) dL_nearest_7 (fun q9 => ?_)
    refine v_astore C (lv' := [(5, .ref q9), (0, .ref a0), (1, .int a1), (2, .int a2), (3, .int a3), (4, .ref a4)]) dL_nearest_15 (by decide) rfl ?_
    refine v_iconst C (v := 1) dL_nearest_17 (by decide) ?_
    obtain rfl := Option.some.inj h
    exact v_iretW C dL_nearest_18
  have h := ite_f q2 h
  cases h
theorem clL_next_13 : Cond.classLink RL 13 eI ∈ wsL_next := by decide +kernel
set_option maxRecDepth 100000 in
set_option maxHeartbeats 4000000 in
theorem r_L_next {l : Launch} (hst : l.stackTraces = false) {G : GG} {A : Nat → Prop} {n : Nat} {w : Wd} {a0 : Nat} {a1 : Int32} {a2 : Nat} {z : Int32 × Wd} (h : m_L_next n w a0 a1 a2 = some z) : WCon l yL_next wsL_next { frames := 8, cells := 1, slots := 6, locals := 124 } G A [.ref a0, .int a1, .ref a2] w (some (.int z.1)) z.2 := by
  refine WCon.of (own := RL) (cc := cL_next) (maxL := 4) (ret := (some .int)) (hh := [(0, 9, 12, 13)]) rfl (by decide) rfl (Nat.le_of_ble_eq_true rfl) ?_
  intro p e s m args below meth c C hT
  show VQ p l e _ s m args below meth c G A 4 0 0 _ 0 [(0, .ref a0), (1, .int a1), (2, .ref a2)] [] w
  unfold m_L_next at h
  obtain ⟨u, e_u, h⟩ := bnd h
  obtain ⟨k, e_k, h⟩ := bnd h
  refine v_aload_n C 2 dL_next_0 rfl rfl ?_
  refine v_iconst C (v := 0) dL_next_1 (by decide) ?_
  refine v_aload_n C 0 dL_next_2 rfl rfl ?_
  refine v_iload_n C 1 dL_next_3 rfl rfl ?_
  by_cases q0 : k = 0
  · have h := ite_t q0 h
    obtain ⟨z1, e_z, h⟩ := bnd h
    refine v_callVi C (ci := 5) (av := [.int a1]) (rest := [.int 0, .ref a2]) rfl gL_next_X6_next rfl ⟨rfl, rfl⟩ hV_X6_next ⟨(Nat.le_of_ble_eq_true rfl), (Nat.le_of_ble_eq_true rfl)⟩ e_u (r_X6_next (A := A) e_z) rfl rfl (Nat.le_of_ble_eq_true rfl) dL_next_4 ?_
    refine v_i2l C dL_next_7 ?_
    obtain ⟨w2, e_w2, h⟩ := bnd h
    refine v_last C dL_next_8 e_w2 ?_
    refine v_goto C (tgt := 15) dL_next_9 (by decide) ?_
    refine v_iconst C (v := 0) dL_next_15 (by decide) ?_
    obtain rfl := Option.some.inj h
    refine v_widen (k1 := 1) (s1 := 6) (by decide) (by decide) ?_
    exact v_iretW C dL_next_16
  have h := ite_f q0 h
  by_cases q1 : k = 1
  · have h := ite_t q1 h
    refine xw_callV C [] ⟨0, 9, 12, 13⟩ [] (by rw [hT]; rfl) (fun _ h => absurd h List.not_mem_nil) (by decide) (by decide) clL_next_13 C.xe.2.1.1 (ci := 5) (av := [.int a1]) (rest := [.int 0, .ref a2]) rfl gL_next_X6_next rfl ⟨rfl, rfl⟩ hV_X6_next ⟨(Nat.le_of_ble_eq_true rfl), (Nat.le_of_ble_eq_true rfl)⟩ ⟨(Nat.le_of_ble_eq_true rfl), (Nat.le_of_ble_eq_true rfl)⟩ e_u (x_X6_next hst (Or.inl ⟨q1, rfl⟩) e_k) rfl rfl (Nat.le_of_ble_eq_true rfl) dL_next_4 (fun q9 => ?_)
    refine v_astore_n C (lv' := [(3, .ref q9), (0, .ref a0), (1, .int a1), (2, .ref a2)]) dL_next_12 rfl (by decide) rfl ?_
    refine v_iconst C (v := 1) dL_next_13 (by decide) ?_
    obtain rfl := Option.some.inj h
    exact v_iretW C dL_next_14
  have h := ite_f q1 h
  cases h
theorem clL_node_13 : Cond.classLink RL 13 eI ∈ wsL_node := by decide +kernel
theorem clL_node_15 : Cond.classLink RL 15 eA ∈ wsL_node := by decide +kernel
set_option maxRecDepth 100000 in
set_option maxHeartbeats 4000000 in
theorem r_L_node {l : Launch} (hst : l.stackTraces = false) {G : GG} {A : Nat → Prop} {n : Nat} {w : Wd} {a0 : Nat} {a1 : Int32} {a2 : Int32} {a3 : Int32} {a4 : Nat} {z : Int32 × Wd} (h : m_L_node n w a0 a1 a2 a3 a4 = some z) : WCon l yL_node wsL_node { frames := 8, cells := 1, slots := 6, locals := 127 } G A [.ref a0, .int a1, .int a2, .int a3, .ref a4] w (some (.int z.1)) z.2 := by
  refine WCon.of (own := RL) (cc := cL_node) (maxL := 6) (ret := (some .int)) (hh := [(0, 12, 15, 13), (0, 12, 19, 15)]) rfl (by decide) rfl (Nat.le_of_ble_eq_true rfl) ?_
  intro p e s m args below meth c C hT
  show VQ p l e _ s m args below meth c G A 6 0 0 _ 0 [(0, .ref a0), (1, .int a1), (2, .int a2), (3, .int a3), (4, .ref a4)] [] w
  unfold m_L_node at h
  obtain ⟨u, e_u, h⟩ := bnd h
  obtain ⟨k, e_k, h⟩ := bnd h
  refine v_aload C 4 dL_node_0 rfl ?_
  refine v_iconst C (v := 0) dL_node_2 (by decide) ?_
  refine v_aload_n C 0 dL_node_3 rfl rfl ?_
  refine v_iload_n C 1 dL_node_4 rfl rfl ?_
  refine v_iload_n C 2 dL_node_5 rfl rfl ?_
  refine v_iload_n C 3 dL_node_6 rfl rfl ?_
  by_cases q0 : k = 0
  · have h := ite_t q0 h
    obtain ⟨z1, e_z, h⟩ := bnd h
    refine v_callVi C (ci := 5) (av := [.int a1, .int a2, .int a3]) (rest := [.int 0, .ref a4]) rfl gL_node_X6_node rfl ⟨rfl, rfl⟩ hV_X6_node ⟨(Nat.le_of_ble_eq_true rfl), (Nat.le_of_ble_eq_true rfl)⟩ e_u (r_X6_node (A := A) e_z) rfl rfl (Nat.le_of_ble_eq_true rfl) dL_node_7 ?_
    refine v_i2l C dL_node_10 ?_
    obtain ⟨w2, e_w2, h⟩ := bnd h
    refine v_last C dL_node_11 e_w2 ?_
    refine v_goto C (tgt := 23) dL_node_12 (by decide) ?_
    refine v_iconst C (v := 0) dL_node_23 (by decide) ?_
    obtain rfl := Option.some.inj h
    refine v_widen (k1 := 1) (s1 := 6) (by decide) (by decide) ?_
    exact v_iretW C dL_node_24
  have h := ite_f q0 h
  by_cases q1 : k = 1
  · have h := ite_t q1 h
    refine xw_callV C [] ⟨0, 12, 15, 13⟩ [⟨0, 12, 19, 15⟩] (by rw [hT]; rfl) (fun _ h => absurd h List.not_mem_nil) (by decide) (by decide) clL_node_13 C.xe.2.1.1 (ci := 5) (av := [.int a1, .int a2, .int a3]) (rest := [.int 0, .ref a4]) rfl gL_node_X6_node rfl ⟨rfl, rfl⟩ hV_X6_node ⟨(Nat.le_of_ble_eq_true rfl), (Nat.le_of_ble_eq_true rfl)⟩ ⟨(Nat.le_of_ble_eq_true rfl), (Nat.le_of_ble_eq_true rfl)⟩ e_u (x_X6_node hst (Or.inl ⟨q1, rfl⟩) e_k) rfl rfl (Nat.le_of_ble_eq_true rfl) dL_node_7 (fun q9 => ?_)
    refine v_astore C (lv' := [(5, .ref q9), (0, .ref a0), (1, .int a1), (2, .int a2), (3, .int a3), (4, .ref a4)]) dL_node_15 (by decide) rfl ?_
    refine v_iconst C (v := 1) dL_node_17 (by decide) ?_
    obtain rfl := Option.some.inj h
    exact v_iretW C dL_node_18
  have h := ite_f q1 h
  by_cases q2 : k = 2
  · have h := ite_t q2 h
    refine xw_callV C [⟨0, 12, 15, 13⟩] ⟨0, 12, 19, 15⟩ [] (by rw [hT]; rfl) (List.forall_mem_cons.mpr ⟨Or.inr ⟨by decide, eI, C.2.2.2.2.1 _ clL_node_13, C.xe.2.2.1⟩, (fun _ h => absurd h List.not_mem_nil)⟩) (by decide) (by decide) clL_node_15 C.xe.2.1.2.1 (ci := 5) (av := [.int a1, .int a2, .int a3]) (rest := [.int 0, .ref a4]) rfl gL_node_X6_node rfl ⟨rfl, rfl⟩ hV_X6_node ⟨(Nat.le_of_ble_eq_true rfl), (Nat.le_of_ble_eq_true rfl)⟩ ⟨(Nat.le_of_ble_eq_true rfl), (Nat.le_of_ble_eq_true rfl)⟩ e_u (x_X6_node hst (Or.inr (Or.inl ⟨q2, rfl⟩)) e_k) rfl rfl (Nat.le_of_ble_eq_true rfl) dL_node_7 (fun q9 => ?_)
    refine v_astore C (lv' := [(5, .ref q9), (0, .ref a0), (1, .int a1), (2, .int a2), (3, .int a3), (4, .ref a4)]) dL_node_19 (by decide) rfl ?_
    refine v_iconst C (v := 2) dL_node_21 (by decide) ?_
    obtain rfl := Option.some.inj h
    exact v_iretW C dL_node_22
  have h := ite_f q2 h
  cases h
theorem clL_open_13 : Cond.classLink RL 13 eI ∈ wsL_open := by decide +kernel
theorem clL_open_15 : Cond.classLink RL 15 eA ∈ wsL_open := by decide +kernel
set_option maxRecDepth 100000 in
set_option maxHeartbeats 4000000 in
theorem r_L_open {l : Launch} (hst : l.stackTraces = false) {G : GG} {A : Nat → Prop} {n : Nat} {w : Wd} {a0 : Nat} {a1 : Int32} {a2 : Int32} {a3 : Int32} {a4 : Nat} {z : Int32 × Wd} (h : m_L_open n w a0 a1 a2 a3 a4 = some z) : WCon l yL_open wsL_open { frames := 8, cells := 1, slots := 6, locals := 125 } G A [.ref a0, .int a1, .int a2, .int a3, .ref a4] w (some (.int z.1)) z.2 := by
  refine WCon.of (own := RL) (cc := cL_open) (maxL := 6) (ret := (some .int)) (hh := [(0, 12, 15, 13), (0, 12, 19, 15)]) rfl (by decide) rfl (Nat.le_of_ble_eq_true rfl) ?_
  intro p e s m args below meth c C hT
  show VQ p l e _ s m args below meth c G A 6 0 0 _ 0 [(0, .ref a0), (1, .int a1), (2, .int a2), (3, .int a3), (4, .ref a4)] [] w
  unfold m_L_open at h
  obtain ⟨u, e_u, h⟩ := bnd h
  obtain ⟨k, e_k, h⟩ := bnd h
  refine v_aload C 4 dL_open_0 rfl ?_
  refine v_iconst C (v := 0) dL_open_2 (by decide) ?_
  refine v_aload_n C 0 dL_open_3 rfl rfl ?_
  refine v_iload_n C 1 dL_open_4 rfl rfl ?_
  refine v_iload_n C 2 dL_open_5 rfl rfl ?_
  refine v_iload_n C 3 dL_open_6 rfl rfl ?_
  by_cases q0 : k = 0
  · have h := ite_t q0 h
    obtain ⟨z1, e_z, h⟩ := bnd h
    refine v_callVi C (ci := 5) (av := [.int a1, .int a2, .int a3]) (rest := [.int 0, .ref a4]) rfl gL_open_X6_open rfl ⟨rfl, rfl⟩ hV_X6_open ⟨(Nat.le_of_ble_eq_true rfl), (Nat.le_of_ble_eq_true rfl)⟩ e_u (r_X6_open (A := A) e_z) rfl rfl (Nat.le_of_ble_eq_true rfl) dL_open_7 ?_
    refine v_i2l C dL_open_10 ?_
    obtain ⟨w2, e_w2, h⟩ := bnd h
    refine v_last C dL_open_11 e_w2 ?_
    refine v_goto C (tgt := 23) dL_open_12 (by decide) ?_
    refine v_iconst C (v := 0) dL_open_23 (by decide) ?_
    obtain rfl := Option.some.inj h
    refine v_widen (k1 := 1) (s1 := 6) (by decide) (by decide) ?_
    exact v_iretW C dL_open_24
  have h := ite_f q0 h
  by_cases q1 : k = 1
  · have h := ite_t q1 h
    refine xw_callV C [] ⟨0, 12, 15, 13⟩ [⟨0, 12, 19, 15⟩] (by rw [hT]; rfl) (fun _ h => absurd h List.not_mem_nil) (by decide) (by decide) clL_open_13 C.xe.2.1.1 (ci := 5) (av := [.int a1, .int a2, .int a3]) (rest := [.int 0, .ref a4]) rfl gL_open_X6_open rfl ⟨rfl, rfl⟩ hV_X6_open ⟨(Nat.le_of_ble_eq_true rfl), (Nat.le_of_ble_eq_true rfl)⟩ ⟨(Nat.le_of_ble_eq_true rfl), (Nat.le_of_ble_eq_true rfl)⟩ e_u (x_X6_open hst (Or.inl ⟨q1, rfl⟩) e_k) rfl rfl (Nat.le_of_ble_eq_true rfl) dL_open_7 (fun q9 => ?_)
    refine v_astore C (lv' := [(5, .ref q9), (0, .ref a0), (1, .int a1), (2, .int a2), (3, .int a3), (4, .ref a4)]) dL_open_15 (by decide) rfl ?_
    refine v_iconst C (v := 1) dL_open_17 (by decide) ?_
    obtain rfl := Option.some.inj h
    exact v_iretW C dL_open_18
  have h := ite_f q1 h
  by_cases q2 : k = 2
  · have h := ite_t q2 h
    refine xw_callV C [⟨0, 12, 15, 13⟩] ⟨0, 12, 19, 15⟩ [] (by rw [hT]; rfl) (List.forall_mem_cons.mpr ⟨Or.inr ⟨by decide, eI, C.2.2.2.2.1 _ clL_open_13, C.xe.2.2.1⟩, (fun _ h => absurd h List.not_mem_nil)⟩) (by decide) (by decide) clL_open_15 C.xe.2.1.2.1 (ci := 5) (av := [.int a1, .int a2, .int a3]) (rest := [.int 0, .ref a4]) rfl gL_open_X6_open rfl ⟨rfl, rfl⟩ hV_X6_open ⟨(Nat.le_of_ble_eq_true rfl), (Nat.le_of_ble_eq_true rfl)⟩ ⟨(Nat.le_of_ble_eq_true rfl), (Nat.le_of_ble_eq_true rfl)⟩ e_u (x_X6_open hst (Or.inr (Or.inl ⟨q2, rfl⟩)) e_k) rfl rfl (Nat.le_of_ble_eq_true rfl) dL_open_7 (fun q9 => ?_)
    refine v_astore C (lv' := [(5, .ref q9), (0, .ref a0), (1, .int a1), (2, .int a2), (3, .int a3), (4, .ref a4)]) dL_open_19 (by decide) rfl ?_
    refine v_iconst C (v := 2) dL_open_21 (by decide) ?_
    obtain rfl := Option.some.inj h
    exact v_iretW C dL_open_22
  have h := ite_f q2 h
  cases h
theorem clL_point_13 : Cond.classLink RL 13 eI ∈ wsL_point := by decide +kernel
theorem clL_point_15 : Cond.classLink RL 15 eA ∈ wsL_point := by decide +kernel
set_option maxRecDepth 100000 in
set_option maxHeartbeats 4000000 in
theorem r_L_point {l : Launch} (hst : l.stackTraces = false) {G : GG} {A : Nat → Prop} {n : Nat} {w : Wd} {a0 : Nat} {a1 : Int32} {a2 : Int32} {a3 : Nat} {z : Int32 × Wd} (h : m_L_point n w a0 a1 a2 a3 = some z) : WCon l yL_point wsL_point { frames := 8, cells := 1, slots := 6, locals := 124 } G A [.ref a0, .int a1, .int a2, .ref a3] w (some (.int z.1)) z.2 := by
  refine WCon.of (own := RL) (cc := cL_point) (maxL := 5) (ret := (some .int)) (hh := [(0, 10, 13, 13), (0, 10, 17, 15)]) rfl (by decide) rfl (Nat.le_of_ble_eq_true rfl) ?_
  intro p e s m args below meth c C hT
  show VQ p l e _ s m args below meth c G A 5 0 0 _ 0 [(0, .ref a0), (1, .int a1), (2, .int a2), (3, .ref a3)] [] w
  unfold m_L_point at h
  obtain ⟨u, e_u, h⟩ := bnd h
  obtain ⟨k, e_k, h⟩ := bnd h
  refine v_aload_n C 3 dL_point_0 rfl rfl ?_
  refine v_iconst C (v := 0) dL_point_1 (by decide) ?_
  refine v_aload_n C 0 dL_point_2 rfl rfl ?_
  refine v_iload_n C 1 dL_point_3 rfl rfl ?_
  refine v_iload_n C 2 dL_point_4 rfl rfl ?_
  by_cases q0 : k = 0
  · have h := ite_t q0 h
    obtain ⟨z1, e_z, h⟩ := bnd h
    refine v_callVi C (ci := 5) (av := [.int a1, .int a2]) (rest := [.int 0, .ref a3]) rfl gL_point_X6_point rfl ⟨rfl, rfl⟩ hV_X6_point ⟨(Nat.le_of_ble_eq_true rfl), (Nat.le_of_ble_eq_true rfl)⟩ e_u (r_X6_point (A := A) e_z) rfl rfl (Nat.le_of_ble_eq_true rfl) dL_point_5 ?_
    refine v_i2l C dL_point_8 ?_
    obtain ⟨w2, e_w2, h⟩ := bnd h
    refine v_last C dL_point_9 e_w2 ?_
    refine v_goto C (tgt := 21) dL_point_10 (by decide) ?_
    refine v_iconst C (v := 0) dL_point_21 (by decide) ?_
    obtain rfl := Option.some.inj h
    refine v_widen (k1 := 1) (s1 := 6) (by decide) (by decide) ?_
    exact v_iretW C dL_point_22
  have h := ite_f q0 h
  by_cases q1 : k = 1
  · have h := ite_t q1 h
    refine xw_callV C [] ⟨0, 10, 13, 13⟩ [⟨0, 10, 17, 15⟩] (by rw [hT]; rfl) (fun _ h => absurd h List.not_mem_nil) (by decide) (by decide) clL_point_13 C.xe.2.1.1 (ci := 5) (av := [.int a1, .int a2]) (rest := [.int 0, .ref a3]) rfl gL_point_X6_point rfl ⟨rfl, rfl⟩ hV_X6_point ⟨(Nat.le_of_ble_eq_true rfl), (Nat.le_of_ble_eq_true rfl)⟩ ⟨(Nat.le_of_ble_eq_true rfl), (Nat.le_of_ble_eq_true rfl)⟩ e_u (x_X6_point hst (Or.inl ⟨q1, rfl⟩) e_k) rfl rfl (Nat.le_of_ble_eq_true rfl) dL_point_5 (fun q9 => ?_)
    refine v_astore C (lv' := [(4, .ref q9), (0, .ref a0), (1, .int a1), (2, .int a2), (3, .ref a3)]) dL_point_13 (by decide) rfl ?_
    refine v_iconst C (v := 1) dL_point_15 (by decide) ?_
    obtain rfl := Option.some.inj h
    exact v_iretW C dL_point_16
  have h := ite_f q1 h
  by_cases q2 : k = 2
  · have h := ite_t q2 h
    refine xw_callV C [⟨0, 10, 13, 13⟩] ⟨0, 10, 17, 15⟩ [] (by rw [hT]; rfl) (List.forall_mem_cons.mpr ⟨Or.inr ⟨by decide, eI, C.2.2.2.2.1 _ clL_point_13, C.xe.2.2.1⟩, (fun _ h => absurd h List.not_mem_nil)⟩) (by decide) (by decide) clL_point_15 C.xe.2.1.2.1 (ci := 5) (av := [.int a1, .int a2]) (rest := [.int 0, .ref a3]) rfl gL_point_X6_point rfl ⟨rfl, rfl⟩ hV_X6_point ⟨(Nat.le_of_ble_eq_true rfl), (Nat.le_of_ble_eq_true rfl)⟩ ⟨(Nat.le_of_ble_eq_true rfl), (Nat.le_of_ble_eq_true rfl)⟩ e_u (x_X6_point hst (Or.inr (Or.inl ⟨q2, rfl⟩)) e_k) rfl rfl (Nat.le_of_ble_eq_true rfl) dL_point_5 (fun q9 => ?_)
    refine v_astore C (lv' := [(4, .ref q9), (0, .ref a0), (1, .int a1), (2, .int a2), (3, .ref a3)]) dL_point_17 (by decide) rfl ?_
    refine v_iconst C (v := 2) dL_point_19 (by decide) ?_
    obtain rfl := Option.some.inj h
    exact v_iretW C dL_point_20
  have h := ite_f q2 h
  cases h
theorem clL_remove_13 : Cond.classLink RL 13 eI ∈ wsL_remove := by decide +kernel
theorem clL_remove_17 : Cond.classLink RL 17 eS ∈ wsL_remove := by decide +kernel
set_option maxRecDepth 100000 in
set_option maxHeartbeats 4000000 in
theorem r_L_remove {l : Launch} (hst : l.stackTraces = false) {G : GG} {A : Nat → Prop} {n : Nat} {w : Wd} {a0 : Nat} {a1 : Int32} {a2 : Nat} {z : Int32 × Wd} (h : m_L_remove n w a0 a1 a2 = some z) : WCon l yL_remove wsL_remove { frames := 8, cells := 1, slots := 6, locals := 136 } G A [.ref a0, .int a1, .ref a2] w (some (.int z.1)) z.2 := by
  refine WCon.of (own := RL) (cc := cL_remove) (maxL := 4) (ret := (some .int)) (hh := [(0, 9, 12, 13), (0, 9, 15, 17)]) rfl (by decide) rfl (Nat.le_of_ble_eq_true rfl) ?_
  intro p e s m args below meth c C hT
  show VQ p l e _ s m args below meth c G A 4 0 0 _ 0 [(0, .ref a0), (1, .int a1), (2, .ref a2)] [] w
  unfold m_L_remove at h
  obtain ⟨u, e_u, h⟩ := bnd h
  obtain ⟨k, e_k, h⟩ := bnd h
  refine v_aload_n C 2 dL_remove_0 rfl rfl ?_
  refine v_iconst C (v := 0) dL_remove_1 (by decide) ?_
  refine v_aload_n C 0 dL_remove_2 rfl rfl ?_
  refine v_iload_n C 1 dL_remove_3 rfl rfl ?_
  by_cases q0 : k = 0
  · have h := ite_t q0 h
    obtain ⟨z1, e_z, h⟩ := bnd h
    refine v_callVi C (ci := 5) (av := [.int a1]) (rest := [.int 0, .ref a2]) rfl gL_remove_X6_remove rfl ⟨rfl, rfl⟩ hV_X6_remove ⟨(Nat.le_of_ble_eq_true rfl), (Nat.le_of_ble_eq_true rfl)⟩ e_u (r_X6_remove (A := A) e_z) rfl rfl (Nat.le_of_ble_eq_true rfl) dL_remove_4 ?_
    refine v_i2l C dL_remove_7 ?_
    obtain ⟨w2, e_w2, h⟩ := bnd h
    refine v_last C dL_remove_8 e_w2 ?_
    refine v_goto C (tgt := 18) dL_remove_9 (by decide) ?_
    refine v_iconst C (v := 0) dL_remove_18 (by decide) ?_
    obtain rfl := Option.some.inj h
    refine v_widen (k1 := 1) (s1 := 6) (by decide) (by decide) ?_
    exact v_iretW C dL_remove_19
  have h := ite_f q0 h
  by_cases q1 : k = 1
  · have h := ite_t q1 h
    refine xw_callV C [] ⟨0, 9, 12, 13⟩ [⟨0, 9, 15, 17⟩] (by rw [hT]; rfl) (fun _ h => absurd h List.not_mem_nil) (by decide) (by decide) clL_remove_13 C.xe.2.1.1 (ci := 5) (av := [.int a1]) (rest := [.int 0, .ref a2]) rfl gL_remove_X6_remove rfl ⟨rfl, rfl⟩ hV_X6_remove ⟨(Nat.le_of_ble_eq_true rfl), (Nat.le_of_ble_eq_true rfl)⟩ ⟨(Nat.le_of_ble_eq_true rfl), (Nat.le_of_ble_eq_true rfl)⟩ e_u (x_X6_remove hst (Or.inl ⟨q1, rfl⟩) e_k) rfl rfl (Nat.le_of_ble_eq_true rfl) dL_remove_4 (fun q9 => ?_)
    refine v_astore_n C (lv' := [(3, .ref q9), (0, .ref a0), (1, .int a1), (2, .ref a2)]) dL_remove_12 rfl (by decide) rfl ?_
    refine v_iconst C (v := 1) dL_remove_13 (by decide) ?_
    obtain rfl := Option.some.inj h
    exact v_iretW C dL_remove_14
  have h := ite_f q1 h
  by_cases q3 : k = 3
  · have h := ite_t q3 h
    refine xw_callV C [⟨0, 9, 12, 13⟩] ⟨0, 9, 15, 17⟩ [] (by rw [hT]; rfl) (List.forall_mem_cons.mpr ⟨Or.inr ⟨by decide, eI, C.2.2.2.2.1 _ clL_remove_13, C.xe.2.2.2.1⟩, (fun _ h => absurd h List.not_mem_nil)⟩) (by decide) (by decide) clL_remove_17 C.xe.2.1.2.2 (ci := 5) (av := [.int a1]) (rest := [.int 0, .ref a2]) rfl gL_remove_X6_remove rfl ⟨rfl, rfl⟩ hV_X6_remove ⟨(Nat.le_of_ble_eq_true rfl), (Nat.le_of_ble_eq_true rfl)⟩ ⟨(Nat.le_of_ble_eq_true rfl), (Nat.le_of_ble_eq_true rfl)⟩ e_u (x_X6_remove hst (Or.inr (Or.inr ⟨q3, rfl⟩)) e_k) rfl rfl (Nat.le_of_ble_eq_true rfl) dL_remove_4 (fun q9 => ?_)
    refine v_astore_n C (lv' := [(3, .ref q9), (0, .ref a0), (1, .int a1), (2, .ref a2)]) dL_remove_15 rfl (by decide) rfl ?_
    refine v_iconst C (v := 2) dL_remove_16 (by decide) ?_
    obtain rfl := Option.some.inj h
    exact v_iretW C dL_remove_17
  have h := ite_f q3 h
  cases h
theorem clL_scatter_13 : Cond.classLink RL 13 eI ∈ wsL_scatter := by decide +kernel
theorem clL_scatter_15 : Cond.classLink RL 15 eA ∈ wsL_scatter := by decide +kernel
set_option maxRecDepth 100000 in
set_option maxHeartbeats 4000000 in
theorem r_L_scatter {l : Launch} (hst : l.stackTraces = false) {G : GG} {A : Nat → Prop} {n : Nat} {w : Wd} {a0 : Nat} {a1 : Int32} {a2 : Int32} {a3 : Int32} {a4 : Int32} {a5 : Nat} {z : Int32 × Wd} (h : m_L_scatter n w a0 a1 a2 a3 a4 a5 = some z) : WCon l yL_scatter wsL_scatter { frames := 8, cells := 1, slots := 6, locals := 130 } G A [.ref a0, .int a1, .int a2, .int a3, .int a4, .ref a5] w (some (.int z.1)) z.2 := by
  refine WCon.of (own := RL) (cc := cL_scatter) (maxL := 7) (ret := (some .int)) (hh := [(0, 14, 17, 13), (0, 14, 21, 15)]) rfl (by decide) rfl (Nat.le_of_ble_eq_true rfl) ?_
  intro p e s m args below meth c C hT
  show VQ p l e _ s m args below meth c G A 7 0 0 _ 0 [(0, .ref a0), (1, .int a1), (2, .int a2), (3, .int a3), (4, .int a4), (5, .ref a5)] [] w
  unfold m_L_scatter at h
  obtain ⟨u, e_u, h⟩ := bnd h
  obtain ⟨k, e_k, h⟩ := bnd h
  refine v_aload C 5 dL_scatter_0 rfl ?_
  refine v_iconst C (v := 0) dL_scatter_2 (by decide) ?_
  refine v_aload_n C 0 dL_scatter_3 rfl rfl ?_
  refine v_iload_n C 1 dL_scatter_4 rfl rfl ?_
  refine v_iload_n C 2 dL_scatter_5 rfl rfl ?_
  refine v_iload_n C 3 dL_scatter_6 rfl rfl ?_
  refine v_iload C 4 dL_scatter_7 rfl ?_
  by_cases q0 : k = 0
  · have h := ite_t q0 h
    obtain ⟨z1, e_z, h⟩ := bnd h
    refine v_callVi C (ci := 5) (av := [.int a1, .int a2, .int a3, .int a4]) (rest := [.int 0, .ref a5]) rfl gL_scatter_X6_scatter rfl ⟨rfl, rfl⟩ hV_X6_scatter ⟨(Nat.le_of_ble_eq_true rfl), (Nat.le_of_ble_eq_true rfl)⟩ e_u (r_X6_scatter (A := A) e_z) rfl rfl (Nat.le_of_ble_eq_true rfl) dL_scatter_9 ?_
    refine v_i2l C dL_scatter_12 ?_
    obtain ⟨w2, e_w2, h⟩ := bnd h
    refine v_last C dL_scatter_13 e_w2 ?_
    refine v_goto C (tgt := 25) dL_scatter_14 (by decide) ?_
    refine v_iconst C (v := 0) dL_scatter_25 (by decide) ?_
    obtain rfl := Option.some.inj h
    refine v_widen (k1 := 1) (s1 := 6) (by decide) (by decide) ?_
    exact v_iretW C dL_scatter_26
  have h := ite_f q0 h
  by_cases q1 : k = 1
  · have h := ite_t q1 h
    refine xw_callV C [] ⟨0, 14, 17, 13⟩ [⟨0, 14, 21, 15⟩] (by rw [hT]; rfl) (fun _ h => absurd h List.not_mem_nil) (by decide) (by decide) clL_scatter_13 C.xe.2.1.1 (ci := 5) (av := [.int a1, .int a2, .int a3, .int a4]) (rest := [.int 0, .ref a5]) rfl gL_scatter_X6_scatter rfl ⟨rfl, rfl⟩ hV_X6_scatter ⟨(Nat.le_of_ble_eq_true rfl), (Nat.le_of_ble_eq_true rfl)⟩ ⟨(Nat.le_of_ble_eq_true rfl), (Nat.le_of_ble_eq_true rfl)⟩ e_u (x_X6_scatter hst (Or.inl ⟨q1, rfl⟩) e_k) rfl rfl (Nat.le_of_ble_eq_true rfl) dL_scatter_9 (fun q9 => ?_)
    refine v_astore C (lv' := [(6, .ref q9), (0, .ref a0), (1, .int a1), (2, .int a2), (3, .int a3), (4, .int a4), (5, .ref a5)]) dL_scatter_17 (by decide) rfl ?_
    refine v_iconst C (v := 1) dL_scatter_19 (by decide) ?_
    obtain rfl := Option.some.inj h
    exact v_iretW C dL_scatter_20
  have h := ite_f q1 h
  by_cases q2 : k = 2
  · have h := ite_t q2 h
    refine xw_callV C [⟨0, 14, 17, 13⟩] ⟨0, 14, 21, 15⟩ [] (by rw [hT]; rfl) (List.forall_mem_cons.mpr ⟨Or.inr ⟨by decide, eI, C.2.2.2.2.1 _ clL_scatter_13, C.xe.2.2.1⟩, (fun _ h => absurd h List.not_mem_nil)⟩) (by decide) (by decide) clL_scatter_15 C.xe.2.1.2.1 (ci := 5) (av := [.int a1, .int a2, .int a3, .int a4]) (rest := [.int 0, .ref a5]) rfl gL_scatter_X6_scatter rfl ⟨rfl, rfl⟩ hV_X6_scatter ⟨(Nat.le_of_ble_eq_true rfl), (Nat.le_of_ble_eq_true rfl)⟩ ⟨(Nat.le_of_ble_eq_true rfl), (Nat.le_of_ble_eq_true rfl)⟩ e_u (x_X6_scatter hst (Or.inr (Or.inl ⟨q2, rfl⟩)) e_k) rfl rfl (Nat.le_of_ble_eq_true rfl) dL_scatter_9 (fun q9 => ?_)
    refine v_astore C (lv' := [(6, .ref q9), (0, .ref a0), (1, .int a1), (2, .int a2), (3, .int a3), (4, .int a4), (5, .ref a5)]) dL_scatter_21 (by decide) rfl ?_
    refine v_iconst C (v := 2) dL_scatter_23 (by decide) ?_
    obtain rfl := Option.some.inj h
    exact v_iretW C dL_scatter_24
  have h := ite_f q2 h
  cases h
theorem clL_search_15 : Cond.classLink RL 15 eA ∈ wsL_search := by decide +kernel
set_option maxRecDepth 100000 in
set_option maxHeartbeats 4000000 in
theorem r_L_search {l : Launch} (hst : l.stackTraces = false) {G : GG} {A : Nat → Prop} {n : Nat} {w : Wd} {a0 : Nat} {a1 : Int32} {a2 : Int32} {a3 : Int32} {a4 : Int32} {a5 : Nat} {z : Int32 × Wd} (h : m_L_search n w a0 a1 a2 a3 a4 a5 = some z) : WCon l yL_search wsL_search { frames := 8, cells := 1, slots := 6, locals := 168 } G A [.ref a0, .int a1, .int a2, .int a3, .int a4, .ref a5] w (some (.int z.1)) z.2 := by
  refine WCon.of (own := RL) (cc := cL_search) (maxL := 7) (ret := (some .int)) (hh := [(0, 14, 17, 15)]) rfl (by decide) rfl (Nat.le_of_ble_eq_true rfl) ?_
  intro p e s m args below meth c C hT
  show VQ p l e _ s m args below meth c G A 7 0 0 _ 0 [(0, .ref a0), (1, .int a1), (2, .int a2), (3, .int a3), (4, .int a4), (5, .ref a5)] [] w
  unfold m_L_search at h
  obtain ⟨u, e_u, h⟩ := bnd h
  obtain ⟨k, e_k, h⟩ := bnd h
  refine v_aload C 5 dL_search_0 rfl ?_
  refine v_iconst C (v := 0) dL_search_2 (by decide) ?_
  refine v_aload_n C 0 dL_search_3 rfl rfl ?_
  refine v_iload_n C 1 dL_search_4 rfl rfl ?_
  refine v_iload_n C 2 dL_search_5 rfl rfl ?_
  refine v_iload_n C 3 dL_search_6 rfl rfl ?_
  refine v_iload C 4 dL_search_7 rfl ?_
  by_cases q0 : k = 0
  · have h := ite_t q0 h
    obtain ⟨z1, e_z, h⟩ := bnd h
    refine v_callVi C (ci := 5) (av := [.int a1, .int a2, .int a3, .int a4]) (rest := [.int 0, .ref a5]) rfl gL_search_X6_search rfl ⟨rfl, rfl⟩ hV_X6_search ⟨(Nat.le_of_ble_eq_true rfl), (Nat.le_of_ble_eq_true rfl)⟩ e_u (r_X6_search (A := A) e_z) rfl rfl (Nat.le_of_ble_eq_true rfl) dL_search_9 ?_
    refine v_i2l C dL_search_12 ?_
    obtain ⟨w2, e_w2, h⟩ := bnd h
    refine v_last C dL_search_13 e_w2 ?_
    refine v_goto C (tgt := 21) dL_search_14 (by decide) ?_
    refine v_iconst C (v := 0) dL_search_21 (by decide) ?_
    obtain rfl := Option.some.inj h
    refine v_widen (k1 := 1) (s1 := 6) (by decide) (by decide) ?_
    exact v_iretW C dL_search_22
  have h := ite_f q0 h
  by_cases q2 : k = 2
  · have h := ite_t q2 h
    refine xw_callV C [] ⟨0, 14, 17, 15⟩ [] (by rw [hT]; rfl) (fun _ h => absurd h List.not_mem_nil) (by decide) (by decide) clL_search_15 C.xe.2.1.2.1 (ci := 5) (av := [.int a1, .int a2, .int a3, .int a4]) (rest := [.int 0, .ref a5]) rfl gL_search_X6_search rfl ⟨rfl, rfl⟩ hV_X6_search ⟨(Nat.le_of_ble_eq_true rfl), (Nat.le_of_ble_eq_true rfl)⟩ ⟨(Nat.le_of_ble_eq_true rfl), (Nat.le_of_ble_eq_true rfl)⟩ e_u (x_X6_search hst (Or.inr (Or.inl ⟨q2, rfl⟩)) e_k) rfl rfl (Nat.le_of_ble_eq_true rfl) dL_search_9 (fun q9 => ?_)
    refine v_astore C (lv' := [(6, .ref q9), (0, .ref a0), (1, .int a1), (2, .int a2), (3, .int a3), (4, .int a4), (5, .ref a5)]) dL_search_17 (by decide) rfl ?_
    refine v_iconst C (v := 1) dL_search_19 (by decide) ?_
    obtain rfl := Option.some.inj h
    exact v_iretW C dL_search_20
  have h := ite_f q2 h
  cases h
theorem clL_setVelocity_13 : Cond.classLink RL 13 eI ∈ wsL_setVelocity := by decide +kernel
theorem clL_setVelocity_15 : Cond.classLink RL 15 eA ∈ wsL_setVelocity := by decide +kernel
theorem clL_setVelocity_17 : Cond.classLink RL 17 eS ∈ wsL_setVelocity := by decide +kernel
set_option maxRecDepth 100000 in
set_option maxHeartbeats 4000000 in
theorem r_L_setVelocity {l : Launch} (hst : l.stackTraces = false) {G : GG} {A : Nat → Prop} {n : Nat} {w : Wd} {a0 : Nat} {a1 : Int32} {a2 : Int32} {a3 : Int32} {a4 : Nat} {z : Int32 × Wd} (h : m_L_setVelocity n w a0 a1 a2 a3 a4 = some z) : WCon l yL_setVelocity wsL_setVelocity { frames := 8, cells := 1, slots := 6, locals := 126 } G A [.ref a0, .int a1, .int a2, .int a3, .ref a4] w (some (.int z.1)) z.2 := by
  refine WCon.of (own := RL) (cc := cL_setVelocity) (maxL := 6) (ret := (some .int)) (hh := [(0, 12, 15, 13), (0, 12, 19, 15), (0, 12, 23, 17)]) rfl (by decide) rfl (Nat.le_of_ble_eq_true rfl) ?_
  intro p e s m args below meth c C hT
  show VQ p l e _ s m args below meth c G A 6 0 0 _ 0 [(0, .ref a0), (1, .int a1), (2, .int a2), (3, .int a3), (4, .ref a4)] [] w
  unfold m_L_setVelocity at h
  obtain ⟨u, e_u, h⟩ := bnd h
  obtain ⟨k, e_k, h⟩ := bnd h
  refine v_aload C 4 dL_setVelocity_0 rfl ?_
  refine v_iconst C (v := 0) dL_setVelocity_2 (by decide) ?_
  refine v_aload_n C 0 dL_setVelocity_3 rfl rfl ?_
  refine v_iload_n C 1 dL_setVelocity_4 rfl rfl ?_
  refine v_iload_n C 2 dL_setVelocity_5 rfl rfl ?_
  refine v_iload_n C 3 dL_setVelocity_6 rfl rfl ?_
  by_cases q0 : k = 0
  · have h := ite_t q0 h
    obtain ⟨z1, e_z, h⟩ := bnd h
    refine v_callVi C (ci := 5) (av := [.int a1, .int a2, .int a3]) (rest := [.int 0, .ref a4]) rfl gL_setVelocity_X6_setVelocity rfl ⟨rfl, rfl⟩ hV_X6_setVelocity ⟨(Nat.le_of_ble_eq_true rfl), (Nat.le_of_ble_eq_true rfl)⟩ e_u (r_X6_setVelocity (A := A) e_z) rfl rfl (Nat.le_of_ble_eq_true rfl) dL_setVelocity_7 ?_
    refine v_i2l C dL_setVelocity_10 ?_
    obtain ⟨w2, e_w2, h⟩ := bnd h
    refine v_last C dL_setVelocity_11 e_w2 ?_
    refine v_goto C (tgt := 27) dL_setVelocity_12 (by decide) ?_
    refine v_iconst C (v := 0) dL_setVelocity_27 (by decide) ?_
    obtain rfl := Option.some.inj h
    refine v_widen (k1 := 1) (s1 := 6) (by decide) (by decide) ?_
    exact v_iretW C dL_setVelocity_28
  have h := ite_f q0 h
  by_cases q1 : k = 1
  · have h := ite_t q1 h
    refine xw_callV C [] ⟨0, 12, 15, 13⟩ [⟨0, 12, 19, 15⟩, ⟨0, 12, 23, 17⟩] (by rw [hT]; rfl) (fun _ h => absurd h List.not_mem_nil) (by decide) (by decide) clL_setVelocity_13 C.xe.2.1.1 (ci := 5) (av := [.int a1, .int a2, .int a3]) (rest := [.int 0, .ref a4]) rfl gL_setVelocity_X6_setVelocity rfl ⟨rfl, rfl⟩ hV_X6_setVelocity ⟨(Nat.le_of_ble_eq_true rfl), (Nat.le_of_ble_eq_true rfl)⟩ ⟨(Nat.le_of_ble_eq_true rfl), (Nat.le_of_ble_eq_true rfl)⟩ e_u (x_X6_setVelocity hst (Or.inl ⟨q1, rfl⟩) e_k) rfl rfl (Nat.le_of_ble_eq_true rfl) dL_setVelocity_7 (fun q9 => ?_)
    refine v_astore C (lv' := [(5, .ref q9), (0, .ref a0), (1, .int a1), (2, .int a2), (3, .int a3), (4, .ref a4)]) dL_setVelocity_15 (by decide) rfl ?_
    refine v_iconst C (v := 1) dL_setVelocity_17 (by decide) ?_
    obtain rfl := Option.some.inj h
    exact v_iretW C dL_setVelocity_18
  have h := ite_f q1 h
  by_cases q2 : k = 2
  · have h := ite_t q2 h
    refine xw_callV C [⟨0, 12, 15, 13⟩] ⟨0, 12, 19, 15⟩ [⟨0, 12, 23, 17⟩] (by rw [hT]; rfl) (List.forall_mem_cons.mpr ⟨Or.inr ⟨by decide, eI, C.2.2.2.2.1 _ clL_setVelocity_13, C.xe.2.2.1⟩, (fun _ h => absurd h List.not_mem_nil)⟩) (by decide) (by decide) clL_setVelocity_15 C.xe.2.1.2.1 (ci := 5) (av := [.int a1, .int a2, .int a3]) (rest := [.int 0, .ref a4]) rfl gL_setVelocity_X6_setVelocity rfl ⟨rfl, rfl⟩ hV_X6_setVelocity ⟨(Nat.le_of_ble_eq_true rfl), (Nat.le_of_ble_eq_true rfl)⟩ ⟨(Nat.le_of_ble_eq_true rfl), (Nat.le_of_ble_eq_true rfl)⟩ e_u (x_X6_setVelocity hst (Or.inr (Or.inl ⟨q2, rfl⟩)) e_k) rfl rfl (Nat.le_of_ble_eq_true rfl) dL_setVelocity_7 (fun q9 => ?_)
    refine v_astore C (lv' := [(5, .ref q9), (0, .ref a0), (1, .int a1), (2, .int a2), (3, .int a3), (4, .ref a4)]) dL_setVelocity_19 (by decide) rfl ?_
    refine v_iconst C (v := 2) dL_setVelocity_21 (by decide) ?_
    obtain rfl := Option.some.inj h
    exact v_iretW C dL_setVelocity_22
  have h := ite_f q2 h
  by_cases q3 : k = 3
  · have h := ite_t q3 h
    refine xw_callV C [⟨0, 12, 15, 13⟩, ⟨0, 12, 19, 15⟩] ⟨0, 12, 23, 17⟩ [] (by rw [hT]; rfl) (List.forall_mem_cons.mpr ⟨Or.inr ⟨by decide, eI, C.2.2.2.2.1 _ clL_setVelocity_13, C.xe.2.2.2.1⟩, (List.forall_mem_cons.mpr ⟨Or.inr ⟨by decide, eA, C.2.2.2.2.1 _ clL_setVelocity_15, C.xe.2.2.2.2⟩, (fun _ h => absurd h List.not_mem_nil)⟩)⟩) (by decide) (by decide) clL_setVelocity_17 C.xe.2.1.2.2 (ci := 5) (av := [.int a1, .int a2, .int a3]) (rest := [.int 0, .ref a4]) rfl gL_setVelocity_X6_setVelocity rfl ⟨rfl, rfl⟩ hV_X6_setVelocity ⟨(Nat.le_of_ble_eq_true rfl), (Nat.le_of_ble_eq_true rfl)⟩ ⟨(Nat.le_of_ble_eq_true rfl), (Nat.le_of_ble_eq_true rfl)⟩ e_u (x_X6_setVelocity hst (Or.inr (Or.inr ⟨q3, rfl⟩)) e_k) rfl rfl (Nat.le_of_ble_eq_true rfl) dL_setVelocity_7 (fun q9 => ?_)
    refine v_astore C (lv' := [(5, .ref q9), (0, .ref a0), (1, .int a1), (2, .int a2), (3, .int a3), (4, .ref a4)]) dL_setVelocity_23 (by decide) rfl ?_
    refine v_iconst C (v := 3) dL_setVelocity_25 (by decide) ?_
    obtain rfl := Option.some.inj h
    exact v_iretW C dL_setVelocity_26
  have h := ite_f q3 h
  cases h
theorem clL_tick_15 : Cond.classLink RL 15 eA ∈ wsL_tick := by decide +kernel
set_option maxRecDepth 100000 in
set_option maxHeartbeats 4000000 in
theorem r_L_tick {l : Launch} (hst : l.stackTraces = false) {G : GG} {A : Nat → Prop} {n : Nat} {w : Wd} {a0 : Nat} {a1 : Int32} {a2 : Nat} {z : Int32 × Wd} (h : m_L_tick n w a0 a1 a2 = some z) : WCon l yL_tick wsL_tick { frames := 8, cells := 1, slots := 6, locals := 138 } G A [.ref a0, .int a1, .ref a2] w (some (.int z.1)) z.2 := by
  refine WCon.of (own := RL) (cc := cL_tick) (maxL := 4) (ret := (some .int)) (hh := [(0, 9, 12, 15)]) rfl (by decide) rfl (Nat.le_of_ble_eq_true rfl) ?_
  intro p e s m args below meth c C hT
  show VQ p l e _ s m args below meth c G A 4 0 0 _ 0 [(0, .ref a0), (1, .int a1), (2, .ref a2)] [] w
  unfold m_L_tick at h
  obtain ⟨u, e_u, h⟩ := bnd h
  obtain ⟨k, e_k, h⟩ := bnd h
  refine v_aload_n C 2 dL_tick_0 rfl rfl ?_
  refine v_iconst C (v := 0) dL_tick_1 (by decide) ?_
  refine v_aload_n C 0 dL_tick_2 rfl rfl ?_
  refine v_iload_n C 1 dL_tick_3 rfl rfl ?_
  by_cases q0 : k = 0
  · have h := ite_t q0 h
    obtain ⟨z1, e_z, h⟩ := bnd h
    refine v_callVi C (ci := 5) (av := [.int a1]) (rest := [.int 0, .ref a2]) rfl gL_tick_X6_tick rfl ⟨rfl, rfl⟩ hV_X6_tick ⟨(Nat.le_of_ble_eq_true rfl), (Nat.le_of_ble_eq_true rfl)⟩ e_u (r_X6_tick (A := A) e_z) rfl rfl (Nat.le_of_ble_eq_true rfl) dL_tick_4 ?_
    refine v_i2l C dL_tick_7 ?_
    obtain ⟨w2, e_w2, h⟩ := bnd h
    refine v_last C dL_tick_8 e_w2 ?_
    refine v_goto C (tgt := 15) dL_tick_9 (by decide) ?_
    refine v_iconst C (v := 0) dL_tick_15 (by decide) ?_
    obtain rfl := Option.some.inj h
    refine v_widen (k1 := 1) (s1 := 6) (by decide) (by decide) ?_
    exact v_iretW C dL_tick_16
  have h := ite_f q0 h
  by_cases q2 : k = 2
  · have h := ite_t q2 h
    refine xw_callV C [] ⟨0, 9, 12, 15⟩ [] (by rw [hT]; rfl) (fun _ h => absurd h List.not_mem_nil) (by decide) (by decide) clL_tick_15 C.xe.2.1.2.1 (ci := 5) (av := [.int a1]) (rest := [.int 0, .ref a2]) rfl gL_tick_X6_tick rfl ⟨rfl, rfl⟩ hV_X6_tick ⟨(Nat.le_of_ble_eq_true rfl), (Nat.le_of_ble_eq_true rfl)⟩ ⟨(Nat.le_of_ble_eq_true rfl), (Nat.le_of_ble_eq_true rfl)⟩ e_u (x_X6_tick hst (Or.inr (Or.inl ⟨q2, rfl⟩)) e_k) rfl rfl (Nat.le_of_ble_eq_true rfl) dL_tick_4 (fun q9 => ?_)
    refine v_astore_n C (lv' := [(3, .ref q9), (0, .ref a0), (1, .int a1), (2, .ref a2)]) dL_tick_12 rfl (by decide) rfl ?_
    refine v_iconst C (v := 1) dL_tick_13 (by decide) ?_
    obtain rfl := Option.some.inj h
    exact v_iretW C dL_tick_14
  have h := ite_f q2 h
  cases h
theorem clL_type_15 : Cond.classLink RL 15 eA ∈ wsL_type := by decide +kernel
theorem clL_type_17 : Cond.classLink RL 17 eS ∈ wsL_type := by decide +kernel
set_option maxRecDepth 100000 in
set_option maxHeartbeats 4000000 in
theorem r_L_type {l : Launch} (hst : l.stackTraces = false) {G : GG} {A : Nat → Prop} {n : Nat} {w : Wd} {a0 : Nat} {a1 : Int32} {a2 : Nat} {z : Int32 × Wd} (h : m_L_type n w a0 a1 a2 = some z) : WCon l yL_type wsL_type { frames := 8, cells := 1, slots := 6, locals := 123 } G A [.ref a0, .int a1, .ref a2] w (some (.int z.1)) z.2 := by
  refine WCon.of (own := RL) (cc := cL_type) (maxL := 4) (ret := (some .int)) (hh := [(0, 9, 12, 15), (0, 9, 15, 17)]) rfl (by decide) rfl (Nat.le_of_ble_eq_true rfl) ?_
  intro p e s m args below meth c C hT
  show VQ p l e _ s m args below meth c G A 4 0 0 _ 0 [(0, .ref a0), (1, .int a1), (2, .ref a2)] [] w
  unfold m_L_type at h
  obtain ⟨u, e_u, h⟩ := bnd h
  obtain ⟨k, e_k, h⟩ := bnd h
  refine v_aload_n C 2 dL_type_0 rfl rfl ?_
  refine v_iconst C (v := 0) dL_type_1 (by decide) ?_
  refine v_aload_n C 0 dL_type_2 rfl rfl ?_
  refine v_iload_n C 1 dL_type_3 rfl rfl ?_
  by_cases q0 : k = 0
  · have h := ite_t q0 h
    obtain ⟨z1, e_z, h⟩ := bnd h
    refine v_callVi C (ci := 5) (av := [.int a1]) (rest := [.int 0, .ref a2]) rfl gL_type_X6_type rfl ⟨rfl, rfl⟩ hV_X6_type ⟨(Nat.le_of_ble_eq_true rfl), (Nat.le_of_ble_eq_true rfl)⟩ e_u (r_X6_type (A := A) e_z) rfl rfl (Nat.le_of_ble_eq_true rfl) dL_type_4 ?_
    refine v_i2l C dL_type_7 ?_
    obtain ⟨w2, e_w2, h⟩ := bnd h
    refine v_last C dL_type_8 e_w2 ?_
    refine v_goto C (tgt := 18) dL_type_9 (by decide) ?_
    refine v_iconst C (v := 0) dL_type_18 (by decide) ?_
    obtain rfl := Option.some.inj h
    refine v_widen (k1 := 1) (s1 := 6) (by decide) (by decide) ?_
    exact v_iretW C dL_type_19
  have h := ite_f q0 h
  by_cases q2 : k = 2
  · have h := ite_t q2 h
    refine xw_callV C [] ⟨0, 9, 12, 15⟩ [⟨0, 9, 15, 17⟩] (by rw [hT]; rfl) (fun _ h => absurd h List.not_mem_nil) (by decide) (by decide) clL_type_15 C.xe.2.1.2.1 (ci := 5) (av := [.int a1]) (rest := [.int 0, .ref a2]) rfl gL_type_X6_type rfl ⟨rfl, rfl⟩ hV_X6_type ⟨(Nat.le_of_ble_eq_true rfl), (Nat.le_of_ble_eq_true rfl)⟩ ⟨(Nat.le_of_ble_eq_true rfl), (Nat.le_of_ble_eq_true rfl)⟩ e_u (x_X6_type hst (Or.inr (Or.inl ⟨q2, rfl⟩)) e_k) rfl rfl (Nat.le_of_ble_eq_true rfl) dL_type_4 (fun q9 => ?_)
    refine v_astore_n C (lv' := [(3, .ref q9), (0, .ref a0), (1, .int a1), (2, .ref a2)]) dL_type_12 rfl (by decide) rfl ?_
    refine v_iconst C (v := 1) dL_type_13 (by decide) ?_
    obtain rfl := Option.some.inj h
    exact v_iretW C dL_type_14
  have h := ite_f q2 h
  by_cases q3 : k = 3
  · have h := ite_t q3 h
    refine xw_callV C [⟨0, 9, 12, 15⟩] ⟨0, 9, 15, 17⟩ [] (by rw [hT]; rfl) (List.forall_mem_cons.mpr ⟨Or.inr ⟨by decide, eA, C.2.2.2.2.1 _ clL_type_15, C.xe.2.2.2.2⟩, (fun _ h => absurd h List.not_mem_nil)⟩) (by decide) (by decide) clL_type_17 C.xe.2.1.2.2 (ci := 5) (av := [.int a1]) (rest := [.int 0, .ref a2]) rfl gL_type_X6_type rfl ⟨rfl, rfl⟩ hV_X6_type ⟨(Nat.le_of_ble_eq_true rfl), (Nat.le_of_ble_eq_true rfl)⟩ ⟨(Nat.le_of_ble_eq_true rfl), (Nat.le_of_ble_eq_true rfl)⟩ e_u (x_X6_type hst (Or.inr (Or.inr ⟨q3, rfl⟩)) e_k) rfl rfl (Nat.le_of_ble_eq_true rfl) dL_type_4 (fun q9 => ?_)
    refine v_astore_n C (lv' := [(3, .ref q9), (0, .ref a0), (1, .int a1), (2, .ref a2)]) dL_type_15 rfl (by decide) rfl ?_
    refine v_iconst C (v := 2) dL_type_16 (by decide) ?_
    obtain rfl := Option.some.inj h
    exact v_iretW C dL_type_17
  have h := ite_f q3 h
  cases h
theorem clL_undo_17 : Cond.classLink RL 17 eS ∈ wsL_undo := by decide +kernel
set_option maxRecDepth 100000 in
set_option maxHeartbeats 4000000 in
theorem r_L_undo {l : Launch} (hst : l.stackTraces = false) {G : GG} {A : Nat → Prop} {n : Nat} {w : Wd} {a0 : Nat} {a1 : Nat} {z : Int32 × Wd} (h : m_L_undo n w a0 a1 = some z) : WCon l yL_undo wsL_undo { frames := 8, cells := 1, slots := 6, locals := 122 } G A [.ref a0, .ref a1] w (some (.int z.1)) z.2 := by
  refine WCon.of (own := RL) (cc := cL_undo) (maxL := 3) (ret := (some .int)) (hh := [(0, 8, 11, 17)]) rfl (by decide) rfl (Nat.le_of_ble_eq_true rfl) ?_
  intro p e s m args below meth c C hT
  show VQ p l e _ s m args below meth c G A 3 0 0 _ 0 [(0, .ref a0), (1, .ref a1)] [] w
  unfold m_L_undo at h
  obtain ⟨u, e_u, h⟩ := bnd h
  obtain ⟨k, e_k, h⟩ := bnd h
  refine v_aload_n C 1 dL_undo_0 rfl rfl ?_
  refine v_iconst C (v := 0) dL_undo_1 (by decide) ?_
  refine v_aload_n C 0 dL_undo_2 rfl rfl ?_
  by_cases q0 : k = 0
  · have h := ite_t q0 h
    obtain ⟨z1, e_z, h⟩ := bnd h
    refine v_callVi C (ci := 5) (av := []) (rest := [.int 0, .ref a1]) rfl gL_undo_X6_undo rfl ⟨rfl, rfl⟩ hV_X6_undo ⟨(Nat.le_of_ble_eq_true rfl), (Nat.le_of_ble_eq_true rfl)⟩ e_u (r_X6_undo (A := A) e_z) rfl rfl (Nat.le_of_ble_eq_true rfl) dL_undo_3 ?_
    refine v_i2l C dL_undo_6 ?_
    obtain ⟨w2, e_w2, h⟩ := bnd h
    refine v_last C dL_undo_7 e_w2 ?_
    refine v_goto C (tgt := 14) dL_undo_8 (by decide) ?_
    refine v_iconst C (v := 0) dL_undo_14 (by decide) ?_
    obtain rfl := Option.some.inj h
    refine v_widen (k1 := 1) (s1 := 6) (by decide) (by decide) ?_
    exact v_iretW C dL_undo_15
  have h := ite_f q0 h
  by_cases q3 : k = 3
  · have h := ite_t q3 h
    refine xw_callV C [] ⟨0, 8, 11, 17⟩ [] (by rw [hT]; rfl) (fun _ h => absurd h List.not_mem_nil) (by decide) (by decide) clL_undo_17 C.xe.2.1.2.2 (ci := 5) (av := []) (rest := [.int 0, .ref a1]) rfl gL_undo_X6_undo rfl ⟨rfl, rfl⟩ hV_X6_undo ⟨(Nat.le_of_ble_eq_true rfl), (Nat.le_of_ble_eq_true rfl)⟩ ⟨(Nat.le_of_ble_eq_true rfl), (Nat.le_of_ble_eq_true rfl)⟩ e_u (x_X6_undo hst (Or.inr (Or.inr ⟨q3, rfl⟩)) e_k) rfl rfl (Nat.le_of_ble_eq_true rfl) dL_undo_3 (fun q9 => ?_)
    refine v_astore_n C (lv' := [(2, .ref q9), (0, .ref a0), (1, .ref a1)]) dL_undo_11 rfl (by decide) rfl ?_
    refine v_iconst C (v := 1) dL_undo_12 (by decide) ?_
    obtain rfl := Option.some.inj h
    exact v_iretW C dL_undo_13
  have h := ite_f q3 h
  cases h
theorem clL_within_15 : Cond.classLink RL 15 eA ∈ wsL_within := by decide +kernel
set_option maxRecDepth 100000 in
set_option maxHeartbeats 4000000 in
theorem r_L_within {l : Launch} (hst : l.stackTraces = false) {G : GG} {A : Nat → Prop} {n : Nat} {w : Wd} {a0 : Nat} {a1 : Int32} {a2 : Int32} {a3 : Int32} {a4 : Int32} {a5 : Nat} {z : Int32 × Wd} (h : m_L_within n w a0 a1 a2 a3 a4 a5 = some z) : WCon l yL_within wsL_within { frames := 8, cells := 1, slots := 6, locals := 128 } G A [.ref a0, .int a1, .int a2, .int a3, .int a4, .ref a5] w (some (.int z.1)) z.2 := by
  refine WCon.of (own := RL) (cc := cL_within) (maxL := 7) (ret := (some .int)) (hh := [(0, 14, 17, 15)]) rfl (by decide) rfl (Nat.le_of_ble_eq_true rfl) ?_
  intro p e s m args below meth c C hT
  show VQ p l e _ s m args below meth c G A 7 0 0 _ 0 [(0, .ref a0), (1, .int a1), (2, .int a2), (3, .int a3), (4, .int a4), (5, .ref a5)] [] w
  unfold m_L_within at h
  obtain ⟨u, e_u, h⟩ := bnd h
  obtain ⟨k, e_k, h⟩ := bnd h
  refine v_aload C 5 dL_within_0 rfl ?_
  refine v_iconst C (v := 0) dL_within_2 (by decide) ?_
  refine v_aload_n C 0 dL_within_3 rfl rfl ?_
  refine v_iload_n C 1 dL_within_4 rfl rfl ?_
  refine v_iload_n C 2 dL_within_5 rfl rfl ?_
  refine v_iload_n C 3 dL_within_6 rfl rfl ?_
  refine v_iload C 4 dL_within_7 rfl ?_
  by_cases q0 : k = 0
  · have h := ite_t q0 h
    obtain ⟨z1, e_z, h⟩ := bnd h
    refine v_callVi C (ci := 5) (av := [.int a1, .int a2, .int a3, .int a4]) (rest := [.int 0, .ref a5]) rfl gL_within_X6_within rfl ⟨rfl, rfl⟩ hV_X6_within ⟨(Nat.le_of_ble_eq_true rfl), (Nat.le_of_ble_eq_true rfl)⟩ e_u (r_X6_within (A := A) e_z) rfl rfl (Nat.le_of_ble_eq_true rfl) dL_within_9 ?_
    refine v_i2l C dL_within_12 ?_
    obtain ⟨w2, e_w2, h⟩ := bnd h
    refine v_last C dL_within_13 e_w2 ?_
    refine v_goto C (tgt := 21) dL_within_14 (by decide) ?_
    refine v_iconst C (v := 0) dL_within_21 (by decide) ?_
    obtain rfl := Option.some.inj h
    refine v_widen (k1 := 1) (s1 := 6) (by decide) (by decide) ?_
    exact v_iretW C dL_within_22
  have h := ite_f q0 h
  by_cases q2 : k = 2
  · have h := ite_t q2 h
    refine xw_callV C [] ⟨0, 14, 17, 15⟩ [] (by rw [hT]; rfl) (fun _ h => absurd h List.not_mem_nil) (by decide) (by decide) clL_within_15 C.xe.2.1.2.1 (ci := 5) (av := [.int a1, .int a2, .int a3, .int a4]) (rest := [.int 0, .ref a5]) rfl gL_within_X6_within rfl ⟨rfl, rfl⟩ hV_X6_within ⟨(Nat.le_of_ble_eq_true rfl), (Nat.le_of_ble_eq_true rfl)⟩ ⟨(Nat.le_of_ble_eq_true rfl), (Nat.le_of_ble_eq_true rfl)⟩ e_u (x_X6_within hst (Or.inr (Or.inl ⟨q2, rfl⟩)) e_k) rfl rfl (Nat.le_of_ble_eq_true rfl) dL_within_9 (fun q9 => ?_)
    refine v_astore C (lv' := [(6, .ref q9), (0, .ref a0), (1, .int a1), (2, .int a2), (3, .int a3), (4, .int a4), (5, .ref a5)]) dL_within_17 (by decide) rfl ?_
    refine v_iconst C (v := 1) dL_within_19 (by decide) ?_
    obtain rfl := Option.some.inj h
    exact v_iretW C dL_within_20
  have h := ite_f q2 h
  cases h
theorem clL_wouldTouch_13 : Cond.classLink RL 13 eI ∈ wsL_wouldTouch := by decide +kernel
theorem clL_wouldTouch_15 : Cond.classLink RL 15 eA ∈ wsL_wouldTouch := by decide +kernel
theorem clL_wouldTouch_17 : Cond.classLink RL 17 eS ∈ wsL_wouldTouch := by decide +kernel
set_option maxRecDepth 100000 in
set_option maxHeartbeats 4000000 in
theorem r_L_wouldTouch {l : Launch} (hst : l.stackTraces = false) {G : GG} {A : Nat → Prop} {n : Nat} {w : Wd} {a0 : Nat} {a1 : Int32} {a2 : Int32} {a3 : Int32} {a4 : Nat} {z : Int32 × Wd} (h : m_L_wouldTouch n w a0 a1 a2 a3 a4 = some z) : WCon l yL_wouldTouch wsL_wouldTouch { frames := 8, cells := 1, slots := 6, locals := 127 } G A [.ref a0, .int a1, .int a2, .int a3, .ref a4] w (some (.int z.1)) z.2 := by
  refine WCon.of (own := RL) (cc := cL_wouldTouch) (maxL := 6) (ret := (some .int)) (hh := [(0, 12, 15, 13), (0, 12, 19, 15), (0, 12, 23, 17)]) rfl (by decide) rfl (Nat.le_of_ble_eq_true rfl) ?_
  intro p e s m args below meth c C hT
  show VQ p l e _ s m args below meth c G A 6 0 0 _ 0 [(0, .ref a0), (1, .int a1), (2, .int a2), (3, .int a3), (4, .ref a4)] [] w
  unfold m_L_wouldTouch at h
  obtain ⟨u, e_u, h⟩ := bnd h
  obtain ⟨k, e_k, h⟩ := bnd h
  refine v_aload C 4 dL_wouldTouch_0 rfl ?_
  refine v_iconst C (v := 0) dL_wouldTouch_2 (by decide) ?_
  refine v_aload_n C 0 dL_wouldTouch_3 rfl rfl ?_
  refine v_iload_n C 1 dL_wouldTouch_4 rfl rfl ?_
  refine v_iload_n C 2 dL_wouldTouch_5 rfl rfl ?_
  refine v_iload_n C 3 dL_wouldTouch_6 rfl rfl ?_
  by_cases q0 : k = 0
  · have h := ite_t q0 h
    obtain ⟨z1, e_z, h⟩ := bnd h
    refine v_callVi C (ci := 5) (av := [.int a1, .int a2, .int a3]) (rest := [.int 0, .ref a4]) rfl gL_wouldTouch_X6_wouldTouch rfl ⟨rfl, rfl⟩ hV_X6_wouldTouch ⟨(Nat.le_of_ble_eq_true rfl), (Nat.le_of_ble_eq_true rfl)⟩ e_u (r_X6_wouldTouch (A := A) e_z) rfl rfl (Nat.le_of_ble_eq_true rfl) dL_wouldTouch_7 ?_
    refine v_i2l C dL_wouldTouch_10 ?_
    obtain ⟨w2, e_w2, h⟩ := bnd h
    refine v_last C dL_wouldTouch_11 e_w2 ?_
    refine v_goto C (tgt := 27) dL_wouldTouch_12 (by decide) ?_
    refine v_iconst C (v := 0) dL_wouldTouch_27 (by decide) ?_
    obtain rfl := Option.some.inj h
    refine v_widen (k1 := 1) (s1 := 6) (by decide) (by decide) ?_
    exact v_iretW C dL_wouldTouch_28
  have h := ite_f q0 h
  by_cases q1 : k = 1
  · have h := ite_t q1 h
    refine xw_callV C [] ⟨0, 12, 15, 13⟩ [⟨0, 12, 19, 15⟩, ⟨0, 12, 23, 17⟩] (by rw [hT]; rfl) (fun _ h => absurd h List.not_mem_nil) (by decide) (by decide) clL_wouldTouch_13 C.xe.2.1.1 (ci := 5) (av := [.int a1, .int a2, .int a3]) (rest := [.int 0, .ref a4]) rfl gL_wouldTouch_X6_wouldTouch rfl ⟨rfl, rfl⟩ hV_X6_wouldTouch ⟨(Nat.le_of_ble_eq_true rfl), (Nat.le_of_ble_eq_true rfl)⟩ ⟨(Nat.le_of_ble_eq_true rfl), (Nat.le_of_ble_eq_true rfl)⟩ e_u (x_X6_wouldTouch hst (Or.inl ⟨q1, rfl⟩) e_k) rfl rfl (Nat.le_of_ble_eq_true rfl) dL_wouldTouch_7 (fun q9 => ?_)
    refine v_astore C (lv' := [(5, .ref q9), (0, .ref a0), (1, .int a1), (2, .int a2), (3, .int a3), (4, .ref a4)]) dL_wouldTouch_15 (by decide) rfl ?_
    refine v_iconst C (v := 1) dL_wouldTouch_17 (by decide) ?_
    obtain rfl := Option.some.inj h
    exact v_iretW C dL_wouldTouch_18
  have h := ite_f q1 h
  by_cases q2 : k = 2
  · have h := ite_t q2 h
    refine xw_callV C [⟨0, 12, 15, 13⟩] ⟨0, 12, 19, 15⟩ [⟨0, 12, 23, 17⟩] (by rw [hT]; rfl) (List.forall_mem_cons.mpr ⟨Or.inr ⟨by decide, eI, C.2.2.2.2.1 _ clL_wouldTouch_13, C.xe.2.2.1⟩, (fun _ h => absurd h List.not_mem_nil)⟩) (by decide) (by decide) clL_wouldTouch_15 C.xe.2.1.2.1 (ci := 5) (av := [.int a1, .int a2, .int a3]) (rest := [.int 0, .ref a4]) rfl gL_wouldTouch_X6_wouldTouch rfl ⟨rfl, rfl⟩ hV_X6_wouldTouch ⟨(Nat.le_of_ble_eq_true rfl), (Nat.le_of_ble_eq_true rfl)⟩ ⟨(Nat.le_of_ble_eq_true rfl), (Nat.le_of_ble_eq_true rfl)⟩ e_u (x_X6_wouldTouch hst (Or.inr (Or.inl ⟨q2, rfl⟩)) e_k) rfl rfl (Nat.le_of_ble_eq_true rfl) dL_wouldTouch_7 (fun q9 => ?_)
    refine v_astore C (lv' := [(5, .ref q9), (0, .ref a0), (1, .int a1), (2, .int a2), (3, .int a3), (4, .ref a4)]) dL_wouldTouch_19 (by decide) rfl ?_
    refine v_iconst C (v := 2) dL_wouldTouch_21 (by decide) ?_
    obtain rfl := Option.some.inj h
    exact v_iretW C dL_wouldTouch_22
  have h := ite_f q2 h
  by_cases q3 : k = 3
  · have h := ite_t q3 h
    refine xw_callV C [⟨0, 12, 15, 13⟩, ⟨0, 12, 19, 15⟩] ⟨0, 12, 23, 17⟩ [] (by rw [hT]; rfl) (List.forall_mem_cons.mpr ⟨Or.inr ⟨by decide, eI, C.2.2.2.2.1 _ clL_wouldTouch_13, C.xe.2.2.2.1⟩, (List.forall_mem_cons.mpr ⟨Or.inr ⟨by decide, eA, C.2.2.2.2.1 _ clL_wouldTouch_15, C.xe.2.2.2.2⟩, (fun _ h => absurd h List.not_mem_nil)⟩)⟩) (by decide) (by decide) clL_wouldTouch_17 C.xe.2.1.2.2 (ci := 5) (av := [.int a1, .int a2, .int a3]) (rest := [.int 0, .ref a4]) rfl gL_wouldTouch_X6_wouldTouch rfl ⟨rfl, rfl⟩ hV_X6_wouldTouch ⟨(Nat.le_of_ble_eq_true rfl), (Nat.le_of_ble_eq_true rfl)⟩ ⟨(Nat.le_of_ble_eq_true rfl), (Nat.le_of_ble_eq_true rfl)⟩ e_u (x_X6_wouldTouch hst (Or.inr (Or.inr ⟨q3, rfl⟩)) e_k) rfl rfl (Nat.le_of_ble_eq_true rfl) dL_wouldTouch_7 (fun q9 => ?_)
    refine v_astore C (lv' := [(5, .ref q9), (0, .ref a0), (1, .int a1), (2, .int a2), (3, .int a3), (4, .ref a4)]) dL_wouldTouch_23 (by decide) rfl ?_
    refine v_iconst C (v := 3) dL_wouldTouch_25 (by decide) ?_
    obtain rfl := Option.some.inj h
    exact v_iretW C dL_wouldTouch_26
  have h := ite_f q3 h
  cases h
