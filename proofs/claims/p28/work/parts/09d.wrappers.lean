theorem hV_X6_add : yX6_add.cls = RX6 ∧ yX6_add.cls ≠ "java/lang/invoke/MethodHandle" ∧ yX6_add.cls ≠ "java/lang/invoke/VarHandle" ∧ (parseMethodDescriptor yX6_add.desc).map (fun d => d.parameters.length) = some 3 := by decide +kernel
theorem hV_X6_child : yX6_child.cls = RX6 ∧ yX6_child.cls ≠ "java/lang/invoke/MethodHandle" ∧ yX6_child.cls ≠ "java/lang/invoke/VarHandle" ∧ (parseMethodDescriptor yX6_child.desc).map (fun d => d.parameters.length) = some 3 := by decide +kernel
theorem hV_X6_closest : yX6_closest.cls = RX6 ∧ yX6_closest.cls ≠ "java/lang/invoke/MethodHandle" ∧ yX6_closest.cls ≠ "java/lang/invoke/VarHandle" ∧ (parseMethodDescriptor yX6_closest.desc).map (fun d => d.parameters.length) = some 1 := by decide +kernel
theorem hV_X6_cursor : yX6_cursor.cls = RX6 ∧ yX6_cursor.cls ≠ "java/lang/invoke/MethodHandle" ∧ yX6_cursor.cls ≠ "java/lang/invoke/VarHandle" ∧ (parseMethodDescriptor yX6_cursor.desc).map (fun d => d.parameters.length) = some 2 := by decide +kernel
theorem hV_X6_level : yX6_level.cls = RX6 ∧ yX6_level.cls ≠ "java/lang/invoke/MethodHandle" ∧ yX6_level.cls ≠ "java/lang/invoke/VarHandle" ∧ (parseMethodDescriptor yX6_level.desc).map (fun d => d.parameters.length) = some 2 := by decide +kernel
theorem hV_X6_move : yX6_move.cls = RX6 ∧ yX6_move.cls ≠ "java/lang/invoke/MethodHandle" ∧ yX6_move.cls ≠ "java/lang/invoke/VarHandle" ∧ (parseMethodDescriptor yX6_move.desc).map (fun d => d.parameters.length) = some 3 := by decide +kernel
theorem hV_X6_nearest : yX6_nearest.cls = RX6 ∧ yX6_nearest.cls ≠ "java/lang/invoke/MethodHandle" ∧ yX6_nearest.cls ≠ "java/lang/invoke/VarHandle" ∧ (parseMethodDescriptor yX6_nearest.desc).map (fun d => d.parameters.length) = some 3 := by decide +kernel
theorem hV_X6_next : yX6_next.cls = RX6 ∧ yX6_next.cls ≠ "java/lang/invoke/MethodHandle" ∧ yX6_next.cls ≠ "java/lang/invoke/VarHandle" ∧ (parseMethodDescriptor yX6_next.desc).map (fun d => d.parameters.length) = some 1 := by decide +kernel
theorem hV_X6_node : yX6_node.cls = RX6 ∧ yX6_node.cls ≠ "java/lang/invoke/MethodHandle" ∧ yX6_node.cls ≠ "java/lang/invoke/VarHandle" ∧ (parseMethodDescriptor yX6_node.desc).map (fun d => d.parameters.length) = some 3 := by decide +kernel
theorem hV_X6_open : yX6_open.cls = RX6 ∧ yX6_open.cls ≠ "java/lang/invoke/MethodHandle" ∧ yX6_open.cls ≠ "java/lang/invoke/VarHandle" ∧ (parseMethodDescriptor yX6_open.desc).map (fun d => d.parameters.length) = some 3 := by decide +kernel
theorem hV_X6_point : yX6_point.cls = RX6 ∧ yX6_point.cls ≠ "java/lang/invoke/MethodHandle" ∧ yX6_point.cls ≠ "java/lang/invoke/VarHandle" ∧ (parseMethodDescriptor yX6_point.desc).map (fun d => d.parameters.length) = some 2 := by decide +kernel
theorem hV_X6_remove : yX6_remove.cls = RX6 ∧ yX6_remove.cls ≠ "java/lang/invoke/MethodHandle" ∧ yX6_remove.cls ≠ "java/lang/invoke/VarHandle" ∧ (parseMethodDescriptor yX6_remove.desc).map (fun d => d.parameters.length) = some 1 := by decide +kernel
theorem hV_X6_scatter : yX6_scatter.cls = RX6 ∧ yX6_scatter.cls ≠ "java/lang/invoke/MethodHandle" ∧ yX6_scatter.cls ≠ "java/lang/invoke/VarHandle" ∧ (parseMethodDescriptor yX6_scatter.desc).map (fun d => d.parameters.length) = some 4 := by decide +kernel
theorem hV_X6_search : yX6_search.cls = RX6 ∧ yX6_search.cls ≠ "java/lang/invoke/MethodHandle" ∧ yX6_search.cls ≠ "java/lang/invoke/VarHandle" ∧ (parseMethodDescriptor yX6_search.desc).map (fun d => d.parameters.length) = some 4 := by decide +kernel
theorem hV_X6_setVelocity : yX6_setVelocity.cls = RX6 ∧ yX6_setVelocity.cls ≠ "java/lang/invoke/MethodHandle" ∧ yX6_setVelocity.cls ≠ "java/lang/invoke/VarHandle" ∧ (parseMethodDescriptor yX6_setVelocity.desc).map (fun d => d.parameters.length) = some 3 := by decide +kernel
theorem hV_X6_tick : yX6_tick.cls = RX6 ∧ yX6_tick.cls ≠ "java/lang/invoke/MethodHandle" ∧ yX6_tick.cls ≠ "java/lang/invoke/VarHandle" ∧ (parseMethodDescriptor yX6_tick.desc).map (fun d => d.parameters.length) = some 1 := by decide +kernel
theorem hV_X6_type : yX6_type.cls = RX6 ∧ yX6_type.cls ≠ "java/lang/invoke/MethodHandle" ∧ yX6_type.cls ≠ "java/lang/invoke/VarHandle" ∧ (parseMethodDescriptor yX6_type.desc).map (fun d => d.parameters.length) = some 1 := by decide +kernel
theorem hV_X6_undo : yX6_undo.cls = RX6 ∧ yX6_undo.cls ≠ "java/lang/invoke/MethodHandle" ∧ yX6_undo.cls ≠ "java/lang/invoke/VarHandle" ∧ (parseMethodDescriptor yX6_undo.desc).map (fun d => d.parameters.length) = some 0 := by decide +kernel
theorem hV_X6_within : yX6_within.cls = RX6 ∧ yX6_within.cls ≠ "java/lang/invoke/MethodHandle" ∧ yX6_within.cls ≠ "java/lang/invoke/VarHandle" ∧ (parseMethodDescriptor yX6_within.desc).map (fun d => d.parameters.length) = some 4 := by decide +kernel
theorem hV_X6_wouldTouch : yX6_wouldTouch.cls = RX6 ∧ yX6_wouldTouch.cls ≠ "java/lang/invoke/MethodHandle" ∧ yX6_wouldTouch.cls ≠ "java/lang/invoke/VarHandle" ∧ (parseMethodDescriptor yX6_wouldTouch.desc).map (fun d => d.parameters.length) = some 3 := by decide +kernel
set_option maxRecDepth 100000 in
set_option maxHeartbeats 4000000 in
theorem r_LX_add {l : Launch} {G : GG} {A : Nat → Prop} {n : Nat} {w : Wd} {a0 : Nat} {a1 : Int32} {a2 : Int32} {a3 : Int32} {z1 : Int32 × Wd} (h : m_LX_add n w a0 a1 a2 a3 = some z1) : Con l yL_add wsL_add { frames := 8, cells := 0, slots := 0, locals := 140 } G A [.ref a0, .int a1, .int a2, .int a3] w (some (.int z1.1)) z1.2 := by
  refine Con.ofH (own := RL) (cc := cL_add) (maxL := 6) (ret := (some .int)) (hh := [(0, 9, 12, 15), (0, 9, 17, 18), (0, 9, 22, 21)]) rfl (by decide) rfl (Nat.le_of_ble_eq_true rfl) ?_
  intro p e s m args below meth c C
  show V p l e _ s m args below meth c G A 6 0 [(0, .ref a0), (1, .int a1), (2, .int a2), (3, .int a3)] [] w _ _
  unfold m_LX_add at h
  obtain ⟨u, e_u, e_z⟩ := bnd h
  refine v_aload_n C 0 dL_add_0 rfl rfl ?_
  refine v_iload_n C 1 dL_add_1 rfl rfl ?_
  refine v_iload_n C 2 dL_add_2 rfl rfl ?_
  refine v_iload_n C 3 dL_add_3 rfl rfl ?_
  refine v_callVi C (ci := 5) (av := [.int a1, .int a2, .int a3]) (rest := []) rfl gL_add_X6_add rfl ⟨rfl, rfl⟩ hV_X6_add ⟨(Nat.le_of_ble_eq_true rfl), (Nat.le_of_ble_eq_true rfl)⟩ e_u (r_X6_add (A := A) e_z) rfl rfl (Nat.le_of_ble_eq_true rfl) dL_add_4 ?_
  refine v_istore C (lv' := [(4, .int z1.1), (0, .ref a0), (1, .int a1), (2, .int a2), (3, .int a3)]) dL_add_7 (by decide) rfl ?_
  refine v_goto C (tgt := 27) dL_add_9 (by decide) ?_
  refine v_iload C 0 dL_add_27 rfl ?_
  exact v_iret C dL_add_29
theorem clL_add_15 : Cond.classLink RL 15 eI ∈ wsL_add := by decide +kernel
theorem clL_add_18 : Cond.classLink RL 18 eA ∈ wsL_add := by decide +kernel
theorem clL_add_21 : Cond.classLink RL 21 eS ∈ wsL_add := by decide +kernel
theorem cL_add_17 : Cond.constant RL 17 (-5000003) ∈ wsL_add := by decide +kernel
theorem cL_add_20 : Cond.constant RL 20 (-5000001) ∈ wsL_add := by decide +kernel
theorem cL_add_23 : Cond.constant RL 23 (-5000002) ∈ wsL_add := by decide +kernel
set_option maxRecDepth 100000 in
set_option maxHeartbeats 4000000 in
theorem r_L_add {l : Launch} (hst : l.stackTraces = false) {G : GG} {A : Nat → Prop} {n : Nat} {w : Wd} {a0 : Nat} {a1 : Int32} {a2 : Int32} {a3 : Int32} {z : Int32 × Wd} (h : m_L_add n w a0 a1 a2 a3 = some z) : WCon l yL_add wsL_add { frames := 8, cells := 1, slots := 6, locals := 140 } G A [.ref a0, .int a1, .int a2, .int a3] w (some (.int z.1)) z.2 := by
  refine WCon.of (own := RL) (cc := cL_add) (maxL := 6) (ret := (some .int)) (hh := [(0, 9, 12, 15), (0, 9, 17, 18), (0, 9, 22, 21)]) rfl (by decide) rfl (Nat.le_of_ble_eq_true rfl) ?_
  intro p e s m args below meth c C hT
  show VQ p l e _ s m args below meth c G A 6 0 0 _ 0 [(0, .ref a0), (1, .int a1), (2, .int a2), (3, .int a3)] [] w
  unfold m_L_add at h
  obtain ⟨u, e_u, h⟩ := bnd h
  obtain ⟨k, e_k, h⟩ := bnd h
  refine v_aload_n C 0 dL_add_0 rfl rfl ?_
  refine v_iload_n C 1 dL_add_1 rfl rfl ?_
  refine v_iload_n C 2 dL_add_2 rfl rfl ?_
  refine v_iload_n C 3 dL_add_3 rfl rfl ?_
  by_cases q0 : k = 0
  · have h := ite_t q0 h
    obtain ⟨z1, e_z, h⟩ := bnd h
    refine v_callVi C (ci := 5) (av := [.int a1, .int a2, .int a3]) (rest := []) rfl gL_add_X6_add rfl ⟨rfl, rfl⟩ hV_X6_add ⟨(Nat.le_of_ble_eq_true rfl), (Nat.le_of_ble_eq_true rfl)⟩ e_u (r_X6_add (A := A) e_z) rfl rfl (Nat.le_of_ble_eq_true rfl) dL_add_4 ?_
    refine v_istore C (lv' := [(4, .int z1.1), (0, .ref a0), (1, .int a1), (2, .int a2), (3, .int a3)]) dL_add_7 (by decide) rfl ?_
    refine v_goto C (tgt := 27) dL_add_9 (by decide) ?_
    refine v_iload C 0 dL_add_27 rfl ?_
    obtain rfl := Option.some.inj h
    refine v_widen (k1 := 1) (s1 := 6) (by decide) (by decide) ?_
    exact v_iretW C dL_add_29
  have h := ite_f q0 h
  by_cases q1 : k = 1
  · have h := ite_t q1 h
    refine xw_callV C [] ⟨0, 9, 12, 15⟩ [⟨0, 9, 17, 18⟩, ⟨0, 9, 22, 21⟩] (by rw [hT]; rfl) (fun _ h => absurd h List.not_mem_nil) (by decide) (by decide) clL_add_15 C.xe.2.1.1 (ci := 5) (av := [.int a1, .int a2, .int a3]) (rest := []) rfl gL_add_X6_add rfl ⟨rfl, rfl⟩ hV_X6_add ⟨(Nat.le_of_ble_eq_true rfl), (Nat.le_of_ble_eq_true rfl)⟩ ⟨(Nat.le_of_ble_eq_true rfl), (Nat.le_of_ble_eq_true rfl)⟩ e_u (x_X6_add hst (Or.inl ⟨q1, rfl⟩) e_k) rfl rfl (Nat.le_of_ble_eq_true rfl) dL_add_4 (fun q9 => ?_)
    refine v_astore C (lv' := [(5, .ref q9), (0, .ref a0), (1, .int a1), (2, .int a2), (3, .int a3)]) dL_add_12 (by decide) rfl ?_
    refine v_ldc C dL_add_14 cL_add_17 ?_
    obtain rfl := Option.some.inj h
    exact v_iretW C dL_add_16
  have h := ite_f q1 h
  by_cases q2 : k = 2
  · have h := ite_t q2 h
    refine xw_callV C [⟨0, 9, 12, 15⟩] ⟨0, 9, 17, 18⟩ [⟨0, 9, 22, 21⟩] (by rw [hT]; rfl) (List.forall_mem_cons.mpr ⟨Or.inr ⟨by decide, eI, C.2.2.2.2.1 _ clL_add_15, C.xe.2.2.1⟩, (fun _ h => absurd h List.not_mem_nil)⟩) (by decide) (by decide) clL_add_18 C.xe.2.1.2.1 (ci := 5) (av := [.int a1, .int a2, .int a3]) (rest := []) rfl gL_add_X6_add rfl ⟨rfl, rfl⟩ hV_X6_add ⟨(Nat.le_of_ble_eq_true rfl), (Nat.le_of_ble_eq_true rfl)⟩ ⟨(Nat.le_of_ble_eq_true rfl), (Nat.le_of_ble_eq_true rfl)⟩ e_u (x_X6_add hst (Or.inr (Or.inl ⟨q2, rfl⟩)) e_k) rfl rfl (Nat.le_of_ble_eq_true rfl) dL_add_4 (fun q9 => ?_)
    refine v_astore C (lv' := [(5, .ref q9), (0, .ref a0), (1, .int a1), (2, .int a2), (3, .int a3)]) dL_add_17 (by decide) rfl ?_
    refine v_ldc C dL_add_19 cL_add_20 ?_
    obtain rfl := Option.some.inj h
    exact v_iretW C dL_add_21
  have h := ite_f q2 h
  by_cases q3 : k = 3
  · have h := ite_t q3 h
    refine xw_callV C [⟨0, 9, 12, 15⟩, ⟨0, 9, 17, 18⟩] ⟨0, 9, 22, 21⟩ [] (by rw [hT]; rfl) (List.forall_mem_cons.mpr ⟨Or.inr ⟨by decide, eI, C.2.2.2.2.1 _ clL_add_15, C.xe.2.2.2.1⟩, (List.forall_mem_cons.mpr ⟨Or.inr ⟨by decide, eA, C.2.2.2.2.1 _ clL_add_18, C.xe.2.2.2.2⟩, (fun _ h => absurd h List.not_mem_nil)⟩)⟩) (by decide) (by decide) clL_add_21 C.xe.2.1.2.2 (ci := 5) (av := [.int a1, .int a2, .int a3]) (rest := []) rfl gL_add_X6_add rfl ⟨rfl, rfl⟩ hV_X6_add ⟨(Nat.le_of_ble_eq_true rfl), (Nat.le_of_ble_eq_true rfl)⟩ ⟨(Nat.le_of_ble_eq_true rfl), (Nat.le_of_ble_eq_true rfl)⟩ e_u (x_X6_add hst (Or.inr (Or.inr ⟨q3, rfl⟩)) e_k) rfl rfl (Nat.le_of_ble_eq_true rfl) dL_add_4 (fun q9 => ?_)
    refine v_astore C (lv' := [(5, .ref q9), (0, .ref a0), (1, .int a1), (2, .int a2), (3, .int a3)]) dL_add_22 (by decide) rfl ?_
    refine v_ldc C dL_add_24 cL_add_23 ?_
    obtain rfl := Option.some.inj h
    exact v_iretW C dL_add_26
  have h := ite_f q3 h
  cases h
set_option maxRecDepth 100000 in
set_option maxHeartbeats 4000000 in
theorem r_LX_child {l : Launch} {G : GG} {A : Nat → Prop} {n : Nat} {w : Wd} {a0 : Nat} {a1 : Int32} {a2 : Int32} {a3 : Int32} {z1 : Int32} (h : m_LX_child n w a0 a1 a2 a3 = some z1) : Con l yL_child wsL_child { frames := 8, cells := 0, slots := 0, locals := 125 } G A [.ref a0, .int a1, .int a2, .int a3] w (some (.int z1)) w := by
  refine Con.ofH (own := RL) (cc := cL_child) (maxL := 6) (ret := (some .int)) (hh := [(0, 9, 12, 15), (0, 9, 17, 18)]) rfl (by decide) rfl (Nat.le_of_ble_eq_true rfl) ?_
  intro p e s m args below meth c C
  show V p l e _ s m args below meth c G A 6 0 [(0, .ref a0), (1, .int a1), (2, .int a2), (3, .int a3)] [] w _ _
  unfold m_LX_child at h
  obtain ⟨u, e_u, e_z⟩ := bnd h
  refine v_aload_n C 0 dL_child_0 rfl rfl ?_
  refine v_iload_n C 1 dL_child_1 rfl rfl ?_
  refine v_iload_n C 2 dL_child_2 rfl rfl ?_
  refine v_iload_n C 3 dL_child_3 rfl rfl ?_
  refine v_callVi C (ci := 5) (av := [.int a1, .int a2, .int a3]) (rest := []) rfl gL_child_X6_child rfl ⟨rfl, rfl⟩ hV_X6_child ⟨(Nat.le_of_ble_eq_true rfl), (Nat.le_of_ble_eq_true rfl)⟩ e_u (r_X6_child (A := A) e_z) rfl rfl (Nat.le_of_ble_eq_true rfl) dL_child_4 ?_
  refine v_istore C (lv' := [(4, .int z1), (0, .ref a0), (1, .int a1), (2, .int a2), (3, .int a3)]) dL_child_7 (by decide) rfl ?_
  refine v_goto C (tgt := 22) dL_child_9 (by decide) ?_
  refine v_iload C 0 dL_child_22 rfl ?_
  exact v_iret C dL_child_24
theorem clL_child_15 : Cond.classLink RL 15 eI ∈ wsL_child := by decide +kernel
theorem clL_child_18 : Cond.classLink RL 18 eA ∈ wsL_child := by decide +kernel
theorem cL_child_17 : Cond.constant RL 17 (-5000003) ∈ wsL_child := by decide +kernel
theorem cL_child_20 : Cond.constant RL 20 (-5000001) ∈ wsL_child := by decide +kernel
set_option maxRecDepth 100000 in
set_option maxHeartbeats 4000000 in
theorem r_L_child {l : Launch} (hst : l.stackTraces = false) {G : GG} {A : Nat → Prop} {n : Nat} {w : Wd} {a0 : Nat} {a1 : Int32} {a2 : Int32} {a3 : Int32} {z : Int32 × Wd} (h : m_L_child n w a0 a1 a2 a3 = some z) : WCon l yL_child wsL_child { frames := 8, cells := 1, slots := 6, locals := 125 } G A [.ref a0, .int a1, .int a2, .int a3] w (some (.int z.1)) z.2 := by
  refine WCon.of (own := RL) (cc := cL_child) (maxL := 6) (ret := (some .int)) (hh := [(0, 9, 12, 15), (0, 9, 17, 18)]) rfl (by decide) rfl (Nat.le_of_ble_eq_true rfl) ?_
  intro p e s m args below meth c C hT
  show VQ p l e _ s m args below meth c G A 6 0 0 _ 0 [(0, .ref a0), (1, .int a1), (2, .int a2), (3, .int a3)] [] w
  unfold m_L_child at h
  obtain ⟨u, e_u, h⟩ := bnd h
  obtain ⟨k, e_k, h⟩ := bnd h
  refine v_aload_n C 0 dL_child_0 rfl rfl ?_
  refine v_iload_n C 1 dL_child_1 rfl rfl ?_
  refine v_iload_n C 2 dL_child_2 rfl rfl ?_
  refine v_iload_n C 3 dL_child_3 rfl rfl ?_
  by_cases q0 : k = 0
  · have h := ite_t q0 h
    obtain ⟨z1, e_z, h⟩ := bnd h
    refine v_callVi C (ci := 5) (av := [.int a1, .int a2, .int a3]) (rest := []) rfl gL_child_X6_child rfl ⟨rfl, rfl⟩ hV_X6_child ⟨(Nat.le_of_ble_eq_true rfl), (Nat.le_of_ble_eq_true rfl)⟩ e_u (r_X6_child (A := A) e_z) rfl rfl (Nat.le_of_ble_eq_true rfl) dL_child_4 ?_
    refine v_istore C (lv' := [(4, .int z1), (0, .ref a0), (1, .int a1), (2, .int a2), (3, .int a3)]) dL_child_7 (by decide) rfl ?_
    refine v_goto C (tgt := 22) dL_child_9 (by decide) ?_
    refine v_iload C 0 dL_child_22 rfl ?_
    obtain rfl := Option.some.inj h
    refine v_widen (k1 := 1) (s1 := 6) (by decide) (by decide) ?_
    exact v_iretW C dL_child_24
  have h := ite_f q0 h
  by_cases q1 : k = 1
  · have h := ite_t q1 h
    refine xw_callV C [] ⟨0, 9, 12, 15⟩ [⟨0, 9, 17, 18⟩] (by rw [hT]; rfl) (fun _ h => absurd h List.not_mem_nil) (by decide) (by decide) clL_child_15 C.xe.2.1.1 (ci := 5) (av := [.int a1, .int a2, .int a3]) (rest := []) rfl gL_child_X6_child rfl ⟨rfl, rfl⟩ hV_X6_child ⟨(Nat.le_of_ble_eq_true rfl), (Nat.le_of_ble_eq_true rfl)⟩ ⟨(Nat.le_of_ble_eq_true rfl), (Nat.le_of_ble_eq_true rfl)⟩ e_u (x_X6_child hst (Or.inl ⟨q1, rfl⟩) e_k) rfl rfl (Nat.le_of_ble_eq_true rfl) dL_child_4 (fun q9 => ?_)
    refine v_astore C (lv' := [(5, .ref q9), (0, .ref a0), (1, .int a1), (2, .int a2), (3, .int a3)]) dL_child_12 (by decide) rfl ?_
    refine v_ldc C dL_child_14 cL_child_17 ?_
    obtain rfl := Option.some.inj h
    exact v_iretW C dL_child_16
  have h := ite_f q1 h
  by_cases q2 : k = 2
  · have h := ite_t q2 h
    refine xw_callV C [⟨0, 9, 12, 15⟩] ⟨0, 9, 17, 18⟩ [] (by rw [hT]; rfl) (List.forall_mem_cons.mpr ⟨Or.inr ⟨by decide, eI, C.2.2.2.2.1 _ clL_child_15, C.xe.2.2.1⟩, (fun _ h => absurd h List.not_mem_nil)⟩) (by decide) (by decide) clL_child_18 C.xe.2.1.2.1 (ci := 5) (av := [.int a1, .int a2, .int a3]) (rest := []) rfl gL_child_X6_child rfl ⟨rfl, rfl⟩ hV_X6_child ⟨(Nat.le_of_ble_eq_true rfl), (Nat.le_of_ble_eq_true rfl)⟩ ⟨(Nat.le_of_ble_eq_true rfl), (Nat.le_of_ble_eq_true rfl)⟩ e_u (x_X6_child hst (Or.inr (Or.inl ⟨q2, rfl⟩)) e_k) rfl rfl (Nat.le_of_ble_eq_true rfl) dL_child_4 (fun q9 => ?_)
    refine v_astore C (lv' := [(5, .ref q9), (0, .ref a0), (1, .int a1), (2, .int a2), (3, .int a3)]) dL_child_17 (by decide) rfl ?_
    refine v_ldc C dL_child_19 cL_child_20 ?_
    obtain rfl := Option.some.inj h
    exact v_iretW C dL_child_21
  have h := ite_f q2 h
  cases h
set_option maxRecDepth 100000 in
set_option maxHeartbeats 4000000 in
theorem r_LX_closest {l : Launch} {G : GG} {A : Nat → Prop} {n : Nat} {w : Wd} {a0 : Nat} {a1 : Int32} {z1 : Int32} (h : m_LX_closest n w a0 a1 = some z1) : Con l yL_closest wsL_closest { frames := 8, cells := 0, slots := 0, locals := 124 } G A [.ref a0, .int a1] w (some (.int z1)) w := by
  refine Con.ofH (own := RL) (cc := cL_closest) (maxL := 4) (ret := (some .int)) (hh := [(0, 6, 9, 18)]) rfl (by decide) rfl (Nat.le_of_ble_eq_true rfl) ?_
  intro p e s m args below meth c C
  show V p l e _ s m args below meth c G A 4 0 [(0, .ref a0), (1, .int a1)] [] w _ _
  unfold m_LX_closest at h
  obtain ⟨u, e_u, e_z⟩ := bnd h
  refine v_aload_n C 0 dL_closest_0 rfl rfl ?_
  refine v_iload_n C 1 dL_closest_1 rfl rfl ?_
  refine v_callVi C (ci := 5) (av := [.int a1]) (rest := []) rfl gL_closest_X6_closest rfl ⟨rfl, rfl⟩ hV_X6_closest ⟨(Nat.le_of_ble_eq_true rfl), (Nat.le_of_ble_eq_true rfl)⟩ e_u (r_X6_closest (A := A) e_z) rfl rfl (Nat.le_of_ble_eq_true rfl) dL_closest_2 ?_
  refine v_istore_n C (lv' := [(2, .int z1), (0, .ref a0), (1, .int a1)]) dL_closest_5 rfl (by decide) rfl ?_
  refine v_goto C (tgt := 13) dL_closest_6 (by decide) ?_
  refine v_iload_n C 0 dL_closest_13 rfl rfl ?_
  exact v_iret C dL_closest_14
theorem clL_closest_18 : Cond.classLink RL 18 eA ∈ wsL_closest := by decide +kernel
theorem cL_closest_20 : Cond.constant RL 20 (-5000001) ∈ wsL_closest := by decide +kernel
set_option maxRecDepth 100000 in
set_option maxHeartbeats 4000000 in
theorem r_L_closest {l : Launch} (hst : l.stackTraces = false) {G : GG} {A : Nat → Prop} {n : Nat} {w : Wd} {a0 : Nat} {a1 : Int32} {z : Int32 × Wd} (h : m_L_closest n w a0 a1 = some z) : WCon l yL_closest wsL_closest { frames := 8, cells := 1, slots := 6, locals := 124 } G A [.ref a0, .int a1] w (some (.int z.1)) z.2 := by
  refine WCon.of (own := RL) (cc := cL_closest) (maxL := 4) (ret := (some .int)) (hh := [(0, 6, 9, 18)]) rfl (by decide) rfl (Nat.le_of_ble_eq_true rfl) ?_
  intro p e s m args below meth c C hT
  show VQ p l e _ s m args below meth c G A 4 0 0 _ 0 [(0, .ref a0), (1, .int a1)] [] w
  unfold m_L_closest at h
  obtain ⟨u, e_u, h⟩ := bnd h
  obtain ⟨k, e_k, h⟩ := bnd h
  refine v_aload_n C 0 dL_closest_0 rfl rfl ?_
  refine v_iload_n C 1 dL_closest_1 rfl rfl ?_
  by_cases q0 : k = 0
  · have h := ite_t q0 h
    obtain ⟨z1, e_z, h⟩ := bnd h
    refine v_callVi C (ci := 5) (av := [.int a1]) (rest := []) rfl gL_closest_X6_closest rfl ⟨rfl, rfl⟩ hV_X6_closest ⟨(Nat.le_of_ble_eq_true rfl), (Nat.le_of_ble_eq_true rfl)⟩ e_u (r_X6_closest (A := A) e_z) rfl rfl (Nat.le_of_ble_eq_true rfl) dL_closest_2 ?_
    refine v_istore_n C (lv' := [(2, .int z1), (0, .ref a0), (1, .int a1)]) dL_closest_5 rfl (by decide) rfl ?_
    refine v_goto C (tgt := 13) dL_closest_6 (by decide) ?_
    refine v_iload_n C 0 dL_closest_13 rfl rfl ?_
    obtain rfl := Option.some.inj h
    refine v_widen (k1 := 1) (s1 := 6) (by decide) (by decide) ?_
    exact v_iretW C dL_closest_14
  have h := ite_f q0 h
  by_cases q2 : k = 2
  · have h := ite_t q2 h
    refine xw_callV C [] ⟨0, 6, 9, 18⟩ [] (by rw [hT]; rfl) (fun _ h => absurd h List.not_mem_nil) (by decide) (by decide) clL_closest_18 C.xe.2.1.2.1 (ci := 5) (av := [.int a1]) (rest := []) rfl gL_closest_X6_closest rfl ⟨rfl, rfl⟩ hV_X6_closest ⟨(Nat.le_of_ble_eq_true rfl), (Nat.le_of_ble_eq_true rfl)⟩ ⟨(Nat.le_of_ble_eq_true rfl), (Nat.le_of_ble_eq_true rfl)⟩ e_u (x_X6_closest hst (Or.inr (Or.inl ⟨q2, rfl⟩)) e_k) rfl rfl (Nat.le_of_ble_eq_true rfl) dL_closest_2 (fun q9 => ?_)
    refine v_astore_n C (lv' := [(3, .ref q9), (0, .ref a0), (1, .int a1)]) dL_closest_9 rfl (by decide) rfl ?_
    refine v_ldc C dL_closest_10 cL_closest_20 ?_
    obtain rfl := Option.some.inj h
    exact v_iretW C dL_closest_12
  have h := ite_f q2 h
  cases h
set_option maxRecDepth 100000 in
set_option maxHeartbeats 4000000 in
theorem r_LX_cursor {l : Launch} {G : GG} {A : Nat → Prop} {n : Nat} {w : Wd} {a0 : Nat} {a1 : Int32} {a2 : Int32} {z1 : Int32} (h : m_LX_cursor n w a0 a1 a2 = some z1) : Con l yL_cursor wsL_cursor { frames := 8, cells := 0, slots := 0, locals := 127 } G A [.ref a0, .int a1, .int a2] w (some (.int z1)) w := by
  refine Con.ofH (own := RL) (cc := cL_cursor) (maxL := 5) (ret := (some .int)) (hh := [(0, 7, 10, 15), (0, 7, 15, 18)]) rfl (by decide) rfl (Nat.le_of_ble_eq_true rfl) ?_
  intro p e s m args below meth c C
  show V p l e _ s m args below meth c G A 5 0 [(0, .ref a0), (1, .int a1), (2, .int a2)] [] w _ _
  unfold m_LX_cursor at h
  obtain ⟨u, e_u, e_z⟩ := bnd h
  refine v_aload_n C 0 dL_cursor_0 rfl rfl ?_
  refine v_iload_n C 1 dL_cursor_1 rfl rfl ?_
  refine v_iload_n C 2 dL_cursor_2 rfl rfl ?_
  refine v_callVi C (ci := 5) (av := [.int a1, .int a2]) (rest := []) rfl gL_cursor_X6_cursor rfl ⟨rfl, rfl⟩ hV_X6_cursor ⟨(Nat.le_of_ble_eq_true rfl), (Nat.le_of_ble_eq_true rfl)⟩ e_u (r_X6_cursor (A := A) e_z) rfl rfl (Nat.le_of_ble_eq_true rfl) dL_cursor_3 ?_
  refine v_istore_n C (lv' := [(3, .int z1), (0, .ref a0), (1, .int a1), (2, .int a2)]) dL_cursor_6 rfl (by decide) rfl ?_
  refine v_goto C (tgt := 20) dL_cursor_7 (by decide) ?_
  refine v_iload_n C 0 dL_cursor_20 rfl rfl ?_
  exact v_iret C dL_cursor_21
theorem clL_cursor_15 : Cond.classLink RL 15 eI ∈ wsL_cursor := by decide +kernel
theorem clL_cursor_18 : Cond.classLink RL 18 eA ∈ wsL_cursor := by decide +kernel
theorem cL_cursor_17 : Cond.constant RL 17 (-5000003) ∈ wsL_cursor := by decide +kernel
theorem cL_cursor_20 : Cond.constant RL 20 (-5000001) ∈ wsL_cursor := by decide +kernel
set_option maxRecDepth 100000 in
set_option maxHeartbeats 4000000 in
theorem r_L_cursor {l : Launch} (hst : l.stackTraces = false) {G : GG} {A : Nat → Prop} {n : Nat} {w : Wd} {a0 : Nat} {a1 : Int32} {a2 : Int32} {z : Int32 × Wd} (h : m_L_cursor n w a0 a1 a2 = some z) : WCon l yL_cursor wsL_cursor { frames := 8, cells := 1, slots := 6, locals := 127 } G A [.ref a0, .int a1, .int a2] w (some (.int z.1)) z.2 := by
  refine WCon.of (own := RL) (cc := cL_cursor) (maxL := 5) (ret := (some .int)) (hh := [(0, 7, 10, 15), (0, 7, 15, 18)]) rfl (by decide) rfl (Nat.le_of_ble_eq_true rfl) ?_
  intro p e s m args below meth c C hT
  show VQ p l e _ s m args below meth c G A 5 0 0 _ 0 [(0, .ref a0), (1, .int a1), (2, .int a2)] [] w
  unfold m_L_cursor at h
  obtain ⟨u, e_u, h⟩ := bnd h
  obtain ⟨k, e_k, h⟩ := bnd h
  refine v_aload_n C 0 dL_cursor_0 rfl rfl ?_
  refine v_iload_n C 1 dL_cursor_1 rfl rfl ?_
  refine v_iload_n C 2 dL_cursor_2 rfl rfl ?_
  by_cases q0 : k = 0
  · have h := ite_t q0 h
    obtain ⟨z1, e_z, h⟩ := bnd h
    refine v_callVi C (ci := 5) (av := [.int a1, .int a2]) (rest := []) rfl gL_cursor_X6_cursor rfl ⟨rfl, rfl⟩ hV_X6_cursor ⟨(Nat.le_of_ble_eq_true rfl), (Nat.le_of_ble_eq_true rfl)⟩ e_u (r_X6_cursor (A := A) e_z) rfl rfl (Nat.le_of_ble_eq_true rfl) dL_cursor_3 ?_
    refine v_istore_n C (lv' := [(3, .int z1), (0, .ref a0), (1, .int a1), (2, .int a2)]) dL_cursor_6 rfl (by decide) rfl ?_
    refine v_goto C (tgt := 20) dL_cursor_7 (by decide) ?_
    refine v_iload_n C 0 dL_cursor_20 rfl rfl ?_
    obtain rfl := Option.some.inj h
    refine v_widen (k1 := 1) (s1 := 6) (by decide) (by decide) ?_
    exact v_iretW C dL_cursor_21
  have h := ite_f q0 h
  by_cases q1 : k = 1
  · have h := ite_t q1 h
    refine xw_callV C [] ⟨0, 7, 10, 15⟩ [⟨0, 7, 15, 18⟩] (by rw [hT]; rfl) (fun _ h => absurd h List.not_mem_nil) (by decide) (by decide) clL_cursor_15 C.xe.2.1.1 (ci := 5) (av := [.int a1, .int a2]) (rest := []) rfl gL_cursor_X6_cursor rfl ⟨rfl, rfl⟩ hV_X6_cursor ⟨(Nat.le_of_ble_eq_true rfl), (Nat.le_of_ble_eq_true rfl)⟩ ⟨(Nat.le_of_ble_eq_true rfl), (Nat.le_of_ble_eq_true rfl)⟩ e_u (x_X6_cursor hst (Or.inl ⟨q1, rfl⟩) e_k) rfl rfl (Nat.le_of_ble_eq_true rfl) dL_cursor_3 (fun q9 => ?_)
    refine v_astore C (lv' := [(4, .ref q9), (0, .ref a0), (1, .int a1), (2, .int a2)]) dL_cursor_10 (by decide) rfl ?_
    refine v_ldc C dL_cursor_12 cL_cursor_17 ?_
    obtain rfl := Option.some.inj h
    exact v_iretW C dL_cursor_14
  have h := ite_f q1 h
  by_cases q2 : k = 2
  · have h := ite_t q2 h
    refine xw_callV C [⟨0, 7, 10, 15⟩] ⟨0, 7, 15, 18⟩ [] (by rw [hT]; rfl) (List.forall_mem_cons.mpr ⟨Or.inr ⟨by decide, eI, C.2.2.2.2.1 _ clL_cursor_15, C.xe.2.2.1⟩, (fun _ h => absurd h List.not_mem_nil)⟩) (by decide) (by decide) clL_cursor_18 C.xe.2.1.2.1 (ci := 5) (av := [.int a1, .int a2]) (rest := []) rfl gL_cursor_X6_cursor rfl ⟨rfl, rfl⟩ hV_X6_cursor ⟨(Nat.le_of_ble_eq_true rfl), (Nat.le_of_ble_eq_true rfl)⟩ ⟨(Nat.le_of_ble_eq_true rfl), (Nat.le_of_ble_eq_true rfl)⟩ e_u (x_X6_cursor hst (Or.inr (Or.inl ⟨q2, rfl⟩)) e_k) rfl rfl (Nat.le_of_ble_eq_true rfl) dL_cursor_3 (fun q9 => ?_)
    refine v_astore C (lv' := [(4, .ref q9), (0, .ref a0), (1, .int a1), (2, .int a2)]) dL_cursor_15 (by decide) rfl ?_
    refine v_ldc C dL_cursor_17 cL_cursor_20 ?_
    obtain rfl := Option.some.inj h
    exact v_iretW C dL_cursor_19
  have h := ite_f q2 h
  cases h
set_option maxRecDepth 100000 in
set_option maxHeartbeats 4000000 in
theorem r_LX_level {l : Launch} {G : GG} {A : Nat → Prop} {n : Nat} {w : Wd} {a0 : Nat} {a1 : Int32} {a2 : Int32} {z1 : Int32} (h : m_LX_level n w a0 a1 a2 = some z1) : Con l yL_level wsL_level { frames := 8, cells := 0, slots := 0, locals := 136 } G A [.ref a0, .int a1, .int a2] w (some (.int z1)) w := by
  refine Con.ofH (own := RL) (cc := cL_level) (maxL := 5) (ret := (some .int)) (hh := [(0, 7, 10, 15), (0, 7, 15, 18)]) rfl (by decide) rfl (Nat.le_of_ble_eq_true rfl) ?_
  intro p e s m args below meth c C
  show V p l e _ s m args below meth c G A 5 0 [(0, .ref a0), (1, .int a1), (2, .int a2)] [] w _ _
  unfold m_LX_level at h
  obtain ⟨u, e_u, e_z⟩ := bnd h
  refine v_aload_n C 0 dL_level_0 rfl rfl ?_
  refine v_iload_n C 1 dL_level_1 rfl rfl ?_
  refine v_iload_n C 2 dL_level_2 rfl rfl ?_
  refine v_callVi C (ci := 5) (av := [.int a1, .int a2]) (rest := []) rfl gL_level_X6_level rfl ⟨rfl, rfl⟩ hV_X6_level ⟨(Nat.le_of_ble_eq_true rfl), (Nat.le_of_ble_eq_true rfl)⟩ e_u (r_X6_level (A := A) e_z) rfl rfl (Nat.le_of_ble_eq_true rfl) dL_level_3 ?_
  refine v_istore_n C (lv' := [(3, .int z1), (0, .ref a0), (1, .int a1), (2, .int a2)]) dL_level_6 rfl (by decide) rfl ?_
  refine v_goto C (tgt := 20) dL_level_7 (by decide) ?_
  refine v_iload_n C 0 dL_level_20 rfl rfl ?_
  exact v_iret C dL_level_21
theorem clL_level_15 : Cond.classLink RL 15 eI ∈ wsL_level := by decide +kernel
theorem clL_level_18 : Cond.classLink RL 18 eA ∈ wsL_level := by decide +kernel
theorem cL_level_17 : Cond.constant RL 17 (-5000003) ∈ wsL_level := by decide +kernel
theorem cL_level_20 : Cond.constant RL 20 (-5000001) ∈ wsL_level := by decide +kernel
set_option maxRecDepth 100000 in
set_option maxHeartbeats 4000000 in
theorem r_L_level {l : Launch} (hst : l.stackTraces = false) {G : GG} {A : Nat → Prop} {n : Nat} {w : Wd} {a0 : Nat} {a1 : Int32} {a2 : Int32} {z : Int32 × Wd} (h : m_L_level n w a0 a1 a2 = some z) : WCon l yL_level wsL_level { frames := 8, cells := 1, slots := 6, locals := 136 } G A [.ref a0, .int a1, .int a2] w (some (.int z.1)) z.2 := by
  refine WCon.of (own := RL) (cc := cL_level) (maxL := 5) (ret := (some .int)) (hh := [(0, 7, 10, 15), (0, 7, 15, 18)]) rfl (by decide) rfl (Nat.le_of_ble_eq_true rfl) ?_
  intro p e s m args below meth c C hT
  show VQ p l e _ s m args below meth c G A 5 0 0 _ 0 [(0, .ref a0), (1, .int a1), (2, .int a2)] [] w
  unfold m_L_level at h
  obtain ⟨u, e_u, h⟩ := bnd h
  obtain ⟨k, e_k, h⟩ := bnd h
  refine v_aload_n C 0 dL_level_0 rfl rfl ?_
  refine v_iload_n C 1 dL_level_1 rfl rfl ?_
  refine v_iload_n C 2 dL_level_2 rfl rfl ?_
  by_cases q0 : k = 0
  · have h := ite_t q0 h
    obtain ⟨z1, e_z, h⟩ := bnd h
    refine v_callVi C (ci := 5) (av := [.int a1, .int a2]) (rest := []) rfl gL_level_X6_level rfl ⟨rfl, rfl⟩ hV_X6_level ⟨(Nat.le_of_ble_eq_true rfl), (Nat.le_of_ble_eq_true rfl)⟩ e_u (r_X6_level (A := A) e_z) rfl rfl (Nat.le_of_ble_eq_true rfl) dL_level_3 ?_
    refine v_istore_n C (lv' := [(3, .int z1), (0, .ref a0), (1, .int a1), (2, .int a2)]) dL_level_6 rfl (by decide) rfl ?_
    refine v_goto C (tgt := 20) dL_level_7 (by decide) ?_
    refine v_iload_n C 0 dL_level_20 rfl rfl ?_
    obtain rfl := Option.some.inj h
    refine v_widen (k1 := 1) (s1 := 6) (by decide) (by decide) ?_
    exact v_iretW C dL_level_21
  have h := ite_f q0 h
  by_cases q1 : k = 1
  · have h := ite_t q1 h
    refine xw_callV C [] ⟨0, 7, 10, 15⟩ [⟨0, 7, 15, 18⟩] (by rw [hT]; rfl) (fun _ h => absurd h List.not_mem_nil) (by decide) (by decide) clL_level_15 C.xe.2.1.1 (ci := 5) (av := [.int a1, .int a2]) (rest := []) rfl gL_level_X6_level rfl ⟨rfl, rfl⟩ hV_X6_level ⟨(Nat.le_of_ble_eq_true rfl), (Nat.le_of_ble_eq_true rfl)⟩ ⟨(Nat.le_of_ble_eq_true rfl), (Nat.le_of_ble_eq_true rfl)⟩ e_u (x_X6_level hst (Or.inl ⟨q1, rfl⟩) e_k) rfl rfl (Nat.le_of_ble_eq_true rfl) dL_level_3 (fun q9 => ?_)
    refine v_astore C (lv' := [(4, .ref q9), (0, .ref a0), (1, .int a1), (2, .int a2)]) dL_level_10 (by decide) rfl ?_
    refine v_ldc C dL_level_12 cL_level_17 ?_
    obtain rfl := Option.some.inj h
    exact v_iretW C dL_level_14
  have h := ite_f q1 h
  by_cases q2 : k = 2
  · have h := ite_t q2 h
    refine xw_callV C [⟨0, 7, 10, 15⟩] ⟨0, 7, 15, 18⟩ [] (by rw [hT]; rfl) (List.forall_mem_cons.mpr ⟨Or.inr ⟨by decide, eI, C.2.2.2.2.1 _ clL_level_15, C.xe.2.2.1⟩, (fun _ h => absurd h List.not_mem_nil)⟩) (by decide) (by decide) clL_level_18 C.xe.2.1.2.1 (ci := 5) (av := [.int a1, .int a2]) (rest := []) rfl gL_level_X6_level rfl ⟨rfl, rfl⟩ hV_X6_level ⟨(Nat.le_of_ble_eq_true rfl), (Nat.le_of_ble_eq_true rfl)⟩ ⟨(Nat.le_of_ble_eq_true rfl), (Nat.le_of_ble_eq_true rfl)⟩ e_u (x_X6_level hst (Or.inr (Or.inl ⟨q2, rfl⟩)) e_k) rfl rfl (Nat.le_of_ble_eq_true rfl) dL_level_3 (fun q9 => ?_)
    refine v_astore C (lv' := [(4, .ref q9), (0, .ref a0), (1, .int a1), (2, .int a2)]) dL_level_15 (by decide) rfl ?_
    refine v_ldc C dL_level_17 cL_level_20 ?_
    obtain rfl := Option.some.inj h
    exact v_iretW C dL_level_19
  have h := ite_f q2 h
  cases h
set_option maxRecDepth 100000 in
set_option maxHeartbeats 4000000 in
theorem r_LX_move {l : Launch} {G : GG} {A : Nat → Prop} {n : Nat} {w : Wd} {a0 : Nat} {a1 : Int32} {a2 : Int32} {a3 : Int32} {z1 : Int32 × Wd} (h : m_LX_move n w a0 a1 a2 a3 = some z1) : Con l yL_move wsL_move { frames := 8, cells := 0, slots := 0, locals := 140 } G A [.ref a0, .int a1, .int a2, .int a3] w (some (.int z1.1)) z1.2 := by
  refine Con.ofH (own := RL) (cc := cL_move) (maxL := 6) (ret := (some .int)) (hh := [(0, 9, 12, 15), (0, 9, 17, 18), (0, 9, 22, 21)]) rfl (by decide) rfl (Nat.le_of_ble_eq_true rfl) ?_
  intro p e s m args below meth c C
  show V p l e _ s m args below meth c G A 6 0 [(0, .ref a0), (1, .int a1), (2, .int a2), (3, .int a3)] [] w _ _
  unfold m_LX_move at h
  obtain ⟨u, e_u, e_z⟩ := bnd h
  refine v_aload_n C 0 dL_move_0 rfl rfl ?_
  refine v_iload_n C 1 dL_move_1 rfl rfl ?_
  refine v_iload_n C 2 dL_move_2 rfl rfl ?_
  refine v_iload_n C 3 dL_move_3 rfl rfl ?_
  refine v_callVi C (ci := 5) (av := [.int a1, .int a2, .int a3]) (rest := []) rfl gL_move_X6_move rfl ⟨rfl, rfl⟩ hV_X6_move ⟨(Nat.le_of_ble_eq_true rfl), (Nat.le_of_ble_eq_true rfl)⟩ e_u (r_X6_move (A := A) e_z) rfl rfl (Nat.le_of_ble_eq_true rfl) dL_move_4 ?_
  refine v_istore C (lv' := [(4, .int z1.1), (0, .ref a0), (1, .int a1), (2, .int a2), (3, .int a3)]) dL_move_7 (by decide) rfl ?_
  refine v_goto C (tgt := 27) dL_move_9 (by decide) ?_
  refine v_iload C 0 dL_move_27 rfl ?_
  exact v_iret C dL_move_29
theorem clL_move_15 : Cond.classLink RL 15 eI ∈ wsL_move := by decide +kernel
theorem clL_move_18 : Cond.classLink RL 18 eA ∈ wsL_move := by decide +kernel
theorem clL_move_21 : Cond.classLink RL 21 eS ∈ wsL_move := by decide +kernel
theorem cL_move_17 : Cond.constant RL 17 (-5000003) ∈ wsL_move := by decide +kernel
theorem cL_move_20 : Cond.constant RL 20 (-5000001) ∈ wsL_move := by decide +kernel
theorem cL_move_23 : Cond.constant RL 23 (-5000002) ∈ wsL_move := by decide +kernel
set_option maxRecDepth 100000 in
set_option maxHeartbeats 4000000 in
theorem r_L_move {l : Launch} (hst : l.stackTraces = false) {G : GG} {A : Nat → Prop} {n : Nat} {w : Wd} {a0 : Nat} {a1 : Int32} {a2 : Int32} {a3 : Int32} {z : Int32 × Wd} (h : m_L_move n w a0 a1 a2 a3 = some z) : WCon l yL_move wsL_move { frames := 8, cells := 1, slots := 6, locals := 140 } G A [.ref a0, .int a1, .int a2, .int a3] w (some (.int z.1)) z.2 := by
  refine WCon.of (own := RL) (cc := cL_move) (maxL := 6) (ret := (some .int)) (hh := [(0, 9, 12, 15), (0, 9, 17, 18), (0, 9, 22, 21)]) rfl (by decide) rfl (Nat.le_of_ble_eq_true rfl) ?_
  intro p e s m args below meth c C hT
  show VQ p l e _ s m args below meth c G A 6 0 0 _ 0 [(0, .ref a0), (1, .int a1), (2, .int a2), (3, .int a3)] [] w
  unfold m_L_move at h
  obtain ⟨u, e_u, h⟩ := bnd h
  obtain ⟨k, e_k, h⟩ := bnd h
  refine v_aload_n C 0 dL_move_0 rfl rfl ?_
  refine v_iload_n C 1 dL_move_1 rfl rfl ?_
  refine v_iload_n C 2 dL_move_2 rfl rfl ?_
  refine v_iload_n C 3 dL_move_3 rfl rfl ?_
  by_cases q0 : k = 0
  · have h := ite_t q0 h
    obtain ⟨z1, e_z, h⟩ := bnd h
    refine v_callVi C (ci := 5) (av := [.int a1, .int a2, .int a3]) (rest := []) rfl gL_move_X6_move rfl ⟨rfl, rfl⟩ hV_X6_move ⟨(Nat.le_of_ble_eq_true rfl), (Nat.le_of_ble_eq_true rfl)⟩ e_u (r_X6_move (A := A) e_z) rfl rfl (Nat.le_of_ble_eq_true rfl) dL_move_4 ?_
    refine v_istore C (lv' := [(4, .int z1.1), (0, .ref a0), (1, .int a1), (2, .int a2), (3, .int a3)]) dL_move_7 (by decide) rfl ?_
    refine v_goto C (tgt := 27) dL_move_9 (by decide) ?_
    refine v_iload C 0 dL_move_27 rfl ?_
    obtain rfl := Option.some.inj h
    refine v_widen (k1 := 1) (s1 := 6) (by decide) (by decide) ?_
    exact v_iretW C dL_move_29
  have h := ite_f q0 h
  by_cases q1 : k = 1
  · have h := ite_t q1 h
    refine xw_callV C [] ⟨0, 9, 12, 15⟩ [⟨0, 9, 17, 18⟩, ⟨0, 9, 22, 21⟩] (by rw [hT]; rfl) (fun _ h => absurd h List.not_mem_nil) (by decide) (by decide) clL_move_15 C.xe.2.1.1 (ci := 5) (av := [.int a1, .int a2, .int a3]) (rest := []) rfl gL_move_X6_move rfl ⟨rfl, rfl⟩ hV_X6_move ⟨(Nat.le_of_ble_eq_true rfl), (Nat.le_of_ble_eq_true rfl)⟩ ⟨(Nat.le_of_ble_eq_true rfl), (Nat.le_of_ble_eq_true rfl)⟩ e_u (x_X6_move hst (Or.inl ⟨q1, rfl⟩) e_k) rfl rfl (Nat.le_of_ble_eq_true rfl) dL_move_4 (fun q9 => ?_)
    refine v_astore C (lv' := [(5, .ref q9), (0, .ref a0), (1, .int a1), (2, .int a2), (3, .int a3)]) dL_move_12 (by decide) rfl ?_
    refine v_ldc C dL_move_14 cL_move_17 ?_
    obtain rfl := Option.some.inj h
    exact v_iretW C dL_move_16
  have h := ite_f q1 h
  by_cases q2 : k = 2
  · have h := ite_t q2 h
    refine xw_callV C [⟨0, 9, 12, 15⟩] ⟨0, 9, 17, 18⟩ [⟨0, 9, 22, 21⟩] (by rw [hT]; rfl) (List.forall_mem_cons.mpr ⟨Or.inr ⟨by decide, eI, C.2.2.2.2.1 _ clL_move_15, C.xe.2.2.1⟩, (fun _ h => absurd h List.not_mem_nil)⟩) (by decide) (by decide) clL_move_18 C.xe.2.1.2.1 (ci := 5) (av := [.int a1, .int a2, .int a3]) (rest := []) rfl gL_move_X6_move rfl ⟨rfl, rfl⟩ hV_X6_move ⟨(Nat.le_of_ble_eq_true rfl), (Nat.le_of_ble_eq_true rfl)⟩ ⟨(Nat.le_of_ble_eq_true rfl), (Nat.le_of_ble_eq_true rfl)⟩ e_u (x_X6_move hst (Or.inr (Or.inl ⟨q2, rfl⟩)) e_k) rfl rfl (Nat.le_of_ble_eq_true rfl) dL_move_4 (fun q9 => ?_)
    refine v_astore C (lv' := [(5, .ref q9), (0, .ref a0), (1, .int a1), (2, .int a2), (3, .int a3)]) dL_move_17 (by decide) rfl ?_
    refine v_ldc C dL_move_19 cL_move_20 ?_
    obtain rfl := Option.some.inj h
    exact v_iretW C dL_move_21
  have h := ite_f q2 h
  by_cases q3 : k = 3
  · have h := ite_t q3 h
    refine xw_callV C [⟨0, 9, 12, 15⟩, ⟨0, 9, 17, 18⟩] ⟨0, 9, 22, 21⟩ [] (by rw [hT]; rfl) (List.forall_mem_cons.mpr ⟨Or.inr ⟨by decide, eI, C.2.2.2.2.1 _ clL_move_15, C.xe.2.2.2.1⟩, (List.forall_mem_cons.mpr ⟨Or.inr ⟨by decide, eA, C.2.2.2.2.1 _ clL_move_18, C.xe.2.2.2.2⟩, (fun _ h => absurd h List.not_mem_nil)⟩)⟩) (by decide) (by decide) clL_move_21 C.xe.2.1.2.2 (ci := 5) (av := [.int a1, .int a2, .int a3]) (rest := []) rfl gL_move_X6_move rfl ⟨rfl, rfl⟩ hV_X6_move ⟨(Nat.le_of_ble_eq_true rfl), (Nat.le_of_ble_eq_true rfl)⟩ ⟨(Nat.le_of_ble_eq_true rfl), (Nat.le_of_ble_eq_true rfl)⟩ e_u (x_X6_move hst (Or.inr (Or.inr ⟨q3, rfl⟩)) e_k) rfl rfl (Nat.le_of_ble_eq_true rfl) dL_move_4 (fun q9 => ?_)
    refine v_astore C (lv' := [(5, .ref q9), (0, .ref a0), (1, .int a1), (2, .int a2), (3, .int a3)]) dL_move_22 (by decide) rfl ?_
    refine v_ldc C dL_move_24 cL_move_23 ?_
    obtain rfl := Option.some.inj h
    exact v_iretW C dL_move_26
  have h := ite_f q3 h
  cases h
set_option maxRecDepth 100000 in
set_option maxHeartbeats 4000000 in
theorem r_LX_nearest {l : Launch} {G : GG} {A : Nat → Prop} {n : Nat} {w : Wd} {a0 : Nat} {a1 : Int32} {a2 : Int32} {a3 : Int32} {z1 : Int32} (h : m_LX_nearest n w a0 a1 a2 a3 = some z1) : Con l yL_nearest wsL_nearest { frames := 8, cells := 0, slots := 0, locals := 127 } G A [.ref a0, .int a1, .int a2, .int a3] w (some (.int z1)) w := by
  refine Con.ofH (own := RL) (cc := cL_nearest) (maxL := 6) (ret := (some .int)) (hh := [(0, 9, 12, 18)]) rfl (by decide) rfl (Nat.le_of_ble_eq_true rfl) ?_
  intro p e s m args below meth c C
  show V p l e _ s m args below meth c G A 6 0 [(0, .ref a0), (1, .int a1), (2, .int a2), (3, .int a3)] [] w _ _
  unfold m_LX_nearest at h
  obtain ⟨u, e_u, e_z⟩ := bnd h
  refine v_aload_n C 0 dL_nearest_0 rfl rfl ?_
  refine v_iload_n C 1 dL_nearest_1 rfl rfl ?_
  refine v_iload_n C 2 dL_nearest_2 rfl rfl ?_
  refine v_iload_n C 3 dL_nearest_3 rfl rfl ?_
  refine v_callVi C (ci := 5) (av := [.int a1, .int a2, .int a3]) (rest := []) rfl gL_nearest_X6_nearest rfl ⟨rfl, rfl⟩ hV_X6_nearest ⟨(Nat.le_of_ble_eq_true rfl), (Nat.le_of_ble_eq_true rfl)⟩ e_u (r_X6_nearest (A := A) e_z) rfl rfl (Nat.le_of_ble_eq_true rfl) dL_nearest_4 ?_
  refine v_istore C (lv' := [(4, .int z1), (0, .ref a0), (1, .int a1), (2, .int a2), (3, .int a3)]) dL_nearest_7 (by decide) rfl ?_
  refine v_goto C (tgt := 17) dL_nearest_9 (by decide) ?_
  refine v_iload C 0 dL_nearest_17 rfl ?_
  exact v_iret C dL_nearest_19
theorem clL_nearest_18 : Cond.classLink RL 18 eA ∈ wsL_nearest := by decide +kernel
theorem cL_nearest_20 : Cond.constant RL 20 (-5000001) ∈ wsL_nearest := by decide +kernel
set_option maxRecDepth 100000 in
set_option maxHeartbeats 4000000 in
theorem r_L_nearest {l : Launch} (hst : l.stackTraces = false) {G : GG} {A : Nat → Prop} {n : Nat} {w : Wd} {a0 : Nat} {a1 : Int32} {a2 : Int32} {a3 : Int32} {z : Int32 × Wd} (h : m_L_nearest n w a0 a1 a2 a3 = some z) : WCon l yL_nearest wsL_nearest { frames := 8, cells := 1, slots := 6, locals := 127 } G A [.ref a0, .int a1, .int a2, .int a3] w (some (.int z.1)) z.2 := by
  refine WCon.of (own := RL) (cc := cL_nearest) (maxL := 6) (ret := (some .int)) (hh := [(0, 9, 12, 18)]) rfl (by decide) rfl (Nat.le_of_ble_eq_true rfl) ?_
  intro p e s m args below meth c C hT
  show VQ p l e _ s m args below meth c G A 6 0 0 _ 0 [(0, .ref a0), (1, .int a1), (2, .int a2), (3, .int a3)] [] w
  unfold m_L_nearest at h
  obtain ⟨u, e_u, h⟩ := bnd h
  obtain ⟨k, e_k, h⟩ := bnd h
  refine v_aload_n C 0 dL_nearest_0 rfl rfl ?_
  refine v_iload_n C 1 dL_nearest_1 rfl rfl ?_
  refine v_iload_n C 2 dL_nearest_2 rfl rfl ?_
  refine v_iload_n C 3 dL_nearest_3 rfl rfl ?_
  by_cases q0 : k = 0
  · have h := ite_t q0 h
    obtain ⟨z1, e_z, h⟩ := bnd h
    refine v_callVi C (ci := 5) (av := [.int a1, .int a2, .int a3]) (rest := []) rfl gL_nearest_X6_nearest rfl ⟨rfl, rfl⟩ hV_X6_nearest ⟨(Nat.le_of_ble_eq_true rfl), (Nat.le_of_ble_eq_true rfl)⟩ e_u (r_X6_nearest (A := A) e_z) rfl rfl (Nat.le_of_ble_eq_true rfl) dL_nearest_4 ?_
    refine v_istore C (lv' := [(4, .int z1), (0, .ref a0), (1, .int a1), (2, .int a2), (3, .int a3)]) dL_nearest_7 (by decide) rfl ?_
    refine v_goto C (tgt := 17) dL_nearest_9 (by decide) ?_
    refine v_iload C 0 dL_nearest_17 rfl ?_
    obtain rfl := Option.some.inj h
    refine v_widen (k1 := 1) (s1 := 6) (by decide) (by decide) ?_
    exact v_iretW C dL_nearest_19
  have h := ite_f q0 h
  by_cases q2 : k = 2
  · have h := ite_t q2 h
    refine xw_callV C [] ⟨0, 9, 12, 18⟩ [] (by rw [hT]; rfl) (fun _ h => absurd h List.not_mem_nil) (by decide) (by decide) clL_nearest_18 C.xe.2.1.2.1 (ci := 5) (av := [.int a1, .int a2, .int a3]) (rest := []) rfl gL_nearest_X6_nearest rfl ⟨rfl, rfl⟩ hV_X6_nearest ⟨(Nat.le_of_ble_eq_true rfl), (Nat.le_of_ble_eq_true rfl)⟩ ⟨(Nat.le_of_ble_eq_true rfl), (Nat.le_of_ble_eq_true rfl)⟩ e_u (x_X6_nearest hst (Or.inr (Or.inl ⟨q2, rfl⟩)) e_k) rfl rfl (Nat.le_of_ble_eq_true rfl) dL_nearest_4 (fun q9 => ?_)
    refine v_astore C (lv' := [(5, .ref q9), (0, .ref a0), (1, .int a1), (2, .int a2), (3, .int a3)]) dL_nearest_12 (by decide) rfl ?_
    refine v_ldc C dL_nearest_14 cL_nearest_20 ?_
    obtain rfl := Option.some.inj h
    exact v_iretW C dL_nearest_16
  have h := ite_f q2 h
  cases h
set_option maxRecDepth 100000 in
set_option maxHeartbeats 4000000 in
theorem r_LX_next {l : Launch} {G : GG} {A : Nat → Prop} {n : Nat} {w : Wd} {a0 : Nat} {a1 : Int32} {z1 : Int32 × Wd} (h : m_LX_next n w a0 a1 = some z1) : Con l yL_next wsL_next { frames := 8, cells := 0, slots := 0, locals := 124 } G A [.ref a0, .int a1] w (some (.int z1.1)) z1.2 := by
  refine Con.ofH (own := RL) (cc := cL_next) (maxL := 4) (ret := (some .int)) (hh := [(0, 6, 9, 15)]) rfl (by decide) rfl (Nat.le_of_ble_eq_true rfl) ?_
  intro p e s m args below meth c C
  show V p l e _ s m args below meth c G A 4 0 [(0, .ref a0), (1, .int a1)] [] w _ _
  unfold m_LX_next at h
  obtain ⟨u, e_u, e_z⟩ := bnd h
  refine v_aload_n C 0 dL_next_0 rfl rfl ?_
  refine v_iload_n C 1 dL_next_1 rfl rfl ?_
  refine v_callVi C (ci := 5) (av := [.int a1]) (rest := []) rfl gL_next_X6_next rfl ⟨rfl, rfl⟩ hV_X6_next ⟨(Nat.le_of_ble_eq_true rfl), (Nat.le_of_ble_eq_true rfl)⟩ e_u (r_X6_next (A := A) e_z) rfl rfl (Nat.le_of_ble_eq_true rfl) dL_next_2 ?_
  refine v_istore_n C (lv' := [(2, .int z1.1), (0, .ref a0), (1, .int a1)]) dL_next_5 rfl (by decide) rfl ?_
  refine v_goto C (tgt := 13) dL_next_6 (by decide) ?_
  refine v_iload_n C 0 dL_next_13 rfl rfl ?_
  exact v_iret C dL_next_14
theorem clL_next_15 : Cond.classLink RL 15 eI ∈ wsL_next := by decide +kernel
theorem cL_next_17 : Cond.constant RL 17 (-5000003) ∈ wsL_next := by decide +kernel
set_option maxRecDepth 100000 in
set_option maxHeartbeats 4000000 in
theorem r_L_next {l : Launch} (hst : l.stackTraces = false) {G : GG} {A : Nat → Prop} {n : Nat} {w : Wd} {a0 : Nat} {a1 : Int32} {z : Int32 × Wd} (h : m_L_next n w a0 a1 = some z) : WCon l yL_next wsL_next { frames := 8, cells := 1, slots := 6, locals := 124 } G A [.ref a0, .int a1] w (some (.int z.1)) z.2 := by
  refine WCon.of (own := RL) (cc := cL_next) (maxL := 4) (ret := (some .int)) (hh := [(0, 6, 9, 15)]) rfl (by decide) rfl (Nat.le_of_ble_eq_true rfl) ?_
  intro p e s m args below meth c C hT
  show VQ p l e _ s m args below meth c G A 4 0 0 _ 0 [(0, .ref a0), (1, .int a1)] [] w
  unfold m_L_next at h
  obtain ⟨u, e_u, h⟩ := bnd h
  obtain ⟨k, e_k, h⟩ := bnd h
  refine v_aload_n C 0 dL_next_0 rfl rfl ?_
  refine v_iload_n C 1 dL_next_1 rfl rfl ?_
  by_cases q0 : k = 0
  · have h := ite_t q0 h
    obtain ⟨z1, e_z, h⟩ := bnd h
    refine v_callVi C (ci := 5) (av := [.int a1]) (rest := []) rfl gL_next_X6_next rfl ⟨rfl, rfl⟩ hV_X6_next ⟨(Nat.le_of_ble_eq_true rfl), (Nat.le_of_ble_eq_true rfl)⟩ e_u (r_X6_next (A := A) e_z) rfl rfl (Nat.le_of_ble_eq_true rfl) dL_next_2 ?_
    refine v_istore_n C (lv' := [(2, .int z1.1), (0, .ref a0), (1, .int a1)]) dL_next_5 rfl (by decide) rfl ?_
    refine v_goto C (tgt := 13) dL_next_6 (by decide) ?_
    refine v_iload_n C 0 dL_next_13 rfl rfl ?_
    obtain rfl := Option.some.inj h
    refine v_widen (k1 := 1) (s1 := 6) (by decide) (by decide) ?_
    exact v_iretW C dL_next_14
  have h := ite_f q0 h
  by_cases q1 : k = 1
  · have h := ite_t q1 h
    refine xw_callV C [] ⟨0, 6, 9, 15⟩ [] (by rw [hT]; rfl) (fun _ h => absurd h List.not_mem_nil) (by decide) (by decide) clL_next_15 C.xe.2.1.1 (ci := 5) (av := [.int a1]) (rest := []) rfl gL_next_X6_next rfl ⟨rfl, rfl⟩ hV_X6_next ⟨(Nat.le_of_ble_eq_true rfl), (Nat.le_of_ble_eq_true rfl)⟩ ⟨(Nat.le_of_ble_eq_true rfl), (Nat.le_of_ble_eq_true rfl)⟩ e_u (x_X6_next hst (Or.inl ⟨q1, rfl⟩) e_k) rfl rfl (Nat.le_of_ble_eq_true rfl) dL_next_2 (fun q9 => ?_)
    refine v_astore_n C (lv' := [(3, .ref q9), (0, .ref a0), (1, .int a1)]) dL_next_9 rfl (by decide) rfl ?_
    refine v_ldc C dL_next_10 cL_next_17 ?_
    obtain rfl := Option.some.inj h
    exact v_iretW C dL_next_12
  have h := ite_f q1 h
  cases h
set_option maxRecDepth 100000 in
set_option maxHeartbeats 4000000 in
theorem r_LX_node {l : Launch} {G : GG} {A : Nat → Prop} {n : Nat} {w : Wd} {a0 : Nat} {a1 : Int32} {a2 : Int32} {a3 : Int32} {z1 : Int32} (h : m_LX_node n w a0 a1 a2 a3 = some z1) : Con l yL_node wsL_node { frames := 8, cells := 0, slots := 0, locals := 127 } G A [.ref a0, .int a1, .int a2, .int a3] w (some (.int z1)) w := by
  refine Con.ofH (own := RL) (cc := cL_node) (maxL := 6) (ret := (some .int)) (hh := [(0, 9, 12, 15), (0, 9, 17, 18)]) rfl (by decide) rfl (Nat.le_of_ble_eq_true rfl) ?_
  intro p e s m args below meth c C
  show V p l e _ s m args below meth c G A 6 0 [(0, .ref a0), (1, .int a1), (2, .int a2), (3, .int a3)] [] w _ _
  unfold m_LX_node at h
  obtain ⟨u, e_u, e_z⟩ := bnd h
  refine v_aload_n C 0 dL_node_0 rfl rfl ?_
  refine v_iload_n C 1 dL_node_1 rfl rfl ?_
  refine v_iload_n C 2 dL_node_2 rfl rfl ?_
  refine v_iload_n C 3 dL_node_3 rfl rfl ?_
  refine v_callVi C (ci := 5) (av := [.int a1, .int a2, .int a3]) (rest := []) rfl gL_node_X6_node rfl ⟨rfl, rfl⟩ hV_X6_node ⟨(Nat.le_of_ble_eq_true rfl), (Nat.le_of_ble_eq_true rfl)⟩ e_u (r_X6_node (A := A) e_z) rfl rfl (Nat.le_of_ble_eq_true rfl) dL_node_4 ?_
  refine v_istore C (lv' := [(4, .int z1), (0, .ref a0), (1, .int a1), (2, .int a2), (3, .int a3)]) dL_node_7 (by decide) rfl ?_
  refine v_goto C (tgt := 22) dL_node_9 (by decide) ?_
  refine v_iload C 0 dL_node_22 rfl ?_
  exact v_iret C dL_node_24
theorem clL_node_15 : Cond.classLink RL 15 eI ∈ wsL_node := by decide +kernel
theorem clL_node_18 : Cond.classLink RL 18 eA ∈ wsL_node := by decide +kernel
theorem cL_node_17 : Cond.constant RL 17 (-5000003) ∈ wsL_node := by decide +kernel
theorem cL_node_20 : Cond.constant RL 20 (-5000001) ∈ wsL_node := by decide +kernel
set_option maxRecDepth 100000 in
set_option maxHeartbeats 4000000 in
theorem r_L_node {l : Launch} (hst : l.stackTraces = false) {G : GG} {A : Nat → Prop} {n : Nat} {w : Wd} {a0 : Nat} {a1 : Int32} {a2 : Int32} {a3 : Int32} {z : Int32 × Wd} (h : m_L_node n w a0 a1 a2 a3 = some z) : WCon l yL_node wsL_node { frames := 8, cells := 1, slots := 6, locals := 127 } G A [.ref a0, .int a1, .int a2, .int a3] w (some (.int z.1)) z.2 := by
  refine WCon.of (own := RL) (cc := cL_node) (maxL := 6) (ret := (some .int)) (hh := [(0, 9, 12, 15), (0, 9, 17, 18)]) rfl (by decide) rfl (Nat.le_of_ble_eq_true rfl) ?_
  intro p e s m args below meth c C hT
  show VQ p l e _ s m args below meth c G A 6 0 0 _ 0 [(0, .ref a0), (1, .int a1), (2, .int a2), (3, .int a3)] [] w
  unfold m_L_node at h
  obtain ⟨u, e_u, h⟩ := bnd h
  obtain ⟨k, e_k, h⟩ := bnd h
  refine v_aload_n C 0 dL_node_0 rfl rfl ?_
  refine v_iload_n C 1 dL_node_1 rfl rfl ?_
  refine v_iload_n C 2 dL_node_2 rfl rfl ?_
  refine v_iload_n C 3 dL_node_3 rfl rfl ?_
  by_cases q0 : k = 0
  · have h := ite_t q0 h
    obtain ⟨z1, e_z, h⟩ := bnd h
    refine v_callVi C (ci := 5) (av := [.int a1, .int a2, .int a3]) (rest := []) rfl gL_node_X6_node rfl ⟨rfl, rfl⟩ hV_X6_node ⟨(Nat.le_of_ble_eq_true rfl), (Nat.le_of_ble_eq_true rfl)⟩ e_u (r_X6_node (A := A) e_z) rfl rfl (Nat.le_of_ble_eq_true rfl) dL_node_4 ?_
    refine v_istore C (lv' := [(4, .int z1), (0, .ref a0), (1, .int a1), (2, .int a2), (3, .int a3)]) dL_node_7 (by decide) rfl ?_
    refine v_goto C (tgt := 22) dL_node_9 (by decide) ?_
    refine v_iload C 0 dL_node_22 rfl ?_
    obtain rfl := Option.some.inj h
    refine v_widen (k1 := 1) (s1 := 6) (by decide) (by decide) ?_
    exact v_iretW C dL_node_24
  have h := ite_f q0 h
  by_cases q1 : k = 1
  · have h := ite_t q1 h
    refine xw_callV C [] ⟨0, 9, 12, 15⟩ [⟨0, 9, 17, 18⟩] (by rw [hT]; rfl) (fun _ h => absurd h List.not_mem_nil) (by decide) (by decide) clL_node_15 C.xe.2.1.1 (ci := 5) (av := [.int a1, .int a2, .int a3]) (rest := []) rfl gL_node_X6_node rfl ⟨rfl, rfl⟩ hV_X6_node ⟨(Nat.le_of_ble_eq_true rfl), (Nat.le_of_ble_eq_true rfl)⟩ ⟨(Nat.le_of_ble_eq_true rfl), (Nat.le_of_ble_eq_true rfl)⟩ e_u (x_X6_node hst (Or.inl ⟨q1, rfl⟩) e_k) rfl rfl (Nat.le_of_ble_eq_true rfl) dL_node_4 (fun q9 => ?_)
    refine v_astore C (lv' := [(5, .ref q9), (0, .ref a0), (1, .int a1), (2, .int a2), (3, .int a3)]) dL_node_12 (by decide) rfl ?_
    refine v_ldc C dL_node_14 cL_node_17 ?_
    obtain rfl := Option.some.inj h
    exact v_iretW C dL_node_16
  have h := ite_f q1 h
  by_cases q2 : k = 2
  · have h := ite_t q2 h
    refine xw_callV C [⟨0, 9, 12, 15⟩] ⟨0, 9, 17, 18⟩ [] (by rw [hT]; rfl) (List.forall_mem_cons.mpr ⟨Or.inr ⟨by decide, eI, C.2.2.2.2.1 _ clL_node_15, C.xe.2.2.1⟩, (fun _ h => absurd h List.not_mem_nil)⟩) (by decide) (by decide) clL_node_18 C.xe.2.1.2.1 (ci := 5) (av := [.int a1, .int a2, .int a3]) (rest := []) rfl gL_node_X6_node rfl ⟨rfl, rfl⟩ hV_X6_node ⟨(Nat.le_of_ble_eq_true rfl), (Nat.le_of_ble_eq_true rfl)⟩ ⟨(Nat.le_of_ble_eq_true rfl), (Nat.le_of_ble_eq_true rfl)⟩ e_u (x_X6_node hst (Or.inr (Or.inl ⟨q2, rfl⟩)) e_k) rfl rfl (Nat.le_of_ble_eq_true rfl) dL_node_4 (fun q9 => ?_)
    refine v_astore C (lv' := [(5, .ref q9), (0, .ref a0), (1, .int a1), (2, .int a2), (3, .int a3)]) dL_node_17 (by decide) rfl ?_
    refine v_ldc C dL_node_19 cL_node_20 ?_
    obtain rfl := Option.some.inj h
    exact v_iretW C dL_node_21
  have h := ite_f q2 h
  cases h
set_option maxRecDepth 100000 in
set_option maxHeartbeats 4000000 in
theorem r_LX_open {l : Launch} {G : GG} {A : Nat → Prop} {n : Nat} {w : Wd} {a0 : Nat} {a1 : Int32} {a2 : Int32} {a3 : Int32} {z1 : Int32 × Wd} (h : m_LX_open n w a0 a1 a2 a3 = some z1) : Con l yL_open wsL_open { frames := 8, cells := 0, slots := 0, locals := 125 } G A [.ref a0, .int a1, .int a2, .int a3] w (some (.int z1.1)) z1.2 := by
  refine Con.ofH (own := RL) (cc := cL_open) (maxL := 6) (ret := (some .int)) (hh := [(0, 9, 12, 15), (0, 9, 17, 18)]) rfl (by decide) rfl (Nat.le_of_ble_eq_true rfl) ?_
  intro p e s m args below meth c C
  show V p l e _ s m args below meth c G A 6 0 [(0, .ref a0), (1, .int a1), (2, .int a2), (3, .int a3)] [] w _ _
  unfold m_LX_open at h
  obtain ⟨u, e_u, e_z⟩ := bnd h
  refine v_aload_n C 0 dL_open_0 rfl rfl ?_
  refine v_iload_n C 1 dL_open_1 rfl rfl ?_
  refine v_iload_n C 2 dL_open_2 rfl rfl ?_
  refine v_iload_n C 3 dL_open_3 rfl rfl ?_
  refine v_callVi C (ci := 5) (av := [.int a1, .int a2, .int a3]) (rest := []) rfl gL_open_X6_open rfl ⟨rfl, rfl⟩ hV_X6_open ⟨(Nat.le_of_ble_eq_true rfl), (Nat.le_of_ble_eq_true rfl)⟩ e_u (r_X6_open (A := A) e_z) rfl rfl (Nat.le_of_ble_eq_true rfl) dL_open_4 ?_
  refine v_istore C (lv' := [(4, .int z1.1), (0, .ref a0), (1, .int a1), (2, .int a2), (3, .int a3)]) dL_open_7 (by decide) rfl ?_
  refine v_goto C (tgt := 22) dL_open_9 (by decide) ?_
  refine v_iload C 0 dL_open_22 rfl ?_
  exact v_iret C dL_open_24
theorem clL_open_15 : Cond.classLink RL 15 eI ∈ wsL_open := by decide +kernel
theorem clL_open_18 : Cond.classLink RL 18 eA ∈ wsL_open := by decide +kernel
theorem cL_open_17 : Cond.constant RL 17 (-5000003) ∈ wsL_open := by decide +kernel
theorem cL_open_20 : Cond.constant RL 20 (-5000001) ∈ wsL_open := by decide +kernel
set_option maxRecDepth 100000 in
set_option maxHeartbeats 4000000 in
theorem r_L_open {l : Launch} (hst : l.stackTraces = false) {G : GG} {A : Nat → Prop} {n : Nat} {w : Wd} {a0 : Nat} {a1 : Int32} {a2 : Int32} {a3 : Int32} {z : Int32 × Wd} (h : m_L_open n w a0 a1 a2 a3 = some z) : WCon l yL_open wsL_open { frames := 8, cells := 1, slots := 6, locals := 125 } G A [.ref a0, .int a1, .int a2, .int a3] w (some (.int z.1)) z.2 := by
  refine WCon.of (own := RL) (cc := cL_open) (maxL := 6) (ret := (some .int)) (hh := [(0, 9, 12, 15), (0, 9, 17, 18)]) rfl (by decide) rfl (Nat.le_of_ble_eq_true rfl) ?_
  intro p e s m args below meth c C hT
  show VQ p l e _ s m args below meth c G A 6 0 0 _ 0 [(0, .ref a0), (1, .int a1), (2, .int a2), (3, .int a3)] [] w
  unfold m_L_open at h
  obtain ⟨u, e_u, h⟩ := bnd h
  obtain ⟨k, e_k, h⟩ := bnd h
  refine v_aload_n C 0 dL_open_0 rfl rfl ?_
  refine v_iload_n C 1 dL_open_1 rfl rfl ?_
  refine v_iload_n C 2 dL_open_2 rfl rfl ?_
  refine v_iload_n C 3 dL_open_3 rfl rfl ?_
  by_cases q0 : k = 0
  · have h := ite_t q0 h
    obtain ⟨z1, e_z, h⟩ := bnd h
    refine v_callVi C (ci := 5) (av := [.int a1, .int a2, .int a3]) (rest := []) rfl gL_open_X6_open rfl ⟨rfl, rfl⟩ hV_X6_open ⟨(Nat.le_of_ble_eq_true rfl), (Nat.le_of_ble_eq_true rfl)⟩ e_u (r_X6_open (A := A) e_z) rfl rfl (Nat.le_of_ble_eq_true rfl) dL_open_4 ?_
    refine v_istore C (lv' := [(4, .int z1.1), (0, .ref a0), (1, .int a1), (2, .int a2), (3, .int a3)]) dL_open_7 (by decide) rfl ?_
    refine v_goto C (tgt := 22) dL_open_9 (by decide) ?_
    refine v_iload C 0 dL_open_22 rfl ?_
    obtain rfl := Option.some.inj h
    refine v_widen (k1 := 1) (s1 := 6) (by decide) (by decide) ?_
    exact v_iretW C dL_open_24
  have h := ite_f q0 h
  by_cases q1 : k = 1
  · have h := ite_t q1 h
    refine xw_callV C [] ⟨0, 9, 12, 15⟩ [⟨0, 9, 17, 18⟩] (by rw [hT]; rfl) (fun _ h => absurd h List.not_mem_nil) (by decide) (by decide) clL_open_15 C.xe.2.1.1 (ci := 5) (av := [.int a1, .int a2, .int a3]) (rest := []) rfl gL_open_X6_open rfl ⟨rfl, rfl⟩ hV_X6_open ⟨(Nat.le_of_ble_eq_true rfl), (Nat.le_of_ble_eq_true rfl)⟩ ⟨(Nat.le_of_ble_eq_true rfl), (Nat.le_of_ble_eq_true rfl)⟩ e_u (x_X6_open hst (Or.inl ⟨q1, rfl⟩) e_k) rfl rfl (Nat.le_of_ble_eq_true rfl) dL_open_4 (fun q9 => ?_)
    refine v_astore C (lv' := [(5, .ref q9), (0, .ref a0), (1, .int a1), (2, .int a2), (3, .int a3)]) dL_open_12 (by decide) rfl ?_
    refine v_ldc C dL_open_14 cL_open_17 ?_
    obtain rfl := Option.some.inj h
    exact v_iretW C dL_open_16
  have h := ite_f q1 h
  by_cases q2 : k = 2
  · have h := ite_t q2 h
    refine xw_callV C [⟨0, 9, 12, 15⟩] ⟨0, 9, 17, 18⟩ [] (by rw [hT]; rfl) (List.forall_mem_cons.mpr ⟨Or.inr ⟨by decide, eI, C.2.2.2.2.1 _ clL_open_15, C.xe.2.2.1⟩, (fun _ h => absurd h List.not_mem_nil)⟩) (by decide) (by decide) clL_open_18 C.xe.2.1.2.1 (ci := 5) (av := [.int a1, .int a2, .int a3]) (rest := []) rfl gL_open_X6_open rfl ⟨rfl, rfl⟩ hV_X6_open ⟨(Nat.le_of_ble_eq_true rfl), (Nat.le_of_ble_eq_true rfl)⟩ ⟨(Nat.le_of_ble_eq_true rfl), (Nat.le_of_ble_eq_true rfl)⟩ e_u (x_X6_open hst (Or.inr (Or.inl ⟨q2, rfl⟩)) e_k) rfl rfl (Nat.le_of_ble_eq_true rfl) dL_open_4 (fun q9 => ?_)
    refine v_astore C (lv' := [(5, .ref q9), (0, .ref a0), (1, .int a1), (2, .int a2), (3, .int a3)]) dL_open_17 (by decide) rfl ?_
    refine v_ldc C dL_open_19 cL_open_20 ?_
    obtain rfl := Option.some.inj h
    exact v_iretW C dL_open_21
  have h := ite_f q2 h
  cases h
set_option maxRecDepth 100000 in
set_option maxHeartbeats 4000000 in
theorem r_LX_point {l : Launch} {G : GG} {A : Nat → Prop} {n : Nat} {w : Wd} {a0 : Nat} {a1 : Int32} {a2 : Int32} {z1 : Int32} (h : m_LX_point n w a0 a1 a2 = some z1) : Con l yL_point wsL_point { frames := 8, cells := 0, slots := 0, locals := 124 } G A [.ref a0, .int a1, .int a2] w (some (.int z1)) w := by
  refine Con.ofH (own := RL) (cc := cL_point) (maxL := 5) (ret := (some .int)) (hh := [(0, 7, 10, 15), (0, 7, 15, 18)]) rfl (by decide) rfl (Nat.le_of_ble_eq_true rfl) ?_
  intro p e s m args below meth c C
  show V p l e _ s m args below meth c G A 5 0 [(0, .ref a0), (1, .int a1), (2, .int a2)] [] w _ _
  unfold m_LX_point at h
  obtain ⟨u, e_u, e_z⟩ := bnd h
  refine v_aload_n C 0 dL_point_0 rfl rfl ?_
  refine v_iload_n C 1 dL_point_1 rfl rfl ?_
  refine v_iload_n C 2 dL_point_2 rfl rfl ?_
  refine v_callVi C (ci := 5) (av := [.int a1, .int a2]) (rest := []) rfl gL_point_X6_point rfl ⟨rfl, rfl⟩ hV_X6_point ⟨(Nat.le_of_ble_eq_true rfl), (Nat.le_of_ble_eq_true rfl)⟩ e_u (r_X6_point (A := A) e_z) rfl rfl (Nat.le_of_ble_eq_true rfl) dL_point_3 ?_
  refine v_istore_n C (lv' := [(3, .int z1), (0, .ref a0), (1, .int a1), (2, .int a2)]) dL_point_6 rfl (by decide) rfl ?_
  refine v_goto C (tgt := 20) dL_point_7 (by decide) ?_
  refine v_iload_n C 0 dL_point_20 rfl rfl ?_
  exact v_iret C dL_point_21
theorem clL_point_15 : Cond.classLink RL 15 eI ∈ wsL_point := by decide +kernel
theorem clL_point_18 : Cond.classLink RL 18 eA ∈ wsL_point := by decide +kernel
theorem cL_point_17 : Cond.constant RL 17 (-5000003) ∈ wsL_point := by decide +kernel
theorem cL_point_20 : Cond.constant RL 20 (-5000001) ∈ wsL_point := by decide +kernel
set_option maxRecDepth 100000 in
set_option maxHeartbeats 4000000 in
theorem r_L_point {l : Launch} (hst : l.stackTraces = false) {G : GG} {A : Nat → Prop} {n : Nat} {w : Wd} {a0 : Nat} {a1 : Int32} {a2 : Int32} {z : Int32 × Wd} (h : m_L_point n w a0 a1 a2 = some z) : WCon l yL_point wsL_point { frames := 8, cells := 1, slots := 6, locals := 124 } G A [.ref a0, .int a1, .int a2] w (some (.int z.1)) z.2 := by
  refine WCon.of (own := RL) (cc := cL_point) (maxL := 5) (ret := (some .int)) (hh := [(0, 7, 10, 15), (0, 7, 15, 18)]) rfl (by decide) rfl (Nat.le_of_ble_eq_true rfl) ?_
  intro p e s m args below meth c C hT
  show VQ p l e _ s m args below meth c G A 5 0 0 _ 0 [(0, .ref a0), (1, .int a1), (2, .int a2)] [] w
  unfold m_L_point at h
  obtain ⟨u, e_u, h⟩ := bnd h
  obtain ⟨k, e_k, h⟩ := bnd h
  refine v_aload_n C 0 dL_point_0 rfl rfl ?_
  refine v_iload_n C 1 dL_point_1 rfl rfl ?_
  refine v_iload_n C 2 dL_point_2 rfl rfl ?_
  by_cases q0 : k = 0
  · have h := ite_t q0 h
    obtain ⟨z1, e_z, h⟩ := bnd h
    refine v_callVi C (ci := 5) (av := [.int a1, .int a2]) (rest := []) rfl gL_point_X6_point rfl ⟨rfl, rfl⟩ hV_X6_point ⟨(Nat.le_of_ble_eq_true rfl), (Nat.le_of_ble_eq_true rfl)⟩ e_u (r_X6_point (A := A) e_z) rfl rfl (Nat.le_of_ble_eq_true rfl) dL_point_3 ?_
    refine v_istore_n C (lv' := [(3, .int z1), (0, .ref a0), (1, .int a1), (2, .int a2)]) dL_point_6 rfl (by decide) rfl ?_
    refine v_goto C (tgt := 20) dL_point_7 (by decide) ?_
    refine v_iload_n C 0 dL_point_20 rfl rfl ?_
    obtain rfl := Option.some.inj h
    refine v_widen (k1 := 1) (s1 := 6) (by decide) (by decide) ?_
    exact v_iretW C dL_point_21
  have h := ite_f q0 h
  by_cases q1 : k = 1
  · have h := ite_t q1 h
    refine xw_callV C [] ⟨0, 7, 10, 15⟩ [⟨0, 7, 15, 18⟩] (by rw [hT]; rfl) (fun _ h => absurd h List.not_mem_nil) (by decide) (by decide) clL_point_15 C.xe.2.1.1 (ci := 5) (av := [.int a1, .int a2]) (rest := []) rfl gL_point_X6_point rfl ⟨rfl, rfl⟩ hV_X6_point ⟨(Nat.le_of_ble_eq_true rfl), (Nat.le_of_ble_eq_true rfl)⟩ ⟨(Nat.le_of_ble_eq_true rfl), (Nat.le_of_ble_eq_true rfl)⟩ e_u (x_X6_point hst (Or.inl ⟨q1, rfl⟩) e_k) rfl rfl (Nat.le_of_ble_eq_true rfl) dL_point_3 (fun q9 => ?_)
    refine v_astore C (lv' := [(4, .ref q9), (0, .ref a0), (1, .int a1), (2, .int a2)]) dL_point_10 (by decide) rfl ?_
    refine v_ldc C dL_point_12 cL_point_17 ?_
    obtain rfl := Option.some.inj h
    exact v_iretW C dL_point_14
  have h := ite_f q1 h
  by_cases q2 : k = 2
  · have h := ite_t q2 h
    refine xw_callV C [⟨0, 7, 10, 15⟩] ⟨0, 7, 15, 18⟩ [] (by rw [hT]; rfl) (List.forall_mem_cons.mpr ⟨Or.inr ⟨by decide, eI, C.2.2.2.2.1 _ clL_point_15, C.xe.2.2.1⟩, (fun _ h => absurd h List.not_mem_nil)⟩) (by decide) (by decide) clL_point_18 C.xe.2.1.2.1 (ci := 5) (av := [.int a1, .int a2]) (rest := []) rfl gL_point_X6_point rfl ⟨rfl, rfl⟩ hV_X6_point ⟨(Nat.le_of_ble_eq_true rfl), (Nat.le_of_ble_eq_true rfl)⟩ ⟨(Nat.le_of_ble_eq_true rfl), (Nat.le_of_ble_eq_true rfl)⟩ e_u (x_X6_point hst (Or.inr (Or.inl ⟨q2, rfl⟩)) e_k) rfl rfl (Nat.le_of_ble_eq_true rfl) dL_point_3 (fun q9 => ?_)
    refine v_astore C (lv' := [(4, .ref q9), (0, .ref a0), (1, .int a1), (2, .int a2)]) dL_point_15 (by decide) rfl ?_
    refine v_ldc C dL_point_17 cL_point_20 ?_
    obtain rfl := Option.some.inj h
    exact v_iretW C dL_point_19
  have h := ite_f q2 h
  cases h
set_option maxRecDepth 100000 in
set_option maxHeartbeats 4000000 in
theorem r_LX_remove {l : Launch} {G : GG} {A : Nat → Prop} {n : Nat} {w : Wd} {a0 : Nat} {a1 : Int32} {z1 : Int32 × Wd} (h : m_LX_remove n w a0 a1 = some z1) : Con l yL_remove wsL_remove { frames := 8, cells := 0, slots := 0, locals := 136 } G A [.ref a0, .int a1] w (some (.int z1.1)) z1.2 := by
  refine Con.ofH (own := RL) (cc := cL_remove) (maxL := 4) (ret := (some .int)) (hh := [(0, 6, 9, 15), (0, 6, 13, 21)]) rfl (by decide) rfl (Nat.le_of_ble_eq_true rfl) ?_
  intro p e s m args below meth c C
  show V p l e _ s m args below meth c G A 4 0 [(0, .ref a0), (1, .int a1)] [] w _ _
  unfold m_LX_remove at h
  obtain ⟨u, e_u, e_z⟩ := bnd h
  refine v_aload_n C 0 dL_remove_0 rfl rfl ?_
  refine v_iload_n C 1 dL_remove_1 rfl rfl ?_
  refine v_callVi C (ci := 5) (av := [.int a1]) (rest := []) rfl gL_remove_X6_remove rfl ⟨rfl, rfl⟩ hV_X6_remove ⟨(Nat.le_of_ble_eq_true rfl), (Nat.le_of_ble_eq_true rfl)⟩ e_u (r_X6_remove (A := A) e_z) rfl rfl (Nat.le_of_ble_eq_true rfl) dL_remove_2 ?_
  refine v_istore_n C (lv' := [(2, .int z1.1), (0, .ref a0), (1, .int a1)]) dL_remove_5 rfl (by decide) rfl ?_
  refine v_goto C (tgt := 17) dL_remove_6 (by decide) ?_
  refine v_iload_n C 0 dL_remove_17 rfl rfl ?_
  exact v_iret C dL_remove_18
theorem clL_remove_15 : Cond.classLink RL 15 eI ∈ wsL_remove := by decide +kernel
theorem clL_remove_21 : Cond.classLink RL 21 eS ∈ wsL_remove := by decide +kernel
theorem cL_remove_17 : Cond.constant RL 17 (-5000003) ∈ wsL_remove := by decide +kernel
theorem cL_remove_23 : Cond.constant RL 23 (-5000002) ∈ wsL_remove := by decide +kernel
set_option maxRecDepth 100000 in
set_option maxHeartbeats 4000000 in
theorem r_L_remove {l : Launch} (hst : l.stackTraces = false) {G : GG} {A : Nat → Prop} {n : Nat} {w : Wd} {a0 : Nat} {a1 : Int32} {z : Int32 × Wd} (h : m_L_remove n w a0 a1 = some z) : WCon l yL_remove wsL_remove { frames := 8, cells := 1, slots := 6, locals := 136 } G A [.ref a0, .int a1] w (some (.int z.1)) z.2 := by
  refine WCon.of (own := RL) (cc := cL_remove) (maxL := 4) (ret := (some .int)) (hh := [(0, 6, 9, 15), (0, 6, 13, 21)]) rfl (by decide) rfl (Nat.le_of_ble_eq_true rfl) ?_
  intro p e s m args below meth c C hT
  show VQ p l e _ s m args below meth c G A 4 0 0 _ 0 [(0, .ref a0), (1, .int a1)] [] w
  unfold m_L_remove at h
  obtain ⟨u, e_u, h⟩ := bnd h
  obtain ⟨k, e_k, h⟩ := bnd h
  refine v_aload_n C 0 dL_remove_0 rfl rfl ?_
  refine v_iload_n C 1 dL_remove_1 rfl rfl ?_
  by_cases q0 : k = 0
  · have h := ite_t q0 h
    obtain ⟨z1, e_z, h⟩ := bnd h
    refine v_callVi C (ci := 5) (av := [.int a1]) (rest := []) rfl gL_remove_X6_remove rfl ⟨rfl, rfl⟩ hV_X6_remove ⟨(Nat.le_of_ble_eq_true rfl), (Nat.le_of_ble_eq_true rfl)⟩ e_u (r_X6_remove (A := A) e_z) rfl rfl (Nat.le_of_ble_eq_true rfl) dL_remove_2 ?_
    refine v_istore_n C (lv' := [(2, .int z1.1), (0, .ref a0), (1, .int a1)]) dL_remove_5 rfl (by decide) rfl ?_
    refine v_goto C (tgt := 17) dL_remove_6 (by decide) ?_
    refine v_iload_n C 0 dL_remove_17 rfl rfl ?_
    obtain rfl := Option.some.inj h
    refine v_widen (k1 := 1) (s1 := 6) (by decide) (by decide) ?_
    exact v_iretW C dL_remove_18
  have h := ite_f q0 h
  by_cases q1 : k = 1
  · have h := ite_t q1 h
    refine xw_callV C [] ⟨0, 6, 9, 15⟩ [⟨0, 6, 13, 21⟩] (by rw [hT]; rfl) (fun _ h => absurd h List.not_mem_nil) (by decide) (by decide) clL_remove_15 C.xe.2.1.1 (ci := 5) (av := [.int a1]) (rest := []) rfl gL_remove_X6_remove rfl ⟨rfl, rfl⟩ hV_X6_remove ⟨(Nat.le_of_ble_eq_true rfl), (Nat.le_of_ble_eq_true rfl)⟩ ⟨(Nat.le_of_ble_eq_true rfl), (Nat.le_of_ble_eq_true rfl)⟩ e_u (x_X6_remove hst (Or.inl ⟨q1, rfl⟩) e_k) rfl rfl (Nat.le_of_ble_eq_true rfl) dL_remove_2 (fun q9 => ?_)
    refine v_astore_n C (lv' := [(3, .ref q9), (0, .ref a0), (1, .int a1)]) dL_remove_9 rfl (by decide) rfl ?_
    refine v_ldc C dL_remove_10 cL_remove_17 ?_
    obtain rfl := Option.some.inj h
    exact v_iretW C dL_remove_12
  have h := ite_f q1 h
  by_cases q3 : k = 3
  · have h := ite_t q3 h
    refine xw_callV C [⟨0, 6, 9, 15⟩] ⟨0, 6, 13, 21⟩ [] (by rw [hT]; rfl) (List.forall_mem_cons.mpr ⟨Or.inr ⟨by decide, eI, C.2.2.2.2.1 _ clL_remove_15, C.xe.2.2.2.1⟩, (fun _ h => absurd h List.not_mem_nil)⟩) (by decide) (by decide) clL_remove_21 C.xe.2.1.2.2 (ci := 5) (av := [.int a1]) (rest := []) rfl gL_remove_X6_remove rfl ⟨rfl, rfl⟩ hV_X6_remove ⟨(Nat.le_of_ble_eq_true rfl), (Nat.le_of_ble_eq_true rfl)⟩ ⟨(Nat.le_of_ble_eq_true rfl), (Nat.le_of_ble_eq_true rfl)⟩ e_u (x_X6_remove hst (Or.inr (Or.inr ⟨q3, rfl⟩)) e_k) rfl rfl (Nat.le_of_ble_eq_true rfl) dL_remove_2 (fun q9 => ?_)
    refine v_astore_n C (lv' := [(3, .ref q9), (0, .ref a0), (1, .int a1)]) dL_remove_13 rfl (by decide) rfl ?_
    refine v_ldc C dL_remove_14 cL_remove_23 ?_
    obtain rfl := Option.some.inj h
    exact v_iretW C dL_remove_16
  have h := ite_f q3 h
  cases h
set_option maxRecDepth 100000 in
set_option maxHeartbeats 4000000 in
theorem r_LX_scatter {l : Launch} {G : GG} {A : Nat → Prop} {n : Nat} {w : Wd} {a0 : Nat} {a1 : Int32} {a2 : Int32} {a3 : Int32} {a4 : Int32} {z1 : Int32 × Wd} (h : m_LX_scatter n w a0 a1 a2 a3 a4 = some z1) : Con l yL_scatter wsL_scatter { frames := 8, cells := 0, slots := 0, locals := 130 } G A [.ref a0, .int a1, .int a2, .int a3, .int a4] w (some (.int z1.1)) z1.2 := by
  refine Con.ofH (own := RL) (cc := cL_scatter) (maxL := 7) (ret := (some .int)) (hh := [(0, 11, 14, 15), (0, 11, 19, 18)]) rfl (by decide) rfl (Nat.le_of_ble_eq_true rfl) ?_
  intro p e s m args below meth c C
  show V p l e _ s m args below meth c G A 7 0 [(0, .ref a0), (1, .int a1), (2, .int a2), (3, .int a3), (4, .int a4)] [] w _ _
  unfold m_LX_scatter at h
  obtain ⟨u, e_u, e_z⟩ := bnd h
  refine v_aload_n C 0 dL_scatter_0 rfl rfl ?_
  refine v_iload_n C 1 dL_scatter_1 rfl rfl ?_
  refine v_iload_n C 2 dL_scatter_2 rfl rfl ?_
  refine v_iload_n C 3 dL_scatter_3 rfl rfl ?_
  refine v_iload C 4 dL_scatter_4 rfl ?_
  refine v_callVi C (ci := 5) (av := [.int a1, .int a2, .int a3, .int a4]) (rest := []) rfl gL_scatter_X6_scatter rfl ⟨rfl, rfl⟩ hV_X6_scatter ⟨(Nat.le_of_ble_eq_true rfl), (Nat.le_of_ble_eq_true rfl)⟩ e_u (r_X6_scatter (A := A) e_z) rfl rfl (Nat.le_of_ble_eq_true rfl) dL_scatter_6 ?_
  refine v_istore C (lv' := [(5, .int z1.1), (0, .ref a0), (1, .int a1), (2, .int a2), (3, .int a3), (4, .int a4)]) dL_scatter_9 (by decide) rfl ?_
  refine v_goto C (tgt := 24) dL_scatter_11 (by decide) ?_
  refine v_iload C 0 dL_scatter_24 rfl ?_
  exact v_iret C dL_scatter_26
theorem clL_scatter_15 : Cond.classLink RL 15 eI ∈ wsL_scatter := by decide +kernel
theorem clL_scatter_18 : Cond.classLink RL 18 eA ∈ wsL_scatter := by decide +kernel
theorem cL_scatter_17 : Cond.constant RL 17 (-5000003) ∈ wsL_scatter := by decide +kernel
theorem cL_scatter_20 : Cond.constant RL 20 (-5000001) ∈ wsL_scatter := by decide +kernel
set_option maxRecDepth 100000 in
set_option maxHeartbeats 4000000 in
theorem r_L_scatter {l : Launch} (hst : l.stackTraces = false) {G : GG} {A : Nat → Prop} {n : Nat} {w : Wd} {a0 : Nat} {a1 : Int32} {a2 : Int32} {a3 : Int32} {a4 : Int32} {z : Int32 × Wd} (h : m_L_scatter n w a0 a1 a2 a3 a4 = some z) : WCon l yL_scatter wsL_scatter { frames := 8, cells := 1, slots := 6, locals := 130 } G A [.ref a0, .int a1, .int a2, .int a3, .int a4] w (some (.int z.1)) z.2 := by
  refine WCon.of (own := RL) (cc := cL_scatter) (maxL := 7) (ret := (some .int)) (hh := [(0, 11, 14, 15), (0, 11, 19, 18)]) rfl (by decide) rfl (Nat.le_of_ble_eq_true rfl) ?_
  intro p e s m args below meth c C hT
  show VQ p l e _ s m args below meth c G A 7 0 0 _ 0 [(0, .ref a0), (1, .int a1), (2, .int a2), (3, .int a3), (4, .int a4)] [] w
  unfold m_L_scatter at h
  obtain ⟨u, e_u, h⟩ := bnd h
  obtain ⟨k, e_k, h⟩ := bnd h
  refine v_aload_n C 0 dL_scatter_0 rfl rfl ?_
  refine v_iload_n C 1 dL_scatter_1 rfl rfl ?_
  refine v_iload_n C 2 dL_scatter_2 rfl rfl ?_
  refine v_iload_n C 3 dL_scatter_3 rfl rfl ?_
  refine v_iload C 4 dL_scatter_4 rfl ?_
  by_cases q0 : k = 0
  · have h := ite_t q0 h
    obtain ⟨z1, e_z, h⟩ := bnd h
    refine v_callVi C (ci := 5) (av := [.int a1, .int a2, .int a3, .int a4]) (rest := []) rfl gL_scatter_X6_scatter rfl ⟨rfl, rfl⟩ hV_X6_scatter ⟨(Nat.le_of_ble_eq_true rfl), (Nat.le_of_ble_eq_true rfl)⟩ e_u (r_X6_scatter (A := A) e_z) rfl rfl (Nat.le_of_ble_eq_true rfl) dL_scatter_6 ?_
    refine v_istore C (lv' := [(5, .int z1.1), (0, .ref a0), (1, .int a1), (2, .int a2), (3, .int a3), (4, .int a4)]) dL_scatter_9 (by decide) rfl ?_
    refine v_goto C (tgt := 24) dL_scatter_11 (by decide) ?_
    refine v_iload C 0 dL_scatter_24 rfl ?_
    obtain rfl := Option.some.inj h
    refine v_widen (k1 := 1) (s1 := 6) (by decide) (by decide) ?_
    exact v_iretW C dL_scatter_26
  have h := ite_f q0 h
  by_cases q1 : k = 1
  · have h := ite_t q1 h
    refine xw_callV C [] ⟨0, 11, 14, 15⟩ [⟨0, 11, 19, 18⟩] (by rw [hT]; rfl) (fun _ h => absurd h List.not_mem_nil) (by decide) (by decide) clL_scatter_15 C.xe.2.1.1 (ci := 5) (av := [.int a1, .int a2, .int a3, .int a4]) (rest := []) rfl gL_scatter_X6_scatter rfl ⟨rfl, rfl⟩ hV_X6_scatter ⟨(Nat.le_of_ble_eq_true rfl), (Nat.le_of_ble_eq_true rfl)⟩ ⟨(Nat.le_of_ble_eq_true rfl), (Nat.le_of_ble_eq_true rfl)⟩ e_u (x_X6_scatter hst (Or.inl ⟨q1, rfl⟩) e_k) rfl rfl (Nat.le_of_ble_eq_true rfl) dL_scatter_6 (fun q9 => ?_)
    refine v_astore C (lv' := [(6, .ref q9), (0, .ref a0), (1, .int a1), (2, .int a2), (3, .int a3), (4, .int a4)]) dL_scatter_14 (by decide) rfl ?_
    refine v_ldc C dL_scatter_16 cL_scatter_17 ?_
    obtain rfl := Option.some.inj h
    exact v_iretW C dL_scatter_18
  have h := ite_f q1 h
  by_cases q2 : k = 2
  · have h := ite_t q2 h
    refine xw_callV C [⟨0, 11, 14, 15⟩] ⟨0, 11, 19, 18⟩ [] (by rw [hT]; rfl) (List.forall_mem_cons.mpr ⟨Or.inr ⟨by decide, eI, C.2.2.2.2.1 _ clL_scatter_15, C.xe.2.2.1⟩, (fun _ h => absurd h List.not_mem_nil)⟩) (by decide) (by decide) clL_scatter_18 C.xe.2.1.2.1 (ci := 5) (av := [.int a1, .int a2, .int a3, .int a4]) (rest := []) rfl gL_scatter_X6_scatter rfl ⟨rfl, rfl⟩ hV_X6_scatter ⟨(Nat.le_of_ble_eq_true rfl), (Nat.le_of_ble_eq_true rfl)⟩ ⟨(Nat.le_of_ble_eq_true rfl), (Nat.le_of_ble_eq_true rfl)⟩ e_u (x_X6_scatter hst (Or.inr (Or.inl ⟨q2, rfl⟩)) e_k) rfl rfl (Nat.le_of_ble_eq_true rfl) dL_scatter_6 (fun q9 => ?_)
    refine v_astore C (lv' := [(6, .ref q9), (0, .ref a0), (1, .int a1), (2, .int a2), (3, .int a3), (4, .int a4)]) dL_scatter_19 (by decide) rfl ?_
    refine v_ldc C dL_scatter_21 cL_scatter_20 ?_
    obtain rfl := Option.some.inj h
    exact v_iretW C dL_scatter_23
  have h := ite_f q2 h
  cases h
set_option maxRecDepth 100000 in
set_option maxHeartbeats 4000000 in
theorem r_LX_search {l : Launch} {G : GG} {A : Nat → Prop} {n : Nat} {w : Wd} {a0 : Nat} {a1 : Int32} {a2 : Int32} {a3 : Int32} {a4 : Int32} {z1 : Int32} (h : m_LX_search n w a0 a1 a2 a3 a4 = some z1) : Con l yL_search wsL_search { frames := 8, cells := 0, slots := 0, locals := 168 } G A [.ref a0, .int a1, .int a2, .int a3, .int a4] w (some (.int z1)) w := by
  refine Con.ofH (own := RL) (cc := cL_search) (maxL := 7) (ret := (some .int)) (hh := [(0, 11, 14, 18)]) rfl (by decide) rfl (Nat.le_of_ble_eq_true rfl) ?_
  intro p e s m args below meth c C
  show V p l e _ s m args below meth c G A 7 0 [(0, .ref a0), (1, .int a1), (2, .int a2), (3, .int a3), (4, .int a4)] [] w _ _
  unfold m_LX_search at h
  obtain ⟨u, e_u, e_z⟩ := bnd h
  refine v_aload_n C 0 dL_search_0 rfl rfl ?_
  refine v_iload_n C 1 dL_search_1 rfl rfl ?_
  refine v_iload_n C 2 dL_search_2 rfl rfl ?_
  refine v_iload_n C 3 dL_search_3 rfl rfl ?_
  refine v_iload C 4 dL_search_4 rfl ?_
  refine v_callVi C (ci := 5) (av := [.int a1, .int a2, .int a3, .int a4]) (rest := []) rfl gL_search_X6_search rfl ⟨rfl, rfl⟩ hV_X6_search ⟨(Nat.le_of_ble_eq_true rfl), (Nat.le_of_ble_eq_true rfl)⟩ e_u (r_X6_search (A := A) e_z) rfl rfl (Nat.le_of_ble_eq_true rfl) dL_search_6 ?_
  refine v_istore C (lv' := [(5, .int z1), (0, .ref a0), (1, .int a1), (2, .int a2), (3, .int a3), (4, .int a4)]) dL_search_9 (by decide) rfl ?_
  refine v_goto C (tgt := 19) dL_search_11 (by decide) ?_
  refine v_iload C 0 dL_search_19 rfl ?_
  exact v_iret C dL_search_21
theorem clL_search_18 : Cond.classLink RL 18 eA ∈ wsL_search := by decide +kernel
theorem cL_search_20 : Cond.constant RL 20 (-5000001) ∈ wsL_search := by decide +kernel
set_option maxRecDepth 100000 in
set_option maxHeartbeats 4000000 in
theorem r_L_search {l : Launch} (hst : l.stackTraces = false) {G : GG} {A : Nat → Prop} {n : Nat} {w : Wd} {a0 : Nat} {a1 : Int32} {a2 : Int32} {a3 : Int32} {a4 : Int32} {z : Int32 × Wd} (h : m_L_search n w a0 a1 a2 a3 a4 = some z) : WCon l yL_search wsL_search { frames := 8, cells := 1, slots := 6, locals := 168 } G A [.ref a0, .int a1, .int a2, .int a3, .int a4] w (some (.int z.1)) z.2 := by
  refine WCon.of (own := RL) (cc := cL_search) (maxL := 7) (ret := (some .int)) (hh := [(0, 11, 14, 18)]) rfl (by decide) rfl (Nat.le_of_ble_eq_true rfl) ?_
  intro p e s m args below meth c C hT
  show VQ p l e _ s m args below meth c G A 7 0 0 _ 0 [(0, .ref a0), (1, .int a1), (2, .int a2), (3, .int a3), (4, .int a4)] [] w
  unfold m_L_search at h
  obtain ⟨u, e_u, h⟩ := bnd h
  obtain ⟨k, e_k, h⟩ := bnd h
  refine v_aload_n C 0 dL_search_0 rfl rfl ?_
  refine v_iload_n C 1 dL_search_1 rfl rfl ?_
  refine v_iload_n C 2 dL_search_2 rfl rfl ?_
  refine v_iload_n C 3 dL_search_3 rfl rfl ?_
  refine v_iload C 4 dL_search_4 rfl ?_
  by_cases q0 : k = 0
  · have h := ite_t q0 h
    obtain ⟨z1, e_z, h⟩ := bnd h
    refine v_callVi C (ci := 5) (av := [.int a1, .int a2, .int a3, .int a4]) (rest := []) rfl gL_search_X6_search rfl ⟨rfl, rfl⟩ hV_X6_search ⟨(Nat.le_of_ble_eq_true rfl), (Nat.le_of_ble_eq_true rfl)⟩ e_u (r_X6_search (A := A) e_z) rfl rfl (Nat.le_of_ble_eq_true rfl) dL_search_6 ?_
    refine v_istore C (lv' := [(5, .int z1), (0, .ref a0), (1, .int a1), (2, .int a2), (3, .int a3), (4, .int a4)]) dL_search_9 (by decide) rfl ?_
    refine v_goto C (tgt := 19) dL_search_11 (by decide) ?_
    refine v_iload C 0 dL_search_19 rfl ?_
    obtain rfl := Option.some.inj h
    refine v_widen (k1 := 1) (s1 := 6) (by decide) (by decide) ?_
    exact v_iretW C dL_search_21
  have h := ite_f q0 h
  by_cases q2 : k = 2
  · have h := ite_t q2 h
    refine xw_callV C [] ⟨0, 11, 14, 18⟩ [] (by rw [hT]; rfl) (fun _ h => absurd h List.not_mem_nil) (by decide) (by decide) clL_search_18 C.xe.2.1.2.1 (ci := 5) (av := [.int a1, .int a2, .int a3, .int a4]) (rest := []) rfl gL_search_X6_search rfl ⟨rfl, rfl⟩ hV_X6_search ⟨(Nat.le_of_ble_eq_true rfl), (Nat.le_of_ble_eq_true rfl)⟩ ⟨(Nat.le_of_ble_eq_true rfl), (Nat.le_of_ble_eq_true rfl)⟩ e_u (x_X6_search hst (Or.inr (Or.inl ⟨q2, rfl⟩)) e_k) rfl rfl (Nat.le_of_ble_eq_true rfl) dL_search_6 (fun q9 => ?_)
    refine v_astore C (lv' := [(6, .ref q9), (0, .ref a0), (1, .int a1), (2, .int a2), (3, .int a3), (4, .int a4)]) dL_search_14 (by decide) rfl ?_
    refine v_ldc C dL_search_16 cL_search_20 ?_
    obtain rfl := Option.some.inj h
    exact v_iretW C dL_search_18
  have h := ite_f q2 h
  cases h
set_option maxRecDepth 100000 in
set_option maxHeartbeats 4000000 in
theorem r_LX_setVelocity {l : Launch} {G : GG} {A : Nat → Prop} {n : Nat} {w : Wd} {a0 : Nat} {a1 : Int32} {a2 : Int32} {a3 : Int32} {z1 : Int32 × Wd} (h : m_LX_setVelocity n w a0 a1 a2 a3 = some z1) : Con l yL_setVelocity wsL_setVelocity { frames := 8, cells := 0, slots := 0, locals := 126 } G A [.ref a0, .int a1, .int a2, .int a3] w (some (.int z1.1)) z1.2 := by
  refine Con.ofH (own := RL) (cc := cL_setVelocity) (maxL := 6) (ret := (some .int)) (hh := [(0, 9, 12, 15), (0, 9, 17, 18), (0, 9, 22, 21)]) rfl (by decide) rfl (Nat.le_of_ble_eq_true rfl) ?_
  intro p e s m args below meth c C
  show V p l e _ s m args below meth c G A 6 0 [(0, .ref a0), (1, .int a1), (2, .int a2), (3, .int a3)] [] w _ _
  unfold m_LX_setVelocity at h
  obtain ⟨u, e_u, e_z⟩ := bnd h
  refine v_aload_n C 0 dL_setVelocity_0 rfl rfl ?_
  refine v_iload_n C 1 dL_setVelocity_1 rfl rfl ?_
  refine v_iload_n C 2 dL_setVelocity_2 rfl rfl ?_
  refine v_iload_n C 3 dL_setVelocity_3 rfl rfl ?_
  refine v_callVi C (ci := 5) (av := [.int a1, .int a2, .int a3]) (rest := []) rfl gL_setVelocity_X6_setVelocity rfl ⟨rfl, rfl⟩ hV_X6_setVelocity ⟨(Nat.le_of_ble_eq_true rfl), (Nat.le_of_ble_eq_true rfl)⟩ e_u (r_X6_setVelocity (A := A) e_z) rfl rfl (Nat.le_of_ble_eq_true rfl) dL_setVelocity_4 ?_
  refine v_istore C (lv' := [(4, .int z1.1), (0, .ref a0), (1, .int a1), (2, .int a2), (3, .int a3)]) dL_setVelocity_7 (by decide) rfl ?_
  refine v_goto C (tgt := 27) dL_setVelocity_9 (by decide) ?_
  refine v_iload C 0 dL_setVelocity_27 rfl ?_
  exact v_iret C dL_setVelocity_29
theorem clL_setVelocity_15 : Cond.classLink RL 15 eI ∈ wsL_setVelocity := by decide +kernel
theorem clL_setVelocity_18 : Cond.classLink RL 18 eA ∈ wsL_setVelocity := by decide +kernel
theorem clL_setVelocity_21 : Cond.classLink RL 21 eS ∈ wsL_setVelocity := by decide +kernel
theorem cL_setVelocity_17 : Cond.constant RL 17 (-5000003) ∈ wsL_setVelocity := by decide +kernel
theorem cL_setVelocity_20 : Cond.constant RL 20 (-5000001) ∈ wsL_setVelocity := by decide +kernel
theorem cL_setVelocity_23 : Cond.constant RL 23 (-5000002) ∈ wsL_setVelocity := by decide +kernel
set_option maxRecDepth 100000 in
set_option maxHeartbeats 4000000 in
theorem r_L_setVelocity {l : Launch} (hst : l.stackTraces = false) {G : GG} {A : Nat → Prop} {n : Nat} {w : Wd} {a0 : Nat} {a1 : Int32} {a2 : Int32} {a3 : Int32} {z : Int32 × Wd} (h : m_L_setVelocity n w a0 a1 a2 a3 = some z) : WCon l yL_setVelocity wsL_setVelocity { frames := 8, cells := 1, slots := 6, locals := 126 } G A [.ref a0, .int a1, .int a2, .int a3] w (some (.int z.1)) z.2 := by
  refine WCon.of (own := RL) (cc := cL_setVelocity) (maxL := 6) (ret := (some .int)) (hh := [(0, 9, 12, 15), (0, 9, 17, 18), (0, 9, 22, 21)]) rfl (by decide) rfl (Nat.le_of_ble_eq_true rfl) ?_
  intro p e s m args below meth c C hT
  show VQ p l e _ s m args below meth c G A 6 0 0 _ 0 [(0, .ref a0), (1, .int a1), (2, .int a2), (3, .int a3)] [] w
  unfold m_L_setVelocity at h
  obtain ⟨u, e_u, h⟩ := bnd h
  obtain ⟨k, e_k, h⟩ := bnd h
  refine v_aload_n C 0 dL_setVelocity_0 rfl rfl ?_
  refine v_iload_n C 1 dL_setVelocity_1 rfl rfl ?_
  refine v_iload_n C 2 dL_setVelocity_2 rfl rfl ?_
  refine v_iload_n C 3 dL_setVelocity_3 rfl rfl ?_
  by_cases q0 : k = 0
  · have h := ite_t q0 h
    obtain ⟨z1, e_z, h⟩ := bnd h
    refine v_callVi C (ci := 5) (av := [.int a1, .int a2, .int a3]) (rest := []) rfl gL_setVelocity_X6_setVelocity rfl ⟨rfl, rfl⟩ hV_X6_setVelocity ⟨(Nat.le_of_ble_eq_true rfl), (Nat.le_of_ble_eq_true rfl)⟩ e_u (r_X6_setVelocity (A := A) e_z) rfl rfl (Nat.le_of_ble_eq_true rfl) dL_setVelocity_4 ?_
    refine v_istore C (lv' := [(4, .int z1.1), (0, .ref a0), (1, .int a1), (2, .int a2), (3, .int a3)]) dL_setVelocity_7 (by decide) rfl ?_
    refine v_goto C (tgt := 27) dL_setVelocity_9 (by decide) ?_
    refine v_iload C 0 dL_setVelocity_27 rfl ?_
    obtain rfl := Option.some.inj h
    refine v_widen (k1 := 1) (s1 := 6) (by decide) (by decide) ?_
    exact v_iretW C dL_setVelocity_29
  have h := ite_f q0 h
  by_cases q1 : k = 1
  · have h := ite_t q1 h
    refine xw_callV C [] ⟨0, 9, 12, 15⟩ [⟨0, 9, 17, 18⟩, ⟨0, 9, 22, 21⟩] (by rw [hT]; rfl) (fun _ h => absurd h List.not_mem_nil) (by decide) (by decide) clL_setVelocity_15 C.xe.2.1.1 (ci := 5) (av := [.int a1, .int a2, .int a3]) (rest := []) rfl gL_setVelocity_X6_setVelocity rfl ⟨rfl, rfl⟩ hV_X6_setVelocity ⟨(Nat.le_of_ble_eq_true rfl), (Nat.le_of_ble_eq_true rfl)⟩ ⟨(Nat.le_of_ble_eq_true rfl), (Nat.le_of_ble_eq_true rfl)⟩ e_u (x_X6_setVelocity hst (Or.inl ⟨q1, rfl⟩) e_k) rfl rfl (Nat.le_of_ble_eq_true rfl) dL_setVelocity_4 (fun q9 => ?_)
    refine v_astore C (lv' := [(5, .ref q9), (0, .ref a0), (1, .int a1), (2, .int a2), (3, .int a3)]) dL_setVelocity_12 (by decide) rfl ?_
    refine v_ldc C dL_setVelocity_14 cL_setVelocity_17 ?_
    obtain rfl := Option.some.inj h
    exact v_iretW C dL_setVelocity_16
  have h := ite_f q1 h
  by_cases q2 : k = 2
  · have h := ite_t q2 h
    refine xw_callV C [⟨0, 9, 12, 15⟩] ⟨0, 9, 17, 18⟩ [⟨0, 9, 22, 21⟩] (by rw [hT]; rfl) (List.forall_mem_cons.mpr ⟨Or.inr ⟨by decide, eI, C.2.2.2.2.1 _ clL_setVelocity_15, C.xe.2.2.1⟩, (fun _ h => absurd h List.not_mem_nil)⟩) (by decide) (by decide) clL_setVelocity_18 C.xe.2.1.2.1 (ci := 5) (av := [.int a1, .int a2, .int a3]) (rest := []) rfl gL_setVelocity_X6_setVelocity rfl ⟨rfl, rfl⟩ hV_X6_setVelocity ⟨(Nat.le_of_ble_eq_true rfl), (Nat.le_of_ble_eq_true rfl)⟩ ⟨(Nat.le_of_ble_eq_true rfl), (Nat.le_of_ble_eq_true rfl)⟩ e_u (x_X6_setVelocity hst (Or.inr (Or.inl ⟨q2, rfl⟩)) e_k) rfl rfl (Nat.le_of_ble_eq_true rfl) dL_setVelocity_4 (fun q9 => ?_)
    refine v_astore C (lv' := [(5, .ref q9), (0, .ref a0), (1, .int a1), (2, .int a2), (3, .int a3)]) dL_setVelocity_17 (by decide) rfl ?_
    refine v_ldc C dL_setVelocity_19 cL_setVelocity_20 ?_
    obtain rfl := Option.some.inj h
    exact v_iretW C dL_setVelocity_21
  have h := ite_f q2 h
  by_cases q3 : k = 3
  · have h := ite_t q3 h
    refine xw_callV C [⟨0, 9, 12, 15⟩, ⟨0, 9, 17, 18⟩] ⟨0, 9, 22, 21⟩ [] (by rw [hT]; rfl) (List.forall_mem_cons.mpr ⟨Or.inr ⟨by decide, eI, C.2.2.2.2.1 _ clL_setVelocity_15, C.xe.2.2.2.1⟩, (List.forall_mem_cons.mpr ⟨Or.inr ⟨by decide, eA, C.2.2.2.2.1 _ clL_setVelocity_18, C.xe.2.2.2.2⟩, (fun _ h => absurd h List.not_mem_nil)⟩)⟩) (by decide) (by decide) clL_setVelocity_21 C.xe.2.1.2.2 (ci := 5) (av := [.int a1, .int a2, .int a3]) (rest := []) rfl gL_setVelocity_X6_setVelocity rfl ⟨rfl, rfl⟩ hV_X6_setVelocity ⟨(Nat.le_of_ble_eq_true rfl), (Nat.le_of_ble_eq_true rfl)⟩ ⟨(Nat.le_of_ble_eq_true rfl), (Nat.le_of_ble_eq_true rfl)⟩ e_u (x_X6_setVelocity hst (Or.inr (Or.inr ⟨q3, rfl⟩)) e_k) rfl rfl (Nat.le_of_ble_eq_true rfl) dL_setVelocity_4 (fun q9 => ?_)
    refine v_astore C (lv' := [(5, .ref q9), (0, .ref a0), (1, .int a1), (2, .int a2), (3, .int a3)]) dL_setVelocity_22 (by decide) rfl ?_
    refine v_ldc C dL_setVelocity_24 cL_setVelocity_23 ?_
    obtain rfl := Option.some.inj h
    exact v_iretW C dL_setVelocity_26
  have h := ite_f q3 h
  cases h
set_option maxRecDepth 100000 in
set_option maxHeartbeats 4000000 in
theorem r_LX_tick {l : Launch} {G : GG} {A : Nat → Prop} {n : Nat} {w : Wd} {a0 : Nat} {a1 : Int32} {z1 : Int32 × Wd} (h : m_LX_tick n w a0 a1 = some z1) : Con l yL_tick wsL_tick { frames := 8, cells := 0, slots := 0, locals := 138 } G A [.ref a0, .int a1] w (some (.int z1.1)) z1.2 := by
  refine Con.ofH (own := RL) (cc := cL_tick) (maxL := 4) (ret := (some .int)) (hh := [(0, 6, 9, 18)]) rfl (by decide) rfl (Nat.le_of_ble_eq_true rfl) ?_
  intro p e s m args below meth c C
  show V p l e _ s m args below meth c G A 4 0 [(0, .ref a0), (1, .int a1)] [] w _ _
  unfold m_LX_tick at h
  obtain ⟨u, e_u, e_z⟩ := bnd h
  refine v_aload_n C 0 dL_tick_0 rfl rfl ?_
  refine v_iload_n C 1 dL_tick_1 rfl rfl ?_
  refine v_callVi C (ci := 5) (av := [.int a1]) (rest := []) rfl gL_tick_X6_tick rfl ⟨rfl, rfl⟩ hV_X6_tick ⟨(Nat.le_of_ble_eq_true rfl), (Nat.le_of_ble_eq_true rfl)⟩ e_u (r_X6_tick (A := A) e_z) rfl rfl (Nat.le_of_ble_eq_true rfl) dL_tick_2 ?_
  refine v_istore_n C (lv' := [(2, .int z1.1), (0, .ref a0), (1, .int a1)]) dL_tick_5 rfl (by decide) rfl ?_
  refine v_goto C (tgt := 13) dL_tick_6 (by decide) ?_
  refine v_iload_n C 0 dL_tick_13 rfl rfl ?_
  exact v_iret C dL_tick_14
theorem clL_tick_18 : Cond.classLink RL 18 eA ∈ wsL_tick := by decide +kernel
theorem cL_tick_20 : Cond.constant RL 20 (-5000001) ∈ wsL_tick := by decide +kernel
set_option maxRecDepth 100000 in
set_option maxHeartbeats 4000000 in
theorem r_L_tick {l : Launch} (hst : l.stackTraces = false) {G : GG} {A : Nat → Prop} {n : Nat} {w : Wd} {a0 : Nat} {a1 : Int32} {z : Int32 × Wd} (h : m_L_tick n w a0 a1 = some z) : WCon l yL_tick wsL_tick { frames := 8, cells := 1, slots := 6, locals := 138 } G A [.ref a0, .int a1] w (some (.int z.1)) z.2 := by
  refine WCon.of (own := RL) (cc := cL_tick) (maxL := 4) (ret := (some .int)) (hh := [(0, 6, 9, 18)]) rfl (by decide) rfl (Nat.le_of_ble_eq_true rfl) ?_
  intro p e s m args below meth c C hT
  show VQ p l e _ s m args below meth c G A 4 0 0 _ 0 [(0, .ref a0), (1, .int a1)] [] w
  unfold m_L_tick at h
  obtain ⟨u, e_u, h⟩ := bnd h
  obtain ⟨k, e_k, h⟩ := bnd h
  refine v_aload_n C 0 dL_tick_0 rfl rfl ?_
  refine v_iload_n C 1 dL_tick_1 rfl rfl ?_
  by_cases q0 : k = 0
  · have h := ite_t q0 h
    obtain ⟨z1, e_z, h⟩ := bnd h
    refine v_callVi C (ci := 5) (av := [.int a1]) (rest := []) rfl gL_tick_X6_tick rfl ⟨rfl, rfl⟩ hV_X6_tick ⟨(Nat.le_of_ble_eq_true rfl), (Nat.le_of_ble_eq_true rfl)⟩ e_u (r_X6_tick (A := A) e_z) rfl rfl (Nat.le_of_ble_eq_true rfl) dL_tick_2 ?_
    refine v_istore_n C (lv' := [(2, .int z1.1), (0, .ref a0), (1, .int a1)]) dL_tick_5 rfl (by decide) rfl ?_
    refine v_goto C (tgt := 13) dL_tick_6 (by decide) ?_
    refine v_iload_n C 0 dL_tick_13 rfl rfl ?_
    obtain rfl := Option.some.inj h
    refine v_widen (k1 := 1) (s1 := 6) (by decide) (by decide) ?_
    exact v_iretW C dL_tick_14
  have h := ite_f q0 h
  by_cases q2 : k = 2
  · have h := ite_t q2 h
    refine xw_callV C [] ⟨0, 6, 9, 18⟩ [] (by rw [hT]; rfl) (fun _ h => absurd h List.not_mem_nil) (by decide) (by decide) clL_tick_18 C.xe.2.1.2.1 (ci := 5) (av := [.int a1]) (rest := []) rfl gL_tick_X6_tick rfl ⟨rfl, rfl⟩ hV_X6_tick ⟨(Nat.le_of_ble_eq_true rfl), (Nat.le_of_ble_eq_true rfl)⟩ ⟨(Nat.le_of_ble_eq_true rfl), (Nat.le_of_ble_eq_true rfl)⟩ e_u (x_X6_tick hst (Or.inr (Or.inl ⟨q2, rfl⟩)) e_k) rfl rfl (Nat.le_of_ble_eq_true rfl) dL_tick_2 (fun q9 => ?_)
    refine v_astore_n C (lv' := [(3, .ref q9), (0, .ref a0), (1, .int a1)]) dL_tick_9 rfl (by decide) rfl ?_
    refine v_ldc C dL_tick_10 cL_tick_20 ?_
    obtain rfl := Option.some.inj h
    exact v_iretW C dL_tick_12
  have h := ite_f q2 h
  cases h
set_option maxRecDepth 100000 in
set_option maxHeartbeats 4000000 in
theorem r_LX_type {l : Launch} {G : GG} {A : Nat → Prop} {n : Nat} {w : Wd} {a0 : Nat} {a1 : Int32} {z1 : Int32 × Wd} (h : m_LX_type n w a0 a1 = some z1) : Con l yL_type wsL_type { frames := 8, cells := 0, slots := 0, locals := 123 } G A [.ref a0, .int a1] w (some (.int z1.1)) z1.2 := by
  refine Con.ofH (own := RL) (cc := cL_type) (maxL := 4) (ret := (some .int)) (hh := [(0, 6, 9, 18), (0, 6, 13, 21)]) rfl (by decide) rfl (Nat.le_of_ble_eq_true rfl) ?_
  intro p e s m args below meth c C
  show V p l e _ s m args below meth c G A 4 0 [(0, .ref a0), (1, .int a1)] [] w _ _
  unfold m_LX_type at h
  obtain ⟨u, e_u, e_z⟩ := bnd h
  refine v_aload_n C 0 dL_type_0 rfl rfl ?_
  refine v_iload_n C 1 dL_type_1 rfl rfl ?_
  refine v_callVi C (ci := 5) (av := [.int a1]) (rest := []) rfl gL_type_X6_type rfl ⟨rfl, rfl⟩ hV_X6_type ⟨(Nat.le_of_ble_eq_true rfl), (Nat.le_of_ble_eq_true rfl)⟩ e_u (r_X6_type (A := A) e_z) rfl rfl (Nat.le_of_ble_eq_true rfl) dL_type_2 ?_
  refine v_istore_n C (lv' := [(2, .int z1.1), (0, .ref a0), (1, .int a1)]) dL_type_5 rfl (by decide) rfl ?_
  refine v_goto C (tgt := 17) dL_type_6 (by decide) ?_
  refine v_iload_n C 0 dL_type_17 rfl rfl ?_
  exact v_iret C dL_type_18
theorem clL_type_18 : Cond.classLink RL 18 eA ∈ wsL_type := by decide +kernel
theorem clL_type_21 : Cond.classLink RL 21 eS ∈ wsL_type := by decide +kernel
theorem cL_type_20 : Cond.constant RL 20 (-5000001) ∈ wsL_type := by decide +kernel
theorem cL_type_23 : Cond.constant RL 23 (-5000002) ∈ wsL_type := by decide +kernel
set_option maxRecDepth 100000 in
set_option maxHeartbeats 4000000 in
theorem r_L_type {l : Launch} (hst : l.stackTraces = false) {G : GG} {A : Nat → Prop} {n : Nat} {w : Wd} {a0 : Nat} {a1 : Int32} {z : Int32 × Wd} (h : m_L_type n w a0 a1 = some z) : WCon l yL_type wsL_type { frames := 8, cells := 1, slots := 6, locals := 123 } G A [.ref a0, .int a1] w (some (.int z.1)) z.2 := by
  refine WCon.of (own := RL) (cc := cL_type) (maxL := 4) (ret := (some .int)) (hh := [(0, 6, 9, 18), (0, 6, 13, 21)]) rfl (by decide) rfl (Nat.le_of_ble_eq_true rfl) ?_
  intro p e s m args below meth c C hT
  show VQ p l e _ s m args below meth c G A 4 0 0 _ 0 [(0, .ref a0), (1, .int a1)] [] w
  unfold m_L_type at h
  obtain ⟨u, e_u, h⟩ := bnd h
  obtain ⟨k, e_k, h⟩ := bnd h
  refine v_aload_n C 0 dL_type_0 rfl rfl ?_
  refine v_iload_n C 1 dL_type_1 rfl rfl ?_
  by_cases q0 : k = 0
  · have h := ite_t q0 h
    obtain ⟨z1, e_z, h⟩ := bnd h
    refine v_callVi C (ci := 5) (av := [.int a1]) (rest := []) rfl gL_type_X6_type rfl ⟨rfl, rfl⟩ hV_X6_type ⟨(Nat.le_of_ble_eq_true rfl), (Nat.le_of_ble_eq_true rfl)⟩ e_u (r_X6_type (A := A) e_z) rfl rfl (Nat.le_of_ble_eq_true rfl) dL_type_2 ?_
    refine v_istore_n C (lv' := [(2, .int z1.1), (0, .ref a0), (1, .int a1)]) dL_type_5 rfl (by decide) rfl ?_
    refine v_goto C (tgt := 17) dL_type_6 (by decide) ?_
    refine v_iload_n C 0 dL_type_17 rfl rfl ?_
    obtain rfl := Option.some.inj h
    refine v_widen (k1 := 1) (s1 := 6) (by decide) (by decide) ?_
    exact v_iretW C dL_type_18
  have h := ite_f q0 h
  by_cases q2 : k = 2
  · have h := ite_t q2 h
    refine xw_callV C [] ⟨0, 6, 9, 18⟩ [⟨0, 6, 13, 21⟩] (by rw [hT]; rfl) (fun _ h => absurd h List.not_mem_nil) (by decide) (by decide) clL_type_18 C.xe.2.1.2.1 (ci := 5) (av := [.int a1]) (rest := []) rfl gL_type_X6_type rfl ⟨rfl, rfl⟩ hV_X6_type ⟨(Nat.le_of_ble_eq_true rfl), (Nat.le_of_ble_eq_true rfl)⟩ ⟨(Nat.le_of_ble_eq_true rfl), (Nat.le_of_ble_eq_true rfl)⟩ e_u (x_X6_type hst (Or.inr (Or.inl ⟨q2, rfl⟩)) e_k) rfl rfl (Nat.le_of_ble_eq_true rfl) dL_type_2 (fun q9 => ?_)
    refine v_astore_n C (lv' := [(3, .ref q9), (0, .ref a0), (1, .int a1)]) dL_type_9 rfl (by decide) rfl ?_
    refine v_ldc C dL_type_10 cL_type_20 ?_
    obtain rfl := Option.some.inj h
    exact v_iretW C dL_type_12
  have h := ite_f q2 h
  by_cases q3 : k = 3
  · have h := ite_t q3 h
    refine xw_callV C [⟨0, 6, 9, 18⟩] ⟨0, 6, 13, 21⟩ [] (by rw [hT]; rfl) (List.forall_mem_cons.mpr ⟨Or.inr ⟨by decide, eA, C.2.2.2.2.1 _ clL_type_18, C.xe.2.2.2.2⟩, (fun _ h => absurd h List.not_mem_nil)⟩) (by decide) (by decide) clL_type_21 C.xe.2.1.2.2 (ci := 5) (av := [.int a1]) (rest := []) rfl gL_type_X6_type rfl ⟨rfl, rfl⟩ hV_X6_type ⟨(Nat.le_of_ble_eq_true rfl), (Nat.le_of_ble_eq_true rfl)⟩ ⟨(Nat.le_of_ble_eq_true rfl), (Nat.le_of_ble_eq_true rfl)⟩ e_u (x_X6_type hst (Or.inr (Or.inr ⟨q3, rfl⟩)) e_k) rfl rfl (Nat.le_of_ble_eq_true rfl) dL_type_2 (fun q9 => ?_)
    refine v_astore_n C (lv' := [(3, .ref q9), (0, .ref a0), (1, .int a1)]) dL_type_13 rfl (by decide) rfl ?_
    refine v_ldc C dL_type_14 cL_type_23 ?_
    obtain rfl := Option.some.inj h
    exact v_iretW C dL_type_16
  have h := ite_f q3 h
  cases h
set_option maxRecDepth 100000 in
set_option maxHeartbeats 4000000 in
theorem r_LX_undo {l : Launch} {G : GG} {A : Nat → Prop} {n : Nat} {w : Wd} {a0 : Nat} {z1 : Int32 × Wd} (h : m_LX_undo n w a0 = some z1) : Con l yL_undo wsL_undo { frames := 8, cells := 0, slots := 0, locals := 122 } G A [.ref a0] w (some (.int z1.1)) z1.2 := by
  refine Con.ofH (own := RL) (cc := cL_undo) (maxL := 3) (ret := (some .int)) (hh := [(0, 5, 8, 21)]) rfl (by decide) rfl (Nat.le_of_ble_eq_true rfl) ?_
  intro p e s m args below meth c C
  show V p l e _ s m args below meth c G A 3 0 [(0, .ref a0)] [] w _ _
  unfold m_LX_undo at h
  obtain ⟨u, e_u, e_z⟩ := bnd h
  refine v_aload_n C 0 dL_undo_0 rfl rfl ?_
  refine v_callVi C (ci := 5) (av := []) (rest := []) rfl gL_undo_X6_undo rfl ⟨rfl, rfl⟩ hV_X6_undo ⟨(Nat.le_of_ble_eq_true rfl), (Nat.le_of_ble_eq_true rfl)⟩ e_u (r_X6_undo (A := A) e_z) rfl rfl (Nat.le_of_ble_eq_true rfl) dL_undo_1 ?_
  refine v_istore_n C (lv' := [(1, .int z1.1), (0, .ref a0)]) dL_undo_4 rfl (by decide) rfl ?_
  refine v_goto C (tgt := 12) dL_undo_5 (by decide) ?_
  refine v_iload_n C 0 dL_undo_12 rfl rfl ?_
  exact v_iret C dL_undo_13
theorem clL_undo_21 : Cond.classLink RL 21 eS ∈ wsL_undo := by decide +kernel
theorem cL_undo_23 : Cond.constant RL 23 (-5000002) ∈ wsL_undo := by decide +kernel
set_option maxRecDepth 100000 in
set_option maxHeartbeats 4000000 in
theorem r_L_undo {l : Launch} (hst : l.stackTraces = false) {G : GG} {A : Nat → Prop} {n : Nat} {w : Wd} {a0 : Nat} {z : Int32 × Wd} (h : m_L_undo n w a0 = some z) : WCon l yL_undo wsL_undo { frames := 8, cells := 1, slots := 6, locals := 122 } G A [.ref a0] w (some (.int z.1)) z.2 := by
  refine WCon.of (own := RL) (cc := cL_undo) (maxL := 3) (ret := (some .int)) (hh := [(0, 5, 8, 21)]) rfl (by decide) rfl (Nat.le_of_ble_eq_true rfl) ?_
  intro p e s m args below meth c C hT
  show VQ p l e _ s m args below meth c G A 3 0 0 _ 0 [(0, .ref a0)] [] w
  unfold m_L_undo at h
  obtain ⟨u, e_u, h⟩ := bnd h
  obtain ⟨k, e_k, h⟩ := bnd h
  refine v_aload_n C 0 dL_undo_0 rfl rfl ?_
  by_cases q0 : k = 0
  · have h := ite_t q0 h
    obtain ⟨z1, e_z, h⟩ := bnd h
    refine v_callVi C (ci := 5) (av := []) (rest := []) rfl gL_undo_X6_undo rfl ⟨rfl, rfl⟩ hV_X6_undo ⟨(Nat.le_of_ble_eq_true rfl), (Nat.le_of_ble_eq_true rfl)⟩ e_u (r_X6_undo (A := A) e_z) rfl rfl (Nat.le_of_ble_eq_true rfl) dL_undo_1 ?_
    refine v_istore_n C (lv' := [(1, .int z1.1), (0, .ref a0)]) dL_undo_4 rfl (by decide) rfl ?_
    refine v_goto C (tgt := 12) dL_undo_5 (by decide) ?_
    refine v_iload_n C 0 dL_undo_12 rfl rfl ?_
    obtain rfl := Option.some.inj h
    refine v_widen (k1 := 1) (s1 := 6) (by decide) (by decide) ?_
    exact v_iretW C dL_undo_13
  have h := ite_f q0 h
  by_cases q3 : k = 3
  · have h := ite_t q3 h
    refine xw_callV C [] ⟨0, 5, 8, 21⟩ [] (by rw [hT]; rfl) (fun _ h => absurd h List.not_mem_nil) (by decide) (by decide) clL_undo_21 C.xe.2.1.2.2 (ci := 5) (av := []) (rest := []) rfl gL_undo_X6_undo rfl ⟨rfl, rfl⟩ hV_X6_undo ⟨(Nat.le_of_ble_eq_true rfl), (Nat.le_of_ble_eq_true rfl)⟩ ⟨(Nat.le_of_ble_eq_true rfl), (Nat.le_of_ble_eq_true rfl)⟩ e_u (x_X6_undo hst (Or.inr (Or.inr ⟨q3, rfl⟩)) e_k) rfl rfl (Nat.le_of_ble_eq_true rfl) dL_undo_1 (fun q9 => ?_)
    refine v_astore_n C (lv' := [(2, .ref q9), (0, .ref a0)]) dL_undo_8 rfl (by decide) rfl ?_
    refine v_ldc C dL_undo_9 cL_undo_23 ?_
    obtain rfl := Option.some.inj h
    exact v_iretW C dL_undo_11
  have h := ite_f q3 h
  cases h
set_option maxRecDepth 100000 in
set_option maxHeartbeats 4000000 in
theorem r_LX_within {l : Launch} {G : GG} {A : Nat → Prop} {n : Nat} {w : Wd} {a0 : Nat} {a1 : Int32} {a2 : Int32} {a3 : Int32} {a4 : Int32} {z1 : Int32} (h : m_LX_within n w a0 a1 a2 a3 a4 = some z1) : Con l yL_within wsL_within { frames := 8, cells := 0, slots := 0, locals := 128 } G A [.ref a0, .int a1, .int a2, .int a3, .int a4] w (some (.int z1)) w := by
  refine Con.ofH (own := RL) (cc := cL_within) (maxL := 7) (ret := (some .int)) (hh := [(0, 11, 14, 18)]) rfl (by decide) rfl (Nat.le_of_ble_eq_true rfl) ?_
  intro p e s m args below meth c C
  show V p l e _ s m args below meth c G A 7 0 [(0, .ref a0), (1, .int a1), (2, .int a2), (3, .int a3), (4, .int a4)] [] w _ _
  unfold m_LX_within at h
  obtain ⟨u, e_u, e_z⟩ := bnd h
  refine v_aload_n C 0 dL_within_0 rfl rfl ?_
  refine v_iload_n C 1 dL_within_1 rfl rfl ?_
  refine v_iload_n C 2 dL_within_2 rfl rfl ?_
  refine v_iload_n C 3 dL_within_3 rfl rfl ?_
  refine v_iload C 4 dL_within_4 rfl ?_
  refine v_callVi C (ci := 5) (av := [.int a1, .int a2, .int a3, .int a4]) (rest := []) rfl gL_within_X6_within rfl ⟨rfl, rfl⟩ hV_X6_within ⟨(Nat.le_of_ble_eq_true rfl), (Nat.le_of_ble_eq_true rfl)⟩ e_u (r_X6_within (A := A) e_z) rfl rfl (Nat.le_of_ble_eq_true rfl) dL_within_6 ?_
  refine v_istore C (lv' := [(5, .int z1), (0, .ref a0), (1, .int a1), (2, .int a2), (3, .int a3), (4, .int a4)]) dL_within_9 (by decide) rfl ?_
  refine v_goto C (tgt := 19) dL_within_11 (by decide) ?_
  refine v_iload C 0 dL_within_19 rfl ?_
  exact v_iret C dL_within_21
theorem clL_within_18 : Cond.classLink RL 18 eA ∈ wsL_within := by decide +kernel
theorem cL_within_20 : Cond.constant RL 20 (-5000001) ∈ wsL_within := by decide +kernel
set_option maxRecDepth 100000 in
set_option maxHeartbeats 4000000 in
theorem r_L_within {l : Launch} (hst : l.stackTraces = false) {G : GG} {A : Nat → Prop} {n : Nat} {w : Wd} {a0 : Nat} {a1 : Int32} {a2 : Int32} {a3 : Int32} {a4 : Int32} {z : Int32 × Wd} (h : m_L_within n w a0 a1 a2 a3 a4 = some z) : WCon l yL_within wsL_within { frames := 8, cells := 1, slots := 6, locals := 128 } G A [.ref a0, .int a1, .int a2, .int a3, .int a4] w (some (.int z.1)) z.2 := by
  refine WCon.of (own := RL) (cc := cL_within) (maxL := 7) (ret := (some .int)) (hh := [(0, 11, 14, 18)]) rfl (by decide) rfl (Nat.le_of_ble_eq_true rfl) ?_
  intro p e s m args below meth c C hT
  show VQ p l e _ s m args below meth c G A 7 0 0 _ 0 [(0, .ref a0), (1, .int a1), (2, .int a2), (3, .int a3), (4, .int a4)] [] w
  unfold m_L_within at h
  obtain ⟨u, e_u, h⟩ := bnd h
  obtain ⟨k, e_k, h⟩ := bnd h
  refine v_aload_n C 0 dL_within_0 rfl rfl ?_
  refine v_iload_n C 1 dL_within_1 rfl rfl ?_
  refine v_iload_n C 2 dL_within_2 rfl rfl ?_
  refine v_iload_n C 3 dL_within_3 rfl rfl ?_
  refine v_iload C 4 dL_within_4 rfl ?_
  by_cases q0 : k = 0
  · have h := ite_t q0 h
    obtain ⟨z1, e_z, h⟩ := bnd h
    refine v_callVi C (ci := 5) (av := [.int a1, .int a2, .int a3, .int a4]) (rest := []) rfl gL_within_X6_within rfl ⟨rfl, rfl⟩ hV_X6_within ⟨(Nat.le_of_ble_eq_true rfl), (Nat.le_of_ble_eq_true rfl)⟩ e_u (r_X6_within (A := A) e_z) rfl rfl (Nat.le_of_ble_eq_true rfl) dL_within_6 ?_
    refine v_istore C (lv' := [(5, .int z1), (0, .ref a0), (1, .int a1), (2, .int a2), (3, .int a3), (4, .int a4)]) dL_within_9 (by decide) rfl ?_
    refine v_goto C (tgt := 19) dL_within_11 (by decide) ?_
    refine v_iload C 0 dL_within_19 rfl ?_
    obtain rfl := Option.some.inj h
    refine v_widen (k1 := 1) (s1 := 6) (by decide) (by decide) ?_
    exact v_iretW C dL_within_21
  have h := ite_f q0 h
  by_cases q2 : k = 2
  · have h := ite_t q2 h
    refine xw_callV C [] ⟨0, 11, 14, 18⟩ [] (by rw [hT]; rfl) (fun _ h => absurd h List.not_mem_nil) (by decide) (by decide) clL_within_18 C.xe.2.1.2.1 (ci := 5) (av := [.int a1, .int a2, .int a3, .int a4]) (rest := []) rfl gL_within_X6_within rfl ⟨rfl, rfl⟩ hV_X6_within ⟨(Nat.le_of_ble_eq_true rfl), (Nat.le_of_ble_eq_true rfl)⟩ ⟨(Nat.le_of_ble_eq_true rfl), (Nat.le_of_ble_eq_true rfl)⟩ e_u (x_X6_within hst (Or.inr (Or.inl ⟨q2, rfl⟩)) e_k) rfl rfl (Nat.le_of_ble_eq_true rfl) dL_within_6 (fun q9 => ?_)
    refine v_astore C (lv' := [(6, .ref q9), (0, .ref a0), (1, .int a1), (2, .int a2), (3, .int a3), (4, .int a4)]) dL_within_14 (by decide) rfl ?_
    refine v_ldc C dL_within_16 cL_within_20 ?_
    obtain rfl := Option.some.inj h
    exact v_iretW C dL_within_18
  have h := ite_f q2 h
  cases h
set_option maxRecDepth 100000 in
set_option maxHeartbeats 4000000 in
theorem r_LX_wouldTouch {l : Launch} {G : GG} {A : Nat → Prop} {n : Nat} {w : Wd} {a0 : Nat} {a1 : Int32} {a2 : Int32} {a3 : Int32} {z1 : Int32 × Wd} (h : m_LX_wouldTouch n w a0 a1 a2 a3 = some z1) : Con l yL_wouldTouch wsL_wouldTouch { frames := 8, cells := 0, slots := 0, locals := 127 } G A [.ref a0, .int a1, .int a2, .int a3] w (some (.int z1.1)) z1.2 := by
  refine Con.ofH (own := RL) (cc := cL_wouldTouch) (maxL := 6) (ret := (some .int)) (hh := [(0, 9, 12, 15), (0, 9, 17, 18), (0, 9, 22, 21)]) rfl (by decide) rfl (Nat.le_of_ble_eq_true rfl) ?_
  intro p e s m args below meth c C
  show V p l e _ s m args below meth c G A 6 0 [(0, .ref a0), (1, .int a1), (2, .int a2), (3, .int a3)] [] w _ _
  unfold m_LX_wouldTouch at h
  obtain ⟨u, e_u, e_z⟩ := bnd h
  refine v_aload_n C 0 dL_wouldTouch_0 rfl rfl ?_
  refine v_iload_n C 1 dL_wouldTouch_1 rfl rfl ?_
  refine v_iload_n C 2 dL_wouldTouch_2 rfl rfl ?_
  refine v_iload_n C 3 dL_wouldTouch_3 rfl rfl ?_
  refine v_callVi C (ci := 5) (av := [.int a1, .int a2, .int a3]) (rest := []) rfl gL_wouldTouch_X6_wouldTouch rfl ⟨rfl, rfl⟩ hV_X6_wouldTouch ⟨(Nat.le_of_ble_eq_true rfl), (Nat.le_of_ble_eq_true rfl)⟩ e_u (r_X6_wouldTouch (A := A) e_z) rfl rfl (Nat.le_of_ble_eq_true rfl) dL_wouldTouch_4 ?_
  refine v_istore C (lv' := [(4, .int z1.1), (0, .ref a0), (1, .int a1), (2, .int a2), (3, .int a3)]) dL_wouldTouch_7 (by decide) rfl ?_
  refine v_goto C (tgt := 27) dL_wouldTouch_9 (by decide) ?_
  refine v_iload C 0 dL_wouldTouch_27 rfl ?_
  exact v_iret C dL_wouldTouch_29
theorem clL_wouldTouch_15 : Cond.classLink RL 15 eI ∈ wsL_wouldTouch := by decide +kernel
theorem clL_wouldTouch_18 : Cond.classLink RL 18 eA ∈ wsL_wouldTouch := by decide +kernel
theorem clL_wouldTouch_21 : Cond.classLink RL 21 eS ∈ wsL_wouldTouch := by decide +kernel
theorem cL_wouldTouch_17 : Cond.constant RL 17 (-5000003) ∈ wsL_wouldTouch := by decide +kernel
theorem cL_wouldTouch_20 : Cond.constant RL 20 (-5000001) ∈ wsL_wouldTouch := by decide +kernel
theorem cL_wouldTouch_23 : Cond.constant RL 23 (-5000002) ∈ wsL_wouldTouch := by decide +kernel
set_option maxRecDepth 100000 in
set_option maxHeartbeats 4000000 in
theorem r_L_wouldTouch {l : Launch} (hst : l.stackTraces = false) {G : GG} {A : Nat → Prop} {n : Nat} {w : Wd} {a0 : Nat} {a1 : Int32} {a2 : Int32} {a3 : Int32} {z : Int32 × Wd} (h : m_L_wouldTouch n w a0 a1 a2 a3 = some z) : WCon l yL_wouldTouch wsL_wouldTouch { frames := 8, cells := 1, slots := 6, locals := 127 } G A [.ref a0, .int a1, .int a2, .int a3] w (some (.int z.1)) z.2 := by
  refine WCon.of (own := RL) (cc := cL_wouldTouch) (maxL := 6) (ret := (some .int)) (hh := [(0, 9, 12, 15), (0, 9, 17, 18), (0, 9, 22, 21)]) rfl (by decide) rfl (Nat.le_of_ble_eq_true rfl) ?_
  intro p e s m args below meth c C hT
  show VQ p l e _ s m args below meth c G A 6 0 0 _ 0 [(0, .ref a0), (1, .int a1), (2, .int a2), (3, .int a3)] [] w
  unfold m_L_wouldTouch at h
  obtain ⟨u, e_u, h⟩ := bnd h
  obtain ⟨k, e_k, h⟩ := bnd h
  refine v_aload_n C 0 dL_wouldTouch_0 rfl rfl ?_
  refine v_iload_n C 1 dL_wouldTouch_1 rfl rfl ?_
  refine v_iload_n C 2 dL_wouldTouch_2 rfl rfl ?_
  refine v_iload_n C 3 dL_wouldTouch_3 rfl rfl ?_
  by_cases q0 : k = 0
  · have h := ite_t q0 h
    obtain ⟨z1, e_z, h⟩ := bnd h
    refine v_callVi C (ci := 5) (av := [.int a1, .int a2, .int a3]) (rest := []) rfl gL_wouldTouch_X6_wouldTouch rfl ⟨rfl, rfl⟩ hV_X6_wouldTouch ⟨(Nat.le_of_ble_eq_true rfl), (Nat.le_of_ble_eq_true rfl)⟩ e_u (r_X6_wouldTouch (A := A) e_z) rfl rfl (Nat.le_of_ble_eq_true rfl) dL_wouldTouch_4 ?_
    refine v_istore C (lv' := [(4, .int z1.1), (0, .ref a0), (1, .int a1), (2, .int a2), (3, .int a3)]) dL_wouldTouch_7 (by decide) rfl ?_
    refine v_goto C (tgt := 27) dL_wouldTouch_9 (by decide) ?_
    refine v_iload C 0 dL_wouldTouch_27 rfl ?_
    obtain rfl := Option.some.inj h
    refine v_widen (k1 := 1) (s1 := 6) (by decide) (by decide) ?_
    exact v_iretW C dL_wouldTouch_29
  have h := ite_f q0 h
  by_cases q1 : k = 1
  · have h := ite_t q1 h
    refine xw_callV C [] ⟨0, 9, 12, 15⟩ [⟨0, 9, 17, 18⟩, ⟨0, 9, 22, 21⟩] (by rw [hT]; rfl) (fun _ h => absurd h List.not_mem_nil) (by decide) (by decide) clL_wouldTouch_15 C.xe.2.1.1 (ci := 5) (av := [.int a1, .int a2, .int a3]) (rest := []) rfl gL_wouldTouch_X6_wouldTouch rfl ⟨rfl, rfl⟩ hV_X6_wouldTouch ⟨(Nat.le_of_ble_eq_true rfl), (Nat.le_of_ble_eq_true rfl)⟩ ⟨(Nat.le_of_ble_eq_true rfl), (Nat.le_of_ble_eq_true rfl)⟩ e_u (x_X6_wouldTouch hst (Or.inl ⟨q1, rfl⟩) e_k) rfl rfl (Nat.le_of_ble_eq_true rfl) dL_wouldTouch_4 (fun q9 => ?_)
    refine v_astore C (lv' := [(5, .ref q9), (0, .ref a0), (1, .int a1), (2, .int a2), (3, .int a3)]) dL_wouldTouch_12 (by decide) rfl ?_
    refine v_ldc C dL_wouldTouch_14 cL_wouldTouch_17 ?_
    obtain rfl := Option.some.inj h
    exact v_iretW C dL_wouldTouch_16
  have h := ite_f q1 h
  by_cases q2 : k = 2
  · have h := ite_t q2 h
    refine xw_callV C [⟨0, 9, 12, 15⟩] ⟨0, 9, 17, 18⟩ [⟨0, 9, 22, 21⟩] (by rw [hT]; rfl) (List.forall_mem_cons.mpr ⟨Or.inr ⟨by decide, eI, C.2.2.2.2.1 _ clL_wouldTouch_15, C.xe.2.2.1⟩, (fun _ h => absurd h List.not_mem_nil)⟩) (by decide) (by decide) clL_wouldTouch_18 C.xe.2.1.2.1 (ci := 5) (av := [.int a1, .int a2, .int a3]) (rest := []) rfl gL_wouldTouch_X6_wouldTouch rfl ⟨rfl, rfl⟩ hV_X6_wouldTouch ⟨(Nat.le_of_ble_eq_true rfl), (Nat.le_of_ble_eq_true rfl)⟩ ⟨(Nat.le_of_ble_eq_true rfl), (Nat.le_of_ble_eq_true rfl)⟩ e_u (x_X6_wouldTouch hst (Or.inr (Or.inl ⟨q2, rfl⟩)) e_k) rfl rfl (Nat.le_of_ble_eq_true rfl) dL_wouldTouch_4 (fun q9 => ?_)
    refine v_astore C (lv' := [(5, .ref q9), (0, .ref a0), (1, .int a1), (2, .int a2), (3, .int a3)]) dL_wouldTouch_17 (by decide) rfl ?_
    refine v_ldc C dL_wouldTouch_19 cL_wouldTouch_20 ?_
    obtain rfl := Option.some.inj h
    exact v_iretW C dL_wouldTouch_21
  have h := ite_f q2 h
  by_cases q3 : k = 3
  · have h := ite_t q3 h
    refine xw_callV C [⟨0, 9, 12, 15⟩, ⟨0, 9, 17, 18⟩] ⟨0, 9, 22, 21⟩ [] (by rw [hT]; rfl) (List.forall_mem_cons.mpr ⟨Or.inr ⟨by decide, eI, C.2.2.2.2.1 _ clL_wouldTouch_15, C.xe.2.2.2.1⟩, (List.forall_mem_cons.mpr ⟨Or.inr ⟨by decide, eA, C.2.2.2.2.1 _ clL_wouldTouch_18, C.xe.2.2.2.2⟩, (fun _ h => absurd h List.not_mem_nil)⟩)⟩) (by decide) (by decide) clL_wouldTouch_21 C.xe.2.1.2.2 (ci := 5) (av := [.int a1, .int a2, .int a3]) (rest := []) rfl gL_wouldTouch_X6_wouldTouch rfl ⟨rfl, rfl⟩ hV_X6_wouldTouch ⟨(Nat.le_of_ble_eq_true rfl), (Nat.le_of_ble_eq_true rfl)⟩ ⟨(Nat.le_of_ble_eq_true rfl), (Nat.le_of_ble_eq_true rfl)⟩ e_u (x_X6_wouldTouch hst (Or.inr (Or.inr ⟨q3, rfl⟩)) e_k) rfl rfl (Nat.le_of_ble_eq_true rfl) dL_wouldTouch_4 (fun q9 => ?_)
    refine v_astore C (lv' := [(5, .ref q9), (0, .ref a0), (1, .int a1), (2, .int a2), (3, .int a3)]) dL_wouldTouch_22 (by decide) rfl ?_
    refine v_ldc C dL_wouldTouch_24 cL_wouldTouch_23 ?_
    obtain rfl := Option.some.inj h
    exact v_iretW C dL_wouldTouch_26
  have h := ite_f q3 h
  cases h
