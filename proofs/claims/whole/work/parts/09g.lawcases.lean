theorem hS_L_add : yL_add.cls ≠ "java/lang/invoke/MethodHandle" ∧ yL_add.cls ≠ "java/lang/invoke/VarHandle" ∧ (parseMethodDescriptor yL_add.desc).map (fun d => d.parameters.length) = some 5 := by decide +kernel
theorem hS_L_move : yL_move.cls ≠ "java/lang/invoke/MethodHandle" ∧ yL_move.cls ≠ "java/lang/invoke/VarHandle" ∧ (parseMethodDescriptor yL_move.desc).map (fun d => d.parameters.length) = some 5 := by decide +kernel
theorem hS_L_remove : yL_remove.cls ≠ "java/lang/invoke/MethodHandle" ∧ yL_remove.cls ≠ "java/lang/invoke/VarHandle" ∧ (parseMethodDescriptor yL_remove.desc).map (fun d => d.parameters.length) = some 3 := by decide +kernel
theorem hS_L_setVelocity : yL_setVelocity.cls ≠ "java/lang/invoke/MethodHandle" ∧ yL_setVelocity.cls ≠ "java/lang/invoke/VarHandle" ∧ (parseMethodDescriptor yL_setVelocity.desc).map (fun d => d.parameters.length) = some 5 := by decide +kernel
theorem hS_L_tick : yL_tick.cls ≠ "java/lang/invoke/MethodHandle" ∧ yL_tick.cls ≠ "java/lang/invoke/VarHandle" ∧ (parseMethodDescriptor yL_tick.desc).map (fun d => d.parameters.length) = some 3 := by decide +kernel
theorem hS_L_scatter : yL_scatter.cls ≠ "java/lang/invoke/MethodHandle" ∧ yL_scatter.cls ≠ "java/lang/invoke/VarHandle" ∧ (parseMethodDescriptor yL_scatter.desc).map (fun d => d.parameters.length) = some 6 := by decide +kernel
theorem hS_L_point : yL_point.cls ≠ "java/lang/invoke/MethodHandle" ∧ yL_point.cls ≠ "java/lang/invoke/VarHandle" ∧ (parseMethodDescriptor yL_point.desc).map (fun d => d.parameters.length) = some 4 := by decide +kernel
theorem hS_L_level : yL_level.cls ≠ "java/lang/invoke/MethodHandle" ∧ yL_level.cls ≠ "java/lang/invoke/VarHandle" ∧ (parseMethodDescriptor yL_level.desc).map (fun d => d.parameters.length) = some 4 := by decide +kernel
theorem hS_L_node : yL_node.cls ≠ "java/lang/invoke/MethodHandle" ∧ yL_node.cls ≠ "java/lang/invoke/VarHandle" ∧ (parseMethodDescriptor yL_node.desc).map (fun d => d.parameters.length) = some 5 := by decide +kernel
theorem hS_L_child : yL_child.cls ≠ "java/lang/invoke/MethodHandle" ∧ yL_child.cls ≠ "java/lang/invoke/VarHandle" ∧ (parseMethodDescriptor yL_child.desc).map (fun d => d.parameters.length) = some 5 := by decide +kernel
theorem hS_L_search : yL_search.cls ≠ "java/lang/invoke/MethodHandle" ∧ yL_search.cls ≠ "java/lang/invoke/VarHandle" ∧ (parseMethodDescriptor yL_search.desc).map (fun d => d.parameters.length) = some 6 := by decide +kernel
theorem hS_L_wouldTouch : yL_wouldTouch.cls ≠ "java/lang/invoke/MethodHandle" ∧ yL_wouldTouch.cls ≠ "java/lang/invoke/VarHandle" ∧ (parseMethodDescriptor yL_wouldTouch.desc).map (fun d => d.parameters.length) = some 5 := by decide +kernel
theorem hS_L_open : yL_open.cls ≠ "java/lang/invoke/MethodHandle" ∧ yL_open.cls ≠ "java/lang/invoke/VarHandle" ∧ (parseMethodDescriptor yL_open.desc).map (fun d => d.parameters.length) = some 5 := by decide +kernel
theorem hS_L_next : yL_next.cls ≠ "java/lang/invoke/MethodHandle" ∧ yL_next.cls ≠ "java/lang/invoke/VarHandle" ∧ (parseMethodDescriptor yL_next.desc).map (fun d => d.parameters.length) = some 3 := by decide +kernel
theorem hS_L_cursor : yL_cursor.cls ≠ "java/lang/invoke/MethodHandle" ∧ yL_cursor.cls ≠ "java/lang/invoke/VarHandle" ∧ (parseMethodDescriptor yL_cursor.desc).map (fun d => d.parameters.length) = some 4 := by decide +kernel
theorem hS_L_nearest : yL_nearest.cls ≠ "java/lang/invoke/MethodHandle" ∧ yL_nearest.cls ≠ "java/lang/invoke/VarHandle" ∧ (parseMethodDescriptor yL_nearest.desc).map (fun d => d.parameters.length) = some 5 := by decide +kernel
theorem hS_L_within : yL_within.cls ≠ "java/lang/invoke/MethodHandle" ∧ yL_within.cls ≠ "java/lang/invoke/VarHandle" ∧ (parseMethodDescriptor yL_within.desc).map (fun d => d.parameters.length) = some 6 := by decide +kernel
theorem hS_L_closest : yL_closest.cls ≠ "java/lang/invoke/MethodHandle" ∧ yL_closest.cls ≠ "java/lang/invoke/VarHandle" ∧ (parseMethodDescriptor yL_closest.desc).map (fun d => d.parameters.length) = some 3 := by decide +kernel
theorem hS_L_type : yL_type.cls ≠ "java/lang/invoke/MethodHandle" ∧ yL_type.cls ≠ "java/lang/invoke/VarHandle" ∧ (parseMethodDescriptor yL_type.desc).map (fun d => d.parameters.length) = some 3 := by decide +kernel
theorem hS_L_undo : yL_undo.cls ≠ "java/lang/invoke/MethodHandle" ∧ yL_undo.cls ≠ "java/lang/invoke/VarHandle" ∧ (parseMethodDescriptor yL_undo.desc).map (fun d => d.parameters.length) = some 2 := by decide +kernel
theorem hV_X6_clearScript : yX6_clearScript.cls = RX6 ∧ yX6_clearScript.cls ≠ "java/lang/invoke/MethodHandle" ∧ yX6_clearScript.cls ≠ "java/lang/invoke/VarHandle" ∧ (parseMethodDescriptor yX6_clearScript.desc).map (fun d => d.parameters.length) = some 0 := by decide +kernel
theorem hV_X6_digest : yX6_digest.cls = RX6 ∧ yX6_digest.cls ≠ "java/lang/invoke/MethodHandle" ∧ yX6_digest.cls ≠ "java/lang/invoke/VarHandle" ∧ (parseMethodDescriptor yX6_digest.desc).map (fun d => d.parameters.length) = some 0 := by decide +kernel
theorem hV_X6_run : yX6_run.cls = RX6 ∧ yX6_run.cls ≠ "java/lang/invoke/MethodHandle" ∧ yX6_run.cls ≠ "java/lang/invoke/VarHandle" ∧ (parseMethodDescriptor yX6_run.desc).map (fun d => d.parameters.length) = some 0 := by decide +kernel
theorem hV_X7_add : yX7_add.cls = RX7 ∧ yX7_add.cls ≠ "java/lang/invoke/MethodHandle" ∧ yX7_add.cls ≠ "java/lang/invoke/VarHandle" ∧ (parseMethodDescriptor yX7_add.desc).map (fun d => d.parameters.length) = some 3 := by decide +kernel
theorem hV_X7_child : yX7_child.cls = RX7 ∧ yX7_child.cls ≠ "java/lang/invoke/MethodHandle" ∧ yX7_child.cls ≠ "java/lang/invoke/VarHandle" ∧ (parseMethodDescriptor yX7_child.desc).map (fun d => d.parameters.length) = some 3 := by decide +kernel
theorem hV_X7_clearScript : yX7_clearScript.cls = RX7 ∧ yX7_clearScript.cls ≠ "java/lang/invoke/MethodHandle" ∧ yX7_clearScript.cls ≠ "java/lang/invoke/VarHandle" ∧ (parseMethodDescriptor yX7_clearScript.desc).map (fun d => d.parameters.length) = some 0 := by decide +kernel
theorem hV_X7_closest : yX7_closest.cls = RX7 ∧ yX7_closest.cls ≠ "java/lang/invoke/MethodHandle" ∧ yX7_closest.cls ≠ "java/lang/invoke/VarHandle" ∧ (parseMethodDescriptor yX7_closest.desc).map (fun d => d.parameters.length) = some 1 := by decide +kernel
theorem hV_X7_cursor : yX7_cursor.cls = RX7 ∧ yX7_cursor.cls ≠ "java/lang/invoke/MethodHandle" ∧ yX7_cursor.cls ≠ "java/lang/invoke/VarHandle" ∧ (parseMethodDescriptor yX7_cursor.desc).map (fun d => d.parameters.length) = some 2 := by decide +kernel
theorem hV_X7_digest : yX7_digest.cls = RX7 ∧ yX7_digest.cls ≠ "java/lang/invoke/MethodHandle" ∧ yX7_digest.cls ≠ "java/lang/invoke/VarHandle" ∧ (parseMethodDescriptor yX7_digest.desc).map (fun d => d.parameters.length) = some 0 := by decide +kernel
theorem hV_X7_level : yX7_level.cls = RX7 ∧ yX7_level.cls ≠ "java/lang/invoke/MethodHandle" ∧ yX7_level.cls ≠ "java/lang/invoke/VarHandle" ∧ (parseMethodDescriptor yX7_level.desc).map (fun d => d.parameters.length) = some 2 := by decide +kernel
theorem hV_X7_move : yX7_move.cls = RX7 ∧ yX7_move.cls ≠ "java/lang/invoke/MethodHandle" ∧ yX7_move.cls ≠ "java/lang/invoke/VarHandle" ∧ (parseMethodDescriptor yX7_move.desc).map (fun d => d.parameters.length) = some 3 := by decide +kernel
theorem hV_X7_nearest : yX7_nearest.cls = RX7 ∧ yX7_nearest.cls ≠ "java/lang/invoke/MethodHandle" ∧ yX7_nearest.cls ≠ "java/lang/invoke/VarHandle" ∧ (parseMethodDescriptor yX7_nearest.desc).map (fun d => d.parameters.length) = some 3 := by decide +kernel
theorem hV_X7_next : yX7_next.cls = RX7 ∧ yX7_next.cls ≠ "java/lang/invoke/MethodHandle" ∧ yX7_next.cls ≠ "java/lang/invoke/VarHandle" ∧ (parseMethodDescriptor yX7_next.desc).map (fun d => d.parameters.length) = some 1 := by decide +kernel
theorem hV_X7_node : yX7_node.cls = RX7 ∧ yX7_node.cls ≠ "java/lang/invoke/MethodHandle" ∧ yX7_node.cls ≠ "java/lang/invoke/VarHandle" ∧ (parseMethodDescriptor yX7_node.desc).map (fun d => d.parameters.length) = some 3 := by decide +kernel
theorem hV_X7_open : yX7_open.cls = RX7 ∧ yX7_open.cls ≠ "java/lang/invoke/MethodHandle" ∧ yX7_open.cls ≠ "java/lang/invoke/VarHandle" ∧ (parseMethodDescriptor yX7_open.desc).map (fun d => d.parameters.length) = some 3 := by decide +kernel
theorem hV_X7_point : yX7_point.cls = RX7 ∧ yX7_point.cls ≠ "java/lang/invoke/MethodHandle" ∧ yX7_point.cls ≠ "java/lang/invoke/VarHandle" ∧ (parseMethodDescriptor yX7_point.desc).map (fun d => d.parameters.length) = some 2 := by decide +kernel
theorem hV_X7_remove : yX7_remove.cls = RX7 ∧ yX7_remove.cls ≠ "java/lang/invoke/MethodHandle" ∧ yX7_remove.cls ≠ "java/lang/invoke/VarHandle" ∧ (parseMethodDescriptor yX7_remove.desc).map (fun d => d.parameters.length) = some 1 := by decide +kernel
theorem hV_X7_run : yX7_run.cls = RX7 ∧ yX7_run.cls ≠ "java/lang/invoke/MethodHandle" ∧ yX7_run.cls ≠ "java/lang/invoke/VarHandle" ∧ (parseMethodDescriptor yX7_run.desc).map (fun d => d.parameters.length) = some 0 := by decide +kernel
theorem hV_X7_scatter : yX7_scatter.cls = RX7 ∧ yX7_scatter.cls ≠ "java/lang/invoke/MethodHandle" ∧ yX7_scatter.cls ≠ "java/lang/invoke/VarHandle" ∧ (parseMethodDescriptor yX7_scatter.desc).map (fun d => d.parameters.length) = some 4 := by decide +kernel
theorem hV_X7_search : yX7_search.cls = RX7 ∧ yX7_search.cls ≠ "java/lang/invoke/MethodHandle" ∧ yX7_search.cls ≠ "java/lang/invoke/VarHandle" ∧ (parseMethodDescriptor yX7_search.desc).map (fun d => d.parameters.length) = some 4 := by decide +kernel
theorem hV_X7_setVelocity : yX7_setVelocity.cls = RX7 ∧ yX7_setVelocity.cls ≠ "java/lang/invoke/MethodHandle" ∧ yX7_setVelocity.cls ≠ "java/lang/invoke/VarHandle" ∧ (parseMethodDescriptor yX7_setVelocity.desc).map (fun d => d.parameters.length) = some 3 := by decide +kernel
theorem hV_X7_thrown : yX7_thrown.cls = RX7 ∧ yX7_thrown.cls ≠ "java/lang/invoke/MethodHandle" ∧ yX7_thrown.cls ≠ "java/lang/invoke/VarHandle" ∧ (parseMethodDescriptor yX7_thrown.desc).map (fun d => d.parameters.length) = some 0 := by decide +kernel
theorem hV_X7_tick : yX7_tick.cls = RX7 ∧ yX7_tick.cls ≠ "java/lang/invoke/MethodHandle" ∧ yX7_tick.cls ≠ "java/lang/invoke/VarHandle" ∧ (parseMethodDescriptor yX7_tick.desc).map (fun d => d.parameters.length) = some 1 := by decide +kernel
theorem hV_X7_time : yX7_time.cls = RX7 ∧ yX7_time.cls ≠ "java/lang/invoke/MethodHandle" ∧ yX7_time.cls ≠ "java/lang/invoke/VarHandle" ∧ (parseMethodDescriptor yX7_time.desc).map (fun d => d.parameters.length) = some 0 := by decide +kernel
theorem hV_X7_type : yX7_type.cls = RX7 ∧ yX7_type.cls ≠ "java/lang/invoke/MethodHandle" ∧ yX7_type.cls ≠ "java/lang/invoke/VarHandle" ∧ (parseMethodDescriptor yX7_type.desc).map (fun d => d.parameters.length) = some 1 := by decide +kernel
theorem hV_X7_undo : yX7_undo.cls = RX7 ∧ yX7_undo.cls ≠ "java/lang/invoke/MethodHandle" ∧ yX7_undo.cls ≠ "java/lang/invoke/VarHandle" ∧ (parseMethodDescriptor yX7_undo.desc).map (fun d => d.parameters.length) = some 0 := by decide +kernel
theorem hV_X7_within : yX7_within.cls = RX7 ∧ yX7_within.cls ≠ "java/lang/invoke/MethodHandle" ∧ yX7_within.cls ≠ "java/lang/invoke/VarHandle" ∧ (parseMethodDescriptor yX7_within.desc).map (fun d => d.parameters.length) = some 4 := by decide +kernel
theorem hV_X7_worst : yX7_worst.cls = RX7 ∧ yX7_worst.cls ≠ "java/lang/invoke/MethodHandle" ∧ yX7_worst.cls ≠ "java/lang/invoke/VarHandle" ∧ (parseMethodDescriptor yX7_worst.desc).map (fun d => d.parameters.length) = some 1 := by decide +kernel
theorem hV_X7_wouldTouch : yX7_wouldTouch.cls = RX7 ∧ yX7_wouldTouch.cls ≠ "java/lang/invoke/MethodHandle" ∧ yX7_wouldTouch.cls ≠ "java/lang/invoke/VarHandle" ∧ (parseMethodDescriptor yX7_wouldTouch.desc).map (fun d => d.parameters.length) = some 3 := by decide +kernel
set_option maxRecDepth 100000 in
set_option maxHeartbeats 4000000 in
theorem t_case0 {p : Program} {l : Launch} (hst : l.stackTraces = false) {e : Env} {s : State} {m : MethodId} {args : Array Value} {below : List Frame} {meth : Method} {c : Code} {G : GG} {A : Nat → Prop} (C : Cx p s m args meth c G A cL_law 7 RL wsL_law ret) {b L : Nat} {xs : Nat → Int32} (hX : va_X b L xs s s.heap) (hbl : b < s.heap.size) (hbA : ¬ A b) {i : Int32} (h0 : vp_in i L) (h1 : vp_in (i + 1) L) (h2 : vp_in (i + 2) L) (h3 : vp_in (i + 3) L) (h4 : vp_in (i + 4) L) {n kc ks : Nat} {Q : State → Prop} (hk0 : kc ≤ room_1.cells ∧ ks ≤ room_1.slots) (hk1 : kc + 1 ≤ room_1.cells ∧ ks + 6 ≤ room_1.slots) {w w' : Wd} {x mo ou : Nat} (h : mc_0 G.2.2.1 n w x mo ou xs i = some w')
    (kk : VQ p l e room_1 s m args below meth c G A 7 (kc + 1) (ks + 6) Q 1706 [(0, .ref b), (1, .ref x), (2, .ref mo), (3, .ref ou), (4, .int i)] [] w') : VQ p l e room_1 s m args below meth c G A 7 kc ks Q 152 [(0, .ref b), (1, .ref x), (2, .ref mo), (3, .ref ou), (4, .int i)] [] w := by
  unfold mc_0 at h
  refine v_aload_n C 1 dL_law_152 rfl rfl ?_
  refine v_aload_n C 0 dL_law_153 rfl rfl ?_
  refine v_iload C 4 dL_law_154 rfl ?_
  refine v_iconst C (v := 1) dL_law_156 (by decide) ?_
  refine v_iadd C dL_law_157 ?_
  refine v_sld C hX hbl hbA h1 dL_law_158 ?_
  refine v_aload_n C 0 dL_law_159 rfl rfl ?_
  refine v_at (pc' := 160) rfl ?_
  refine v_iload C 4 dL_law_160 rfl ?_
  refine v_iconst C (v := 2) dL_law_162 (by decide) ?_
  refine v_iadd C dL_law_163 ?_
  refine v_sld C hX hbl hbA h2 dL_law_164 ?_
  refine v_aload_n C 0 dL_law_165 rfl rfl ?_
  refine v_iload C 4 dL_law_166 rfl ?_
  refine v_iconst C (v := 3) dL_law_168 (by decide) ?_
  refine v_iadd C dL_law_169 ?_
  refine v_at (pc' := 170) rfl ?_
  refine v_sld C hX hbl hbA h3 dL_law_170 ?_
  refine v_aload_n C 3 dL_law_171 rfl rfl ?_
  obtain ⟨z1, e_z1, h⟩ := bnd h
  refine v_callSW C (av := [.ref x, .int (xs (Int32.toNatClampNeg (i + 1))), .int (xs (Int32.toNatClampNeg (i + 2))), .int (xs (Int32.toNatClampNeg (i + 3))), .ref ou]) (rest := []) gL_law_L_add rfl ⟨rfl, rfl⟩ hS_L_add ⟨(Nat.le_of_ble_eq_true rfl), (Nat.le_of_ble_eq_true rfl)⟩ (r_L_add (A := A) hst e_z1) rfl rfl (Nat.le_of_ble_eq_true rfl) dL_law_172 hk1 ?_
  refine v_istore C (lv' := [(5, .int z1.1), (0, .ref b), (1, .ref x), (2, .ref mo), (3, .ref ou), (4, .int i)]) dL_law_175 (by decide) rfl ?_
  refine v_aload_n C 3 dL_law_177 rfl rfl ?_
  refine v_aload_n C 1 dL_law_178 rfl rfl ?_
  refine v_iload C 5 dL_law_179 rfl ?_
  refine v_iconst C (v := 1) dL_law_181 (by decide) ?_
  refine v_at (pc' := 182) rfl ?_
  refine v_iadd C dL_law_182 ?_
  refine v_sld C hX hbl hbA h1 dL_law_183 ?_
  refine v_aload_n C 1 dL_law_184 rfl rfl ?_
  refine v_iload C 5 dL_law_185 rfl ?_
  refine v_iconst C (v := 2) dL_law_187 (by decide) ?_
  refine v_iadd C dL_law_188 ?_
  refine v_sld C hX hbl hbA h2 dL_law_189 ?_
  refine v_aload_n C 1 dL_law_190 rfl rfl ?_
  refine v_at (pc' := 191) rfl ?_
  refine v_iload C 5 dL_law_191 rfl ?_
  refine v_iconst C (v := 3) dL_law_193 (by decide) ?_
  refine v_iadd C dL_law_194 ?_
  refine v_sld C hX hbl hbA h3 dL_law_195 ?_
  obtain ⟨u2, e_u2, h⟩ := bnd h
  obtain ⟨z3, e_z3, h⟩ := bnd h
  refine v_callVi C (ci := 6) (av := [.int (xs (Int32.toNatClampNeg (i + 1))), .int (xs (Int32.toNatClampNeg (i + 2))), .int (xs (Int32.toNatClampNeg (i + 3)))]) (rest := []) rfl gL_law_X7_add rfl ⟨rfl, rfl⟩ hV_X7_add ⟨(Nat.le_of_ble_eq_true rfl), (Nat.le_of_ble_eq_true rfl)⟩ e_u2 (r_X7_add (A := A) e_z3) rfl rfl (Nat.le_of_ble_eq_true rfl) dL_law_196 (hk := hk1) ?_
  refine v_istore C (lv' := [(6, .int z3.1), (5, .int z1.1), (0, .ref b), (1, .ref x), (2, .ref mo), (3, .ref ou), (4, .int i)]) dL_law_199 (by decide) rfl ?_
  refine v_aload_n C 4 dL_law_201 rfl rfl ?_
  obtain ⟨u4, e_u4, h⟩ := bnd h
  obtain ⟨x5, e_x5, h⟩ := bnd h
  refine v_callVi C (ci := 6) (av := []) (rest := []) rfl gL_law_X7_thrown rfl ⟨rfl, rfl⟩ hV_X7_thrown ⟨(Nat.le_of_ble_eq_true rfl), (Nat.le_of_ble_eq_true rfl)⟩ e_u4 (r_X7_thrown (A := A) e_x5) rfl rfl (Nat.le_of_ble_eq_true rfl) dL_law_202 (hk := hk1) ?_
  refine v_at (pc' := 205) rfl ?_
  refine v_iload C 1 dL_law_205 rfl ?_
  refine v_icmp_eq C (tgt := 212) dL_law_207 (by decide) (fun q => ?_) (fun q => ?_)
  · have h := ite_t q h
    refine v_iload C 1 dL_law_212 rfl ?_
    refine v_if_ne C (tgt := 229) dL_law_214 (by decide) (fun q => ?_) (fun q => ?_)
    · have h := ite_f q h
      refine v_goto C (tgt := 1706) dL_law_229 (by decide) ?_
      obtain rfl := Option.some.inj h
      refine v_sub [2, 3, 4, 5, 6] rfl ?_
      exact kk
    · have h := ite_t q h
      refine v_aload_n C 5 dL_law_217 rfl rfl ?_
      refine v_iconst C (v := 0) dL_law_218 (by decide) ?_
      obtain ⟨x6, e_x6, h⟩ := bnd h
      refine v_lald C dL_law_219 e_x6 ?_
      refine v_iload C 0 dL_law_220 rfl ?_
      refine v_i2l C dL_law_222 ?_
      refine v_lcmp C dL_law_223 ?_
      refine v_if_eq C (tgt := 229) dL_law_224 (by decide) (fun q => ?_) (fun q => ?_)
      · have h := ite_t q h
        refine v_goto C (tgt := 1706) dL_law_229 (by decide) ?_
        obtain rfl := Option.some.inj h
        refine v_sub [2, 3, 4, 5, 6] rfl ?_
        exact kk
      · have h := ite_f q h
        refine v_iconst C (v := 0) dL_law_227 (by decide) ?_
        cases h
  · have h := ite_f q h
    refine v_iconst C (v := 0) dL_law_210 (by decide) ?_
    cases h
set_option maxRecDepth 100000 in
set_option maxHeartbeats 4000000 in
theorem t_case1 {p : Program} {l : Launch} (hst : l.stackTraces = false) {e : Env} {s : State} {m : MethodId} {args : Array Value} {below : List Frame} {meth : Method} {c : Code} {G : GG} {A : Nat → Prop} (C : Cx p s m args meth c G A cL_law 7 RL wsL_law ret) {b L : Nat} {xs : Nat → Int32} (hX : va_X b L xs s s.heap) (hbl : b < s.heap.size) (hbA : ¬ A b) {i : Int32} (h0 : vp_in i L) (h1 : vp_in (i + 1) L) (h2 : vp_in (i + 2) L) (h3 : vp_in (i + 3) L) (h4 : vp_in (i + 4) L) {n kc ks : Nat} {Q : State → Prop} (hk0 : kc ≤ room_1.cells ∧ ks ≤ room_1.slots) (hk1 : kc + 1 ≤ room_1.cells ∧ ks + 6 ≤ room_1.slots) {w w' : Wd} {x mo ou : Nat} (h : mc_1 G.2.2.1 n w x mo ou xs i = some w')
    (kk : VQ p l e room_1 s m args below meth c G A 7 (kc + 1) (ks + 6) Q 1706 [(0, .ref b), (1, .ref x), (2, .ref mo), (3, .ref ou), (4, .int i)] [] w') : VQ p l e room_1 s m args below meth c G A 7 kc ks Q 232 [(0, .ref b), (1, .ref x), (2, .ref mo), (3, .ref ou), (4, .int i)] [] w := by
  unfold mc_1 at h
  refine v_aload_n C 1 dL_law_232 rfl rfl ?_
  refine v_aload_n C 0 dL_law_233 rfl rfl ?_
  refine v_iload C 4 dL_law_234 rfl ?_
  refine v_iconst C (v := 1) dL_law_236 (by decide) ?_
  refine v_iadd C dL_law_237 ?_
  refine v_sld C hX hbl hbA h1 dL_law_238 ?_
  refine v_aload_n C 0 dL_law_239 rfl rfl ?_
  refine v_at (pc' := 240) rfl ?_
  refine v_iload C 4 dL_law_240 rfl ?_
  refine v_iconst C (v := 2) dL_law_242 (by decide) ?_
  refine v_iadd C dL_law_243 ?_
  refine v_sld C hX hbl hbA h2 dL_law_244 ?_
  refine v_aload_n C 0 dL_law_245 rfl rfl ?_
  refine v_iload C 4 dL_law_246 rfl ?_
  refine v_iconst C (v := 3) dL_law_248 (by decide) ?_
  refine v_iadd C dL_law_249 ?_
  refine v_at (pc' := 250) rfl ?_
  refine v_sld C hX hbl hbA h3 dL_law_250 ?_
  refine v_aload_n C 3 dL_law_251 rfl rfl ?_
  obtain ⟨z1, e_z1, h⟩ := bnd h
  refine v_callSW C (av := [.ref x, .int (xs (Int32.toNatClampNeg (i + 1))), .int (xs (Int32.toNatClampNeg (i + 2))), .int (xs (Int32.toNatClampNeg (i + 3))), .ref ou]) (rest := []) gL_law_L_move rfl ⟨rfl, rfl⟩ hS_L_move ⟨(Nat.le_of_ble_eq_true rfl), (Nat.le_of_ble_eq_true rfl)⟩ (r_L_move (A := A) hst e_z1) rfl rfl (Nat.le_of_ble_eq_true rfl) dL_law_252 hk1 ?_
  refine v_istore C (lv' := [(5, .int z1.1), (0, .ref b), (1, .ref x), (2, .ref mo), (3, .ref ou), (4, .int i)]) dL_law_255 (by decide) rfl ?_
  refine v_aload_n C 3 dL_law_257 rfl rfl ?_
  refine v_aload_n C 1 dL_law_258 rfl rfl ?_
  refine v_iload C 5 dL_law_259 rfl ?_
  refine v_iconst C (v := 1) dL_law_261 (by decide) ?_
  refine v_at (pc' := 262) rfl ?_
  refine v_iadd C dL_law_262 ?_
  refine v_sld C hX hbl hbA h1 dL_law_263 ?_
  refine v_aload_n C 1 dL_law_264 rfl rfl ?_
  refine v_iload C 5 dL_law_265 rfl ?_
  refine v_iconst C (v := 2) dL_law_267 (by decide) ?_
  refine v_iadd C dL_law_268 ?_
  refine v_sld C hX hbl hbA h2 dL_law_269 ?_
  refine v_aload_n C 1 dL_law_270 rfl rfl ?_
  refine v_at (pc' := 271) rfl ?_
  refine v_iload C 5 dL_law_271 rfl ?_
  refine v_iconst C (v := 3) dL_law_273 (by decide) ?_
  refine v_iadd C dL_law_274 ?_
  refine v_sld C hX hbl hbA h3 dL_law_275 ?_
  obtain ⟨u2, e_u2, h⟩ := bnd h
  obtain ⟨z3, e_z3, h⟩ := bnd h
  refine v_callVi C (ci := 6) (av := [.int (xs (Int32.toNatClampNeg (i + 1))), .int (xs (Int32.toNatClampNeg (i + 2))), .int (xs (Int32.toNatClampNeg (i + 3)))]) (rest := []) rfl gL_law_X7_move rfl ⟨rfl, rfl⟩ hV_X7_move ⟨(Nat.le_of_ble_eq_true rfl), (Nat.le_of_ble_eq_true rfl)⟩ e_u2 (r_X7_move (A := A) e_z3) rfl rfl (Nat.le_of_ble_eq_true rfl) dL_law_276 (hk := hk1) ?_
  refine v_istore C (lv' := [(6, .int z3.1), (5, .int z1.1), (0, .ref b), (1, .ref x), (2, .ref mo), (3, .ref ou), (4, .int i)]) dL_law_279 (by decide) rfl ?_
  refine v_aload_n C 4 dL_law_281 rfl rfl ?_
  obtain ⟨u4, e_u4, h⟩ := bnd h
  obtain ⟨x5, e_x5, h⟩ := bnd h
  refine v_callVi C (ci := 6) (av := []) (rest := []) rfl gL_law_X7_thrown rfl ⟨rfl, rfl⟩ hV_X7_thrown ⟨(Nat.le_of_ble_eq_true rfl), (Nat.le_of_ble_eq_true rfl)⟩ e_u4 (r_X7_thrown (A := A) e_x5) rfl rfl (Nat.le_of_ble_eq_true rfl) dL_law_282 (hk := hk1) ?_
  refine v_at (pc' := 285) rfl ?_
  refine v_iload C 1 dL_law_285 rfl ?_
  refine v_icmp_eq C (tgt := 292) dL_law_287 (by decide) (fun q => ?_) (fun q => ?_)
  · have h := ite_t q h
    refine v_iload C 1 dL_law_292 rfl ?_
    refine v_if_ne C (tgt := 309) dL_law_294 (by decide) (fun q => ?_) (fun q => ?_)
    · have h := ite_f q h
      refine v_goto C (tgt := 1706) dL_law_309 (by decide) ?_
      obtain rfl := Option.some.inj h
      refine v_sub [2, 3, 4, 5, 6] rfl ?_
      exact kk
    · have h := ite_t q h
      refine v_aload_n C 5 dL_law_297 rfl rfl ?_
      refine v_iconst C (v := 0) dL_law_298 (by decide) ?_
      obtain ⟨x6, e_x6, h⟩ := bnd h
      refine v_lald C dL_law_299 e_x6 ?_
      refine v_iload C 0 dL_law_300 rfl ?_
      refine v_i2l C dL_law_302 ?_
      refine v_lcmp C dL_law_303 ?_
      refine v_if_eq C (tgt := 309) dL_law_304 (by decide) (fun q => ?_) (fun q => ?_)
      · have h := ite_t q h
        refine v_goto C (tgt := 1706) dL_law_309 (by decide) ?_
        obtain rfl := Option.some.inj h
        refine v_sub [2, 3, 4, 5, 6] rfl ?_
        exact kk
      · have h := ite_f q h
        refine v_iconst C (v := 0) dL_law_307 (by decide) ?_
        cases h
  · have h := ite_f q h
    refine v_iconst C (v := 0) dL_law_290 (by decide) ?_
    cases h
set_option maxRecDepth 100000 in
set_option maxHeartbeats 4000000 in
theorem t_case2 {p : Program} {l : Launch} (hst : l.stackTraces = false) {e : Env} {s : State} {m : MethodId} {args : Array Value} {below : List Frame} {meth : Method} {c : Code} {G : GG} {A : Nat → Prop} (C : Cx p s m args meth c G A cL_law 7 RL wsL_law ret) {b L : Nat} {xs : Nat → Int32} (hX : va_X b L xs s s.heap) (hbl : b < s.heap.size) (hbA : ¬ A b) {i : Int32} (h0 : vp_in i L) (h1 : vp_in (i + 1) L) (h2 : vp_in (i + 2) L) (h3 : vp_in (i + 3) L) (h4 : vp_in (i + 4) L) {n kc ks : Nat} {Q : State → Prop} (hk0 : kc ≤ room_1.cells ∧ ks ≤ room_1.slots) (hk1 : kc + 1 ≤ room_1.cells ∧ ks + 6 ≤ room_1.slots) {w w' : Wd} {x mo ou : Nat} (h : mc_2 G.2.2.1 n w x mo ou xs i = some w')
    (kk : VQ p l e room_1 s m args below meth c G A 7 (kc + 1) (ks + 6) Q 1706 [(0, .ref b), (1, .ref x), (2, .ref mo), (3, .ref ou), (4, .int i)] [] w') : VQ p l e room_1 s m args below meth c G A 7 kc ks Q 312 [(0, .ref b), (1, .ref x), (2, .ref mo), (3, .ref ou), (4, .int i)] [] w := by
  unfold mc_2 at h
  refine v_aload_n C 1 dL_law_312 rfl rfl ?_
  refine v_aload_n C 0 dL_law_313 rfl rfl ?_
  refine v_iload C 4 dL_law_314 rfl ?_
  refine v_iconst C (v := 1) dL_law_316 (by decide) ?_
  refine v_iadd C dL_law_317 ?_
  refine v_sld C hX hbl hbA h1 dL_law_318 ?_
  refine v_aload_n C 3 dL_law_319 rfl rfl ?_
  refine v_at (pc' := 320) rfl ?_
  obtain ⟨z1, e_z1, h⟩ := bnd h
  refine v_callSW C (av := [.ref x, .int (xs (Int32.toNatClampNeg (i + 1))), .ref ou]) (rest := []) gL_law_L_remove rfl ⟨rfl, rfl⟩ hS_L_remove ⟨(Nat.le_of_ble_eq_true rfl), (Nat.le_of_ble_eq_true rfl)⟩ (r_L_remove (A := A) hst e_z1) rfl rfl (Nat.le_of_ble_eq_true rfl) dL_law_320 hk1 ?_
  refine v_istore C (lv' := [(5, .int z1.1), (0, .ref b), (1, .ref x), (2, .ref mo), (3, .ref ou), (4, .int i)]) dL_law_323 (by decide) rfl ?_
  refine v_aload_n C 3 dL_law_325 rfl rfl ?_
  refine v_aload_n C 1 dL_law_326 rfl rfl ?_
  refine v_iload C 5 dL_law_327 rfl ?_
  refine v_iconst C (v := 1) dL_law_329 (by decide) ?_
  refine v_iadd C dL_law_330 ?_
  refine v_sld C hX hbl hbA h1 dL_law_331 ?_
  refine v_at (pc' := 332) rfl ?_
  obtain ⟨u2, e_u2, h⟩ := bnd h
  obtain ⟨z3, e_z3, h⟩ := bnd h
  refine v_callVi C (ci := 6) (av := [.int (xs (Int32.toNatClampNeg (i + 1)))]) (rest := []) rfl gL_law_X7_remove rfl ⟨rfl, rfl⟩ hV_X7_remove ⟨(Nat.le_of_ble_eq_true rfl), (Nat.le_of_ble_eq_true rfl)⟩ e_u2 (r_X7_remove (A := A) e_z3) rfl rfl (Nat.le_of_ble_eq_true rfl) dL_law_332 (hk := hk1) ?_
  refine v_istore C (lv' := [(6, .int z3.1), (5, .int z1.1), (0, .ref b), (1, .ref x), (2, .ref mo), (3, .ref ou), (4, .int i)]) dL_law_335 (by decide) rfl ?_
  refine v_aload_n C 4 dL_law_337 rfl rfl ?_
  obtain ⟨u4, e_u4, h⟩ := bnd h
  obtain ⟨x5, e_x5, h⟩ := bnd h
  refine v_callVi C (ci := 6) (av := []) (rest := []) rfl gL_law_X7_thrown rfl ⟨rfl, rfl⟩ hV_X7_thrown ⟨(Nat.le_of_ble_eq_true rfl), (Nat.le_of_ble_eq_true rfl)⟩ e_u4 (r_X7_thrown (A := A) e_x5) rfl rfl (Nat.le_of_ble_eq_true rfl) dL_law_338 (hk := hk1) ?_
  refine v_iload C 1 dL_law_341 rfl ?_
  refine v_icmp_eq C (tgt := 348) dL_law_343 (by decide) (fun q => ?_) (fun q => ?_)
  · have h := ite_t q h
    refine v_iload C 1 dL_law_348 rfl ?_
    refine v_if_ne C (tgt := 365) dL_law_350 (by decide) (fun q => ?_) (fun q => ?_)
    · have h := ite_f q h
      refine v_goto C (tgt := 1706) dL_law_365 (by decide) ?_
      obtain rfl := Option.some.inj h
      refine v_sub [2, 3, 4, 5, 6] rfl ?_
      exact kk
    · have h := ite_t q h
      refine v_aload_n C 5 dL_law_353 rfl rfl ?_
      refine v_iconst C (v := 0) dL_law_354 (by decide) ?_
      obtain ⟨x6, e_x6, h⟩ := bnd h
      refine v_lald C dL_law_355 e_x6 ?_
      refine v_iload C 0 dL_law_356 rfl ?_
      refine v_i2l C dL_law_358 ?_
      refine v_lcmp C dL_law_359 ?_
      refine v_if_eq C (tgt := 365) dL_law_360 (by decide) (fun q => ?_) (fun q => ?_)
      · have h := ite_t q h
        refine v_goto C (tgt := 1706) dL_law_365 (by decide) ?_
        obtain rfl := Option.some.inj h
        refine v_sub [2, 3, 4, 5, 6] rfl ?_
        exact kk
      · have h := ite_f q h
        refine v_iconst C (v := 0) dL_law_363 (by decide) ?_
        cases h
  · have h := ite_f q h
    refine v_iconst C (v := 0) dL_law_346 (by decide) ?_
    cases h
set_option maxRecDepth 100000 in
set_option maxHeartbeats 4000000 in
theorem t_case3 {p : Program} {l : Launch} (hst : l.stackTraces = false) {e : Env} {s : State} {m : MethodId} {args : Array Value} {below : List Frame} {meth : Method} {c : Code} {G : GG} {A : Nat → Prop} (C : Cx p s m args meth c G A cL_law 7 RL wsL_law ret) {b L : Nat} {xs : Nat → Int32} (hX : va_X b L xs s s.heap) (hbl : b < s.heap.size) (hbA : ¬ A b) {i : Int32} (h0 : vp_in i L) (h1 : vp_in (i + 1) L) (h2 : vp_in (i + 2) L) (h3 : vp_in (i + 3) L) (h4 : vp_in (i + 4) L) {n kc ks : Nat} {Q : State → Prop} (hk0 : kc ≤ room_1.cells ∧ ks ≤ room_1.slots) (hk1 : kc + 1 ≤ room_1.cells ∧ ks + 6 ≤ room_1.slots) {w w' : Wd} {x mo ou : Nat} (h : mc_3 G.2.2.1 n w x mo ou xs i = some w')
    (kk : VQ p l e room_1 s m args below meth c G A 7 (kc + 1) (ks + 6) Q 1706 [(0, .ref b), (1, .ref x), (2, .ref mo), (3, .ref ou), (4, .int i)] [] w') : VQ p l e room_1 s m args below meth c G A 7 kc ks Q 368 [(0, .ref b), (1, .ref x), (2, .ref mo), (3, .ref ou), (4, .int i)] [] w := by
  unfold mc_3 at h
  refine v_aload_n C 1 dL_law_368 rfl rfl ?_
  refine v_aload_n C 0 dL_law_369 rfl rfl ?_
  refine v_iload C 4 dL_law_370 rfl ?_
  refine v_iconst C (v := 1) dL_law_372 (by decide) ?_
  refine v_iadd C dL_law_373 ?_
  refine v_sld C hX hbl hbA h1 dL_law_374 ?_
  refine v_aload_n C 0 dL_law_375 rfl rfl ?_
  refine v_at (pc' := 376) rfl ?_
  refine v_iload C 4 dL_law_376 rfl ?_
  refine v_iconst C (v := 2) dL_law_378 (by decide) ?_
  refine v_iadd C dL_law_379 ?_
  refine v_sld C hX hbl hbA h2 dL_law_380 ?_
  refine v_aload_n C 0 dL_law_381 rfl rfl ?_
  refine v_iload C 4 dL_law_382 rfl ?_
  refine v_iconst C (v := 3) dL_law_384 (by decide) ?_
  refine v_iadd C dL_law_385 ?_
  refine v_at (pc' := 386) rfl ?_
  refine v_sld C hX hbl hbA h3 dL_law_386 ?_
  refine v_aload_n C 3 dL_law_387 rfl rfl ?_
  obtain ⟨z1, e_z1, h⟩ := bnd h
  refine v_callSW C (av := [.ref x, .int (xs (Int32.toNatClampNeg (i + 1))), .int (xs (Int32.toNatClampNeg (i + 2))), .int (xs (Int32.toNatClampNeg (i + 3))), .ref ou]) (rest := []) gL_law_L_setVelocity rfl ⟨rfl, rfl⟩ hS_L_setVelocity ⟨(Nat.le_of_ble_eq_true rfl), (Nat.le_of_ble_eq_true rfl)⟩ (r_L_setVelocity (A := A) hst e_z1) rfl rfl (Nat.le_of_ble_eq_true rfl) dL_law_388 hk1 ?_
  refine v_istore C (lv' := [(5, .int z1.1), (0, .ref b), (1, .ref x), (2, .ref mo), (3, .ref ou), (4, .int i)]) dL_law_391 (by decide) rfl ?_
  refine v_aload_n C 3 dL_law_393 rfl rfl ?_
  refine v_aload_n C 1 dL_law_394 rfl rfl ?_
  refine v_iload C 5 dL_law_395 rfl ?_
  refine v_iconst C (v := 1) dL_law_397 (by decide) ?_
  refine v_at (pc' := 398) rfl ?_
  refine v_iadd C dL_law_398 ?_
  refine v_sld C hX hbl hbA h1 dL_law_399 ?_
  refine v_aload_n C 1 dL_law_400 rfl rfl ?_
  refine v_iload C 5 dL_law_401 rfl ?_
  refine v_iconst C (v := 2) dL_law_403 (by decide) ?_
  refine v_iadd C dL_law_404 ?_
  refine v_sld C hX hbl hbA h2 dL_law_405 ?_
  refine v_aload_n C 1 dL_law_406 rfl rfl ?_
  refine v_at (pc' := 407) rfl ?_
  refine v_iload C 5 dL_law_407 rfl ?_
  refine v_iconst C (v := 3) dL_law_409 (by decide) ?_
  refine v_iadd C dL_law_410 ?_
  refine v_sld C hX hbl hbA h3 dL_law_411 ?_
  obtain ⟨u2, e_u2, h⟩ := bnd h
  obtain ⟨z3, e_z3, h⟩ := bnd h
  refine v_callVi C (ci := 6) (av := [.int (xs (Int32.toNatClampNeg (i + 1))), .int (xs (Int32.toNatClampNeg (i + 2))), .int (xs (Int32.toNatClampNeg (i + 3)))]) (rest := []) rfl gL_law_X7_setVelocity rfl ⟨rfl, rfl⟩ hV_X7_setVelocity ⟨(Nat.le_of_ble_eq_true rfl), (Nat.le_of_ble_eq_true rfl)⟩ e_u2 (r_X7_setVelocity (A := A) e_z3) rfl rfl (Nat.le_of_ble_eq_true rfl) dL_law_412 (hk := hk1) ?_
  refine v_istore C (lv' := [(6, .int z3.1), (5, .int z1.1), (0, .ref b), (1, .ref x), (2, .ref mo), (3, .ref ou), (4, .int i)]) dL_law_415 (by decide) rfl ?_
  refine v_aload_n C 4 dL_law_417 rfl rfl ?_
  obtain ⟨u4, e_u4, h⟩ := bnd h
  obtain ⟨x5, e_x5, h⟩ := bnd h
  refine v_callVi C (ci := 6) (av := []) (rest := []) rfl gL_law_X7_thrown rfl ⟨rfl, rfl⟩ hV_X7_thrown ⟨(Nat.le_of_ble_eq_true rfl), (Nat.le_of_ble_eq_true rfl)⟩ e_u4 (r_X7_thrown (A := A) e_x5) rfl rfl (Nat.le_of_ble_eq_true rfl) dL_law_418 (hk := hk1) ?_
  refine v_at (pc' := 421) rfl ?_
  refine v_iload C 1 dL_law_421 rfl ?_
  refine v_icmp_eq C (tgt := 428) dL_law_423 (by decide) (fun q => ?_) (fun q => ?_)
  · have h := ite_t q h
    refine v_iload C 1 dL_law_428 rfl ?_
    refine v_if_ne C (tgt := 445) dL_law_430 (by decide) (fun q => ?_) (fun q => ?_)
    · have h := ite_f q h
      refine v_goto C (tgt := 1706) dL_law_445 (by decide) ?_
      obtain rfl := Option.some.inj h
      refine v_sub [2, 3, 4, 5, 6] rfl ?_
      exact kk
    · have h := ite_t q h
      refine v_aload_n C 5 dL_law_433 rfl rfl ?_
      refine v_iconst C (v := 0) dL_law_434 (by decide) ?_
      obtain ⟨x6, e_x6, h⟩ := bnd h
      refine v_lald C dL_law_435 e_x6 ?_
      refine v_iload C 0 dL_law_436 rfl ?_
      refine v_i2l C dL_law_438 ?_
      refine v_lcmp C dL_law_439 ?_
      refine v_if_eq C (tgt := 445) dL_law_440 (by decide) (fun q => ?_) (fun q => ?_)
      · have h := ite_t q h
        refine v_goto C (tgt := 1706) dL_law_445 (by decide) ?_
        obtain rfl := Option.some.inj h
        refine v_sub [2, 3, 4, 5, 6] rfl ?_
        exact kk
      · have h := ite_f q h
        refine v_iconst C (v := 0) dL_law_443 (by decide) ?_
        cases h
  · have h := ite_f q h
    refine v_iconst C (v := 0) dL_law_426 (by decide) ?_
    cases h
set_option maxRecDepth 100000 in
set_option maxHeartbeats 4000000 in
theorem t_case4 {p : Program} {l : Launch} (hst : l.stackTraces = false) {e : Env} {s : State} {m : MethodId} {args : Array Value} {below : List Frame} {meth : Method} {c : Code} {G : GG} {A : Nat → Prop} (C : Cx p s m args meth c G A cL_law 7 RL wsL_law ret) {b L : Nat} {xs : Nat → Int32} (hX : va_X b L xs s s.heap) (hbl : b < s.heap.size) (hbA : ¬ A b) {i : Int32} (h0 : vp_in i L) (h1 : vp_in (i + 1) L) (h2 : vp_in (i + 2) L) (h3 : vp_in (i + 3) L) (h4 : vp_in (i + 4) L) {n kc ks : Nat} {Q : State → Prop} (hk0 : kc ≤ room_1.cells ∧ ks ≤ room_1.slots) (hk1 : kc + 1 ≤ room_1.cells ∧ ks + 6 ≤ room_1.slots) {w w' : Wd} {x mo ou : Nat} (h : mc_4 G.2.2.1 n w x mo ou xs i = some w')
    (kk : VQ p l e room_1 s m args below meth c G A 7 (kc + 1) (ks + 6) Q 1706 [(0, .ref b), (1, .ref x), (2, .ref mo), (3, .ref ou), (4, .int i)] [] w') : VQ p l e room_1 s m args below meth c G A 7 kc ks Q 448 [(0, .ref b), (1, .ref x), (2, .ref mo), (3, .ref ou), (4, .int i)] [] w := by
  unfold mc_4 at h
  refine v_aload_n C 1 dL_law_448 rfl rfl ?_
  refine v_aload_n C 0 dL_law_449 rfl rfl ?_
  refine v_iload C 4 dL_law_450 rfl ?_
  refine v_iconst C (v := 1) dL_law_452 (by decide) ?_
  refine v_iadd C dL_law_453 ?_
  refine v_sld C hX hbl hbA h1 dL_law_454 ?_
  refine v_aload_n C 3 dL_law_455 rfl rfl ?_
  refine v_at (pc' := 456) rfl ?_
  obtain ⟨z1, e_z1, h⟩ := bnd h
  refine v_callSW C (av := [.ref x, .int (xs (Int32.toNatClampNeg (i + 1))), .ref ou]) (rest := []) gL_law_L_tick rfl ⟨rfl, rfl⟩ hS_L_tick ⟨(Nat.le_of_ble_eq_true rfl), (Nat.le_of_ble_eq_true rfl)⟩ (r_L_tick (A := A) hst e_z1) rfl rfl (Nat.le_of_ble_eq_true rfl) dL_law_456 hk1 ?_
  refine v_istore C (lv' := [(5, .int z1.1), (0, .ref b), (1, .ref x), (2, .ref mo), (3, .ref ou), (4, .int i)]) dL_law_459 (by decide) rfl ?_
  refine v_aload_n C 3 dL_law_461 rfl rfl ?_
  refine v_aload_n C 1 dL_law_462 rfl rfl ?_
  refine v_iload C 5 dL_law_463 rfl ?_
  refine v_iconst C (v := 1) dL_law_465 (by decide) ?_
  refine v_iadd C dL_law_466 ?_
  refine v_sld C hX hbl hbA h1 dL_law_467 ?_
  refine v_at (pc' := 468) rfl ?_
  obtain ⟨u2, e_u2, h⟩ := bnd h
  obtain ⟨z3, e_z3, h⟩ := bnd h
  refine v_callVi C (ci := 6) (av := [.int (xs (Int32.toNatClampNeg (i + 1)))]) (rest := []) rfl gL_law_X7_tick rfl ⟨rfl, rfl⟩ hV_X7_tick ⟨(Nat.le_of_ble_eq_true rfl), (Nat.le_of_ble_eq_true rfl)⟩ e_u2 (r_X7_tick (A := A) e_z3) rfl rfl (Nat.le_of_ble_eq_true rfl) dL_law_468 (hk := hk1) ?_
  refine v_istore C (lv' := [(6, .int z3.1), (5, .int z1.1), (0, .ref b), (1, .ref x), (2, .ref mo), (3, .ref ou), (4, .int i)]) dL_law_471 (by decide) rfl ?_
  refine v_aload_n C 4 dL_law_473 rfl rfl ?_
  obtain ⟨u4, e_u4, h⟩ := bnd h
  obtain ⟨x5, e_x5, h⟩ := bnd h
  refine v_callVi C (ci := 6) (av := []) (rest := []) rfl gL_law_X7_thrown rfl ⟨rfl, rfl⟩ hV_X7_thrown ⟨(Nat.le_of_ble_eq_true rfl), (Nat.le_of_ble_eq_true rfl)⟩ e_u4 (r_X7_thrown (A := A) e_x5) rfl rfl (Nat.le_of_ble_eq_true rfl) dL_law_474 (hk := hk1) ?_
  refine v_iload C 1 dL_law_477 rfl ?_
  refine v_icmp_eq C (tgt := 484) dL_law_479 (by decide) (fun q => ?_) (fun q => ?_)
  · have h := ite_t q h
    refine v_iload C 1 dL_law_484 rfl ?_
    refine v_if_ne C (tgt := 501) dL_law_486 (by decide) (fun q => ?_) (fun q => ?_)
    · have h := ite_f q h
      refine v_goto C (tgt := 1706) dL_law_501 (by decide) ?_
      obtain rfl := Option.some.inj h
      refine v_sub [2, 3, 4, 5, 6] rfl ?_
      exact kk
    · have h := ite_t q h
      refine v_aload_n C 5 dL_law_489 rfl rfl ?_
      refine v_iconst C (v := 0) dL_law_490 (by decide) ?_
      obtain ⟨x6, e_x6, h⟩ := bnd h
      refine v_lald C dL_law_491 e_x6 ?_
      refine v_iload C 0 dL_law_492 rfl ?_
      refine v_i2l C dL_law_494 ?_
      refine v_lcmp C dL_law_495 ?_
      refine v_if_eq C (tgt := 501) dL_law_496 (by decide) (fun q => ?_) (fun q => ?_)
      · have h := ite_t q h
        refine v_goto C (tgt := 1706) dL_law_501 (by decide) ?_
        obtain rfl := Option.some.inj h
        refine v_sub [2, 3, 4, 5, 6] rfl ?_
        exact kk
      · have h := ite_f q h
        refine v_iconst C (v := 0) dL_law_499 (by decide) ?_
        cases h
  · have h := ite_f q h
    refine v_iconst C (v := 0) dL_law_482 (by decide) ?_
    cases h
set_option maxRecDepth 100000 in
set_option maxHeartbeats 4000000 in
theorem t_case5 {p : Program} {l : Launch} (hst : l.stackTraces = false) {e : Env} {s : State} {m : MethodId} {args : Array Value} {below : List Frame} {meth : Method} {c : Code} {G : GG} {A : Nat → Prop} (C : Cx p s m args meth c G A cL_law 7 RL wsL_law ret) {b L : Nat} {xs : Nat → Int32} (hX : va_X b L xs s s.heap) (hbl : b < s.heap.size) (hbA : ¬ A b) {i : Int32} (h0 : vp_in i L) (h1 : vp_in (i + 1) L) (h2 : vp_in (i + 2) L) (h3 : vp_in (i + 3) L) (h4 : vp_in (i + 4) L) {n kc ks : Nat} {Q : State → Prop} (hk0 : kc ≤ room_1.cells ∧ ks ≤ room_1.slots) (hk1 : kc + 1 ≤ room_1.cells ∧ ks + 6 ≤ room_1.slots) {w w' : Wd} {x mo ou : Nat} (h : mc_5 G.2.2.1 n w x mo ou xs i = some w')
    (kk : VQ p l e room_1 s m args below meth c G A 7 (kc + 1) (ks + 6) Q 1706 [(0, .ref b), (1, .ref x), (2, .ref mo), (3, .ref ou), (4, .int i)] [] w') : VQ p l e room_1 s m args below meth c G A 7 kc ks Q 504 [(0, .ref b), (1, .ref x), (2, .ref mo), (3, .ref ou), (4, .int i)] [] w := by
  unfold mc_5 at h
  refine v_aload_n C 1 dL_law_504 rfl rfl ?_
  refine v_aload_n C 0 dL_law_505 rfl rfl ?_
  refine v_iload C 4 dL_law_506 rfl ?_
  refine v_iconst C (v := 1) dL_law_508 (by decide) ?_
  refine v_iadd C dL_law_509 ?_
  refine v_sld C hX hbl hbA h1 dL_law_510 ?_
  refine v_aload_n C 0 dL_law_511 rfl rfl ?_
  refine v_at (pc' := 512) rfl ?_
  refine v_iload C 4 dL_law_512 rfl ?_
  refine v_iconst C (v := 2) dL_law_514 (by decide) ?_
  refine v_iadd C dL_law_515 ?_
  refine v_sld C hX hbl hbA h2 dL_law_516 ?_
  refine v_aload_n C 0 dL_law_517 rfl rfl ?_
  refine v_iload C 4 dL_law_518 rfl ?_
  refine v_iconst C (v := 3) dL_law_520 (by decide) ?_
  refine v_iadd C dL_law_521 ?_
  refine v_at (pc' := 522) rfl ?_
  refine v_sld C hX hbl hbA h3 dL_law_522 ?_
  refine v_aload_n C 0 dL_law_523 rfl rfl ?_
  refine v_iload C 4 dL_law_524 rfl ?_
  refine v_iconst C (v := 4) dL_law_526 (by decide) ?_
  refine v_iadd C dL_law_527 ?_
  refine v_sld C hX hbl hbA h4 dL_law_528 ?_
  refine v_aload_n C 3 dL_law_529 rfl rfl ?_
  obtain ⟨z1, e_z1, h⟩ := bnd h
  refine v_callSW C (av := [.ref x, .int (xs (Int32.toNatClampNeg (i + 1))), .int (xs (Int32.toNatClampNeg (i + 2))), .int (xs (Int32.toNatClampNeg (i + 3))), .int (xs (Int32.toNatClampNeg (i + 4))), .ref ou]) (rest := []) gL_law_L_scatter rfl ⟨rfl, rfl⟩ hS_L_scatter ⟨(Nat.le_of_ble_eq_true rfl), (Nat.le_of_ble_eq_true rfl)⟩ (r_L_scatter (A := A) hst e_z1) rfl rfl (Nat.le_of_ble_eq_true rfl) dL_law_530 hk1 ?_
  refine v_at (pc' := 533) rfl ?_
  refine v_istore C (lv' := [(5, .int z1.1), (0, .ref b), (1, .ref x), (2, .ref mo), (3, .ref ou), (4, .int i)]) dL_law_533 (by decide) rfl ?_
  refine v_aload_n C 3 dL_law_535 rfl rfl ?_
  refine v_aload_n C 1 dL_law_536 rfl rfl ?_
  refine v_iload C 5 dL_law_537 rfl ?_
  refine v_iconst C (v := 1) dL_law_539 (by decide) ?_
  refine v_iadd C dL_law_540 ?_
  refine v_sld C hX hbl hbA h1 dL_law_541 ?_
  refine v_aload_n C 1 dL_law_542 rfl rfl ?_
  refine v_at (pc' := 543) rfl ?_
  refine v_iload C 5 dL_law_543 rfl ?_
  refine v_iconst C (v := 2) dL_law_545 (by decide) ?_
  refine v_iadd C dL_law_546 ?_
  refine v_sld C hX hbl hbA h2 dL_law_547 ?_
  refine v_aload_n C 1 dL_law_548 rfl rfl ?_
  refine v_iload C 5 dL_law_549 rfl ?_
  refine v_iconst C (v := 3) dL_law_551 (by decide) ?_
  refine v_iadd C dL_law_552 ?_
  refine v_at (pc' := 553) rfl ?_
  refine v_sld C hX hbl hbA h3 dL_law_553 ?_
  refine v_aload_n C 1 dL_law_554 rfl rfl ?_
  refine v_iload C 5 dL_law_555 rfl ?_
  refine v_iconst C (v := 4) dL_law_557 (by decide) ?_
  refine v_iadd C dL_law_558 ?_
  refine v_sld C hX hbl hbA h4 dL_law_559 ?_
  obtain ⟨u2, e_u2, h⟩ := bnd h
  obtain ⟨z3, e_z3, h⟩ := bnd h
  refine v_callVi C (ci := 6) (av := [.int (xs (Int32.toNatClampNeg (i + 1))), .int (xs (Int32.toNatClampNeg (i + 2))), .int (xs (Int32.toNatClampNeg (i + 3))), .int (xs (Int32.toNatClampNeg (i + 4)))]) (rest := []) rfl gL_law_X7_scatter rfl ⟨rfl, rfl⟩ hV_X7_scatter ⟨(Nat.le_of_ble_eq_true rfl), (Nat.le_of_ble_eq_true rfl)⟩ e_u2 (r_X7_scatter (A := A) e_z3) rfl rfl (Nat.le_of_ble_eq_true rfl) dL_law_560 (hk := hk1) ?_
  refine v_istore C (lv' := [(6, .int z3.1), (5, .int z1.1), (0, .ref b), (1, .ref x), (2, .ref mo), (3, .ref ou), (4, .int i)]) dL_law_563 (by decide) rfl ?_
  refine v_at (pc' := 565) rfl ?_
  refine v_aload_n C 4 dL_law_565 rfl rfl ?_
  obtain ⟨u4, e_u4, h⟩ := bnd h
  obtain ⟨x5, e_x5, h⟩ := bnd h
  refine v_callVi C (ci := 6) (av := []) (rest := []) rfl gL_law_X7_thrown rfl ⟨rfl, rfl⟩ hV_X7_thrown ⟨(Nat.le_of_ble_eq_true rfl), (Nat.le_of_ble_eq_true rfl)⟩ e_u4 (r_X7_thrown (A := A) e_x5) rfl rfl (Nat.le_of_ble_eq_true rfl) dL_law_566 (hk := hk1) ?_
  refine v_iload C 1 dL_law_569 rfl ?_
  refine v_icmp_eq C (tgt := 576) dL_law_571 (by decide) (fun q => ?_) (fun q => ?_)
  · have h := ite_t q h
    refine v_iload C 1 dL_law_576 rfl ?_
    refine v_if_ne C (tgt := 593) dL_law_578 (by decide) (fun q => ?_) (fun q => ?_)
    · have h := ite_f q h
      refine v_goto C (tgt := 1706) dL_law_593 (by decide) ?_
      obtain rfl := Option.some.inj h
      refine v_sub [2, 3, 4, 5, 6] rfl ?_
      exact kk
    · have h := ite_t q h
      refine v_aload_n C 5 dL_law_581 rfl rfl ?_
      refine v_iconst C (v := 0) dL_law_582 (by decide) ?_
      obtain ⟨x6, e_x6, h⟩ := bnd h
      refine v_lald C dL_law_583 e_x6 ?_
      refine v_iload C 0 dL_law_584 rfl ?_
      refine v_i2l C dL_law_586 ?_
      refine v_lcmp C dL_law_587 ?_
      refine v_if_eq C (tgt := 593) dL_law_588 (by decide) (fun q => ?_) (fun q => ?_)
      · have h := ite_t q h
        refine v_goto C (tgt := 1706) dL_law_593 (by decide) ?_
        obtain rfl := Option.some.inj h
        refine v_sub [2, 3, 4, 5, 6] rfl ?_
        exact kk
      · have h := ite_f q h
        refine v_iconst C (v := 0) dL_law_591 (by decide) ?_
        cases h
  · have h := ite_f q h
    refine v_iconst C (v := 0) dL_law_574 (by decide) ?_
    cases h
set_option maxRecDepth 100000 in
set_option maxHeartbeats 4000000 in
theorem t_case6 {p : Program} {l : Launch} (hst : l.stackTraces = false) {e : Env} {s : State} {m : MethodId} {args : Array Value} {below : List Frame} {meth : Method} {c : Code} {G : GG} {A : Nat → Prop} (C : Cx p s m args meth c G A cL_law 7 RL wsL_law ret) {b L : Nat} {xs : Nat → Int32} (hX : va_X b L xs s s.heap) (hbl : b < s.heap.size) (hbA : ¬ A b) {i : Int32} (h0 : vp_in i L) (h1 : vp_in (i + 1) L) (h2 : vp_in (i + 2) L) (h3 : vp_in (i + 3) L) (h4 : vp_in (i + 4) L) {n kc ks : Nat} {Q : State → Prop} (hk0 : kc ≤ room_1.cells ∧ ks ≤ room_1.slots) (hk1 : kc + 1 ≤ room_1.cells ∧ ks + 6 ≤ room_1.slots) {w w' : Wd} {x mo ou : Nat} (h : mc_6 G.2.2.1 n w x mo ou xs i = some w')
    (kk : VQ p l e room_1 s m args below meth c G A 7 (kc + 1) (ks + 6) Q 1706 [(0, .ref b), (1, .ref x), (2, .ref mo), (3, .ref ou), (4, .int i)] [] w') : VQ p l e room_1 s m args below meth c G A 7 kc ks Q 596 [(0, .ref b), (1, .ref x), (2, .ref mo), (3, .ref ou), (4, .int i)] [] w := by
  unfold mc_6 at h
  refine v_aload_n C 1 dL_law_596 rfl rfl ?_
  refine v_aload_n C 0 dL_law_597 rfl rfl ?_
  refine v_iload C 4 dL_law_598 rfl ?_
  refine v_iconst C (v := 1) dL_law_600 (by decide) ?_
  refine v_iadd C dL_law_601 ?_
  refine v_sld C hX hbl hbA h1 dL_law_602 ?_
  refine v_aload_n C 0 dL_law_603 rfl rfl ?_
  refine v_at (pc' := 604) rfl ?_
  refine v_iload C 4 dL_law_604 rfl ?_
  refine v_iconst C (v := 2) dL_law_606 (by decide) ?_
  refine v_iadd C dL_law_607 ?_
  refine v_sld C hX hbl hbA h2 dL_law_608 ?_
  refine v_aload_n C 3 dL_law_609 rfl rfl ?_
  obtain ⟨z1, e_z1, h⟩ := bnd h
  refine v_callSW C (av := [.ref x, .int (xs (Int32.toNatClampNeg (i + 1))), .int (xs (Int32.toNatClampNeg (i + 2))), .ref ou]) (rest := []) gL_law_L_point rfl ⟨rfl, rfl⟩ hS_L_point ⟨(Nat.le_of_ble_eq_true rfl), (Nat.le_of_ble_eq_true rfl)⟩ (r_L_point (A := A) hst e_z1) rfl rfl (Nat.le_of_ble_eq_true rfl) dL_law_610 hk1 ?_
  refine v_istore C (lv' := [(5, .int z1.1), (0, .ref b), (1, .ref x), (2, .ref mo), (3, .ref ou), (4, .int i)]) dL_law_613 (by decide) rfl ?_
  refine v_aload_n C 3 dL_law_615 rfl rfl ?_
  refine v_at (pc' := 616) rfl ?_
  refine v_aload_n C 1 dL_law_616 rfl rfl ?_
  refine v_iload C 5 dL_law_617 rfl ?_
  refine v_iconst C (v := 1) dL_law_619 (by decide) ?_
  refine v_iadd C dL_law_620 ?_
  refine v_sld C hX hbl hbA h1 dL_law_621 ?_
  refine v_aload_n C 1 dL_law_622 rfl rfl ?_
  refine v_iload C 5 dL_law_623 rfl ?_
  refine v_iconst C (v := 2) dL_law_625 (by decide) ?_
  refine v_at (pc' := 626) rfl ?_
  refine v_iadd C dL_law_626 ?_
  refine v_sld C hX hbl hbA h2 dL_law_627 ?_
  obtain ⟨u2, e_u2, h⟩ := bnd h
  obtain ⟨z3, e_z3, h⟩ := bnd h
  refine v_callVi C (ci := 6) (av := [.int (xs (Int32.toNatClampNeg (i + 1))), .int (xs (Int32.toNatClampNeg (i + 2)))]) (rest := []) rfl gL_law_X7_point rfl ⟨rfl, rfl⟩ hV_X7_point ⟨(Nat.le_of_ble_eq_true rfl), (Nat.le_of_ble_eq_true rfl)⟩ e_u2 (r_X7_point (A := A) e_z3) rfl rfl (Nat.le_of_ble_eq_true rfl) dL_law_628 (hk := hk1) ?_
  refine v_istore C (lv' := [(6, .int z3.1), (5, .int z1.1), (0, .ref b), (1, .ref x), (2, .ref mo), (3, .ref ou), (4, .int i)]) dL_law_631 (by decide) rfl ?_
  refine v_aload_n C 4 dL_law_633 rfl rfl ?_
  obtain ⟨u4, e_u4, h⟩ := bnd h
  obtain ⟨x5, e_x5, h⟩ := bnd h
  refine v_callVi C (ci := 6) (av := []) (rest := []) rfl gL_law_X7_thrown rfl ⟨rfl, rfl⟩ hV_X7_thrown ⟨(Nat.le_of_ble_eq_true rfl), (Nat.le_of_ble_eq_true rfl)⟩ e_u4 (r_X7_thrown (A := A) e_x5) rfl rfl (Nat.le_of_ble_eq_true rfl) dL_law_634 (hk := hk1) ?_
  refine v_iload C 1 dL_law_637 rfl ?_
  refine v_icmp_eq C (tgt := 644) dL_law_639 (by decide) (fun q => ?_) (fun q => ?_)
  · have h := ite_t q h
    refine v_iload C 1 dL_law_644 rfl ?_
    refine v_if_ne C (tgt := 661) dL_law_646 (by decide) (fun q => ?_) (fun q => ?_)
    · have h := ite_f q h
      refine v_goto C (tgt := 1706) dL_law_661 (by decide) ?_
      obtain rfl := Option.some.inj h
      refine v_sub [2, 3, 4, 5, 6] rfl ?_
      exact kk
    · have h := ite_t q h
      refine v_aload_n C 5 dL_law_649 rfl rfl ?_
      refine v_iconst C (v := 0) dL_law_650 (by decide) ?_
      obtain ⟨x6, e_x6, h⟩ := bnd h
      refine v_lald C dL_law_651 e_x6 ?_
      refine v_iload C 0 dL_law_652 rfl ?_
      refine v_i2l C dL_law_654 ?_
      refine v_lcmp C dL_law_655 ?_
      refine v_if_eq C (tgt := 661) dL_law_656 (by decide) (fun q => ?_) (fun q => ?_)
      · have h := ite_t q h
        refine v_goto C (tgt := 1706) dL_law_661 (by decide) ?_
        obtain rfl := Option.some.inj h
        refine v_sub [2, 3, 4, 5, 6] rfl ?_
        exact kk
      · have h := ite_f q h
        refine v_iconst C (v := 0) dL_law_659 (by decide) ?_
        cases h
  · have h := ite_f q h
    refine v_iconst C (v := 0) dL_law_642 (by decide) ?_
    cases h
set_option maxRecDepth 100000 in
set_option maxHeartbeats 4000000 in
theorem t_case7 {p : Program} {l : Launch} (hst : l.stackTraces = false) {e : Env} {s : State} {m : MethodId} {args : Array Value} {below : List Frame} {meth : Method} {c : Code} {G : GG} {A : Nat → Prop} (C : Cx p s m args meth c G A cL_law 7 RL wsL_law ret) {b L : Nat} {xs : Nat → Int32} (hX : va_X b L xs s s.heap) (hbl : b < s.heap.size) (hbA : ¬ A b) {i : Int32} (h0 : vp_in i L) (h1 : vp_in (i + 1) L) (h2 : vp_in (i + 2) L) (h3 : vp_in (i + 3) L) (h4 : vp_in (i + 4) L) {n kc ks : Nat} {Q : State → Prop} (hk0 : kc ≤ room_1.cells ∧ ks ≤ room_1.slots) (hk1 : kc + 1 ≤ room_1.cells ∧ ks + 6 ≤ room_1.slots) {w w' : Wd} {x mo ou : Nat} (h : mc_7 G.2.2.1 n w x mo ou xs i = some w')
    (kk : VQ p l e room_1 s m args below meth c G A 7 (kc + 1) (ks + 6) Q 1706 [(0, .ref b), (1, .ref x), (2, .ref mo), (3, .ref ou), (4, .int i)] [] w') : VQ p l e room_1 s m args below meth c G A 7 kc ks Q 664 [(0, .ref b), (1, .ref x), (2, .ref mo), (3, .ref ou), (4, .int i)] [] w := by
  unfold mc_7 at h
  refine v_aload_n C 1 dL_law_664 rfl rfl ?_
  refine v_aload_n C 0 dL_law_665 rfl rfl ?_
  refine v_iload C 4 dL_law_666 rfl ?_
  refine v_iconst C (v := 1) dL_law_668 (by decide) ?_
  refine v_iadd C dL_law_669 ?_
  refine v_sld C hX hbl hbA h1 dL_law_670 ?_
  refine v_aload_n C 0 dL_law_671 rfl rfl ?_
  refine v_at (pc' := 672) rfl ?_
  refine v_iload C 4 dL_law_672 rfl ?_
  refine v_iconst C (v := 2) dL_law_674 (by decide) ?_
  refine v_iadd C dL_law_675 ?_
  refine v_sld C hX hbl hbA h2 dL_law_676 ?_
  refine v_aload_n C 3 dL_law_677 rfl rfl ?_
  obtain ⟨z1, e_z1, h⟩ := bnd h
  refine v_callSW C (av := [.ref x, .int (xs (Int32.toNatClampNeg (i + 1))), .int (xs (Int32.toNatClampNeg (i + 2))), .ref ou]) (rest := []) gL_law_L_level rfl ⟨rfl, rfl⟩ hS_L_level ⟨(Nat.le_of_ble_eq_true rfl), (Nat.le_of_ble_eq_true rfl)⟩ (r_L_level (A := A) hst e_z1) rfl rfl (Nat.le_of_ble_eq_true rfl) dL_law_678 hk1 ?_
  refine v_istore C (lv' := [(5, .int z1.1), (0, .ref b), (1, .ref x), (2, .ref mo), (3, .ref ou), (4, .int i)]) dL_law_681 (by decide) rfl ?_
  refine v_aload_n C 3 dL_law_683 rfl rfl ?_
  refine v_at (pc' := 684) rfl ?_
  refine v_aload_n C 1 dL_law_684 rfl rfl ?_
  refine v_iload C 5 dL_law_685 rfl ?_
  refine v_iconst C (v := 1) dL_law_687 (by decide) ?_
  refine v_iadd C dL_law_688 ?_
  refine v_sld C hX hbl hbA h1 dL_law_689 ?_
  refine v_aload_n C 1 dL_law_690 rfl rfl ?_
  refine v_iload C 5 dL_law_691 rfl ?_
  refine v_iconst C (v := 2) dL_law_693 (by decide) ?_
  refine v_at (pc' := 694) rfl ?_
  refine v_iadd C dL_law_694 ?_
  refine v_sld C hX hbl hbA h2 dL_law_695 ?_
  obtain ⟨u2, e_u2, h⟩ := bnd h
  obtain ⟨z3, e_z3, h⟩ := bnd h
  refine v_callVi C (ci := 6) (av := [.int (xs (Int32.toNatClampNeg (i + 1))), .int (xs (Int32.toNatClampNeg (i + 2)))]) (rest := []) rfl gL_law_X7_level rfl ⟨rfl, rfl⟩ hV_X7_level ⟨(Nat.le_of_ble_eq_true rfl), (Nat.le_of_ble_eq_true rfl)⟩ e_u2 (r_X7_level (A := A) e_z3) rfl rfl (Nat.le_of_ble_eq_true rfl) dL_law_696 (hk := hk1) ?_
  refine v_istore C (lv' := [(6, .int z3.1), (5, .int z1.1), (0, .ref b), (1, .ref x), (2, .ref mo), (3, .ref ou), (4, .int i)]) dL_law_699 (by decide) rfl ?_
  refine v_aload_n C 4 dL_law_701 rfl rfl ?_
  obtain ⟨u4, e_u4, h⟩ := bnd h
  obtain ⟨x5, e_x5, h⟩ := bnd h
  refine v_callVi C (ci := 6) (av := []) (rest := []) rfl gL_law_X7_thrown rfl ⟨rfl, rfl⟩ hV_X7_thrown ⟨(Nat.le_of_ble_eq_true rfl), (Nat.le_of_ble_eq_true rfl)⟩ e_u4 (r_X7_thrown (A := A) e_x5) rfl rfl (Nat.le_of_ble_eq_true rfl) dL_law_702 (hk := hk1) ?_
  refine v_iload C 1 dL_law_705 rfl ?_
  refine v_icmp_eq C (tgt := 712) dL_law_707 (by decide) (fun q => ?_) (fun q => ?_)
  · have h := ite_t q h
    refine v_iload C 1 dL_law_712 rfl ?_
    refine v_if_ne C (tgt := 729) dL_law_714 (by decide) (fun q => ?_) (fun q => ?_)
    · have h := ite_f q h
      refine v_goto C (tgt := 1706) dL_law_729 (by decide) ?_
      obtain rfl := Option.some.inj h
      refine v_sub [2, 3, 4, 5, 6] rfl ?_
      exact kk
    · have h := ite_t q h
      refine v_aload_n C 5 dL_law_717 rfl rfl ?_
      refine v_iconst C (v := 0) dL_law_718 (by decide) ?_
      obtain ⟨x6, e_x6, h⟩ := bnd h
      refine v_lald C dL_law_719 e_x6 ?_
      refine v_iload C 0 dL_law_720 rfl ?_
      refine v_i2l C dL_law_722 ?_
      refine v_lcmp C dL_law_723 ?_
      refine v_if_eq C (tgt := 729) dL_law_724 (by decide) (fun q => ?_) (fun q => ?_)
      · have h := ite_t q h
        refine v_goto C (tgt := 1706) dL_law_729 (by decide) ?_
        obtain rfl := Option.some.inj h
        refine v_sub [2, 3, 4, 5, 6] rfl ?_
        exact kk
      · have h := ite_f q h
        refine v_iconst C (v := 0) dL_law_727 (by decide) ?_
        cases h
  · have h := ite_f q h
    refine v_iconst C (v := 0) dL_law_710 (by decide) ?_
    cases h
set_option maxRecDepth 100000 in
set_option maxHeartbeats 4000000 in
theorem t_case8 {p : Program} {l : Launch} (hst : l.stackTraces = false) {e : Env} {s : State} {m : MethodId} {args : Array Value} {below : List Frame} {meth : Method} {c : Code} {G : GG} {A : Nat → Prop} (C : Cx p s m args meth c G A cL_law 7 RL wsL_law ret) {b L : Nat} {xs : Nat → Int32} (hX : va_X b L xs s s.heap) (hbl : b < s.heap.size) (hbA : ¬ A b) {i : Int32} (h0 : vp_in i L) (h1 : vp_in (i + 1) L) (h2 : vp_in (i + 2) L) (h3 : vp_in (i + 3) L) (h4 : vp_in (i + 4) L) {n kc ks : Nat} {Q : State → Prop} (hk0 : kc ≤ room_1.cells ∧ ks ≤ room_1.slots) (hk1 : kc + 1 ≤ room_1.cells ∧ ks + 6 ≤ room_1.slots) {w w' : Wd} {x mo ou : Nat} (h : mc_8 G.2.2.1 n w x mo ou xs i = some w')
    (kk : VQ p l e room_1 s m args below meth c G A 7 (kc + 1) (ks + 6) Q 1706 [(0, .ref b), (1, .ref x), (2, .ref mo), (3, .ref ou), (4, .int i)] [] w') : VQ p l e room_1 s m args below meth c G A 7 kc ks Q 732 [(0, .ref b), (1, .ref x), (2, .ref mo), (3, .ref ou), (4, .int i)] [] w := by
  unfold mc_8 at h
  refine v_aload_n C 1 dL_law_732 rfl rfl ?_
  refine v_aload_n C 0 dL_law_733 rfl rfl ?_
  refine v_iload C 4 dL_law_734 rfl ?_
  refine v_iconst C (v := 1) dL_law_736 (by decide) ?_
  refine v_iadd C dL_law_737 ?_
  refine v_sld C hX hbl hbA h1 dL_law_738 ?_
  refine v_aload_n C 0 dL_law_739 rfl rfl ?_
  refine v_at (pc' := 740) rfl ?_
  refine v_iload C 4 dL_law_740 rfl ?_
  refine v_iconst C (v := 2) dL_law_742 (by decide) ?_
  refine v_iadd C dL_law_743 ?_
  refine v_sld C hX hbl hbA h2 dL_law_744 ?_
  refine v_aload_n C 0 dL_law_745 rfl rfl ?_
  refine v_iload C 4 dL_law_746 rfl ?_
  refine v_iconst C (v := 3) dL_law_748 (by decide) ?_
  refine v_iadd C dL_law_749 ?_
  refine v_at (pc' := 750) rfl ?_
  refine v_sld C hX hbl hbA h3 dL_law_750 ?_
  refine v_aload_n C 3 dL_law_751 rfl rfl ?_
  obtain ⟨z1, e_z1, h⟩ := bnd h
  refine v_callSW C (av := [.ref x, .int (xs (Int32.toNatClampNeg (i + 1))), .int (xs (Int32.toNatClampNeg (i + 2))), .int (xs (Int32.toNatClampNeg (i + 3))), .ref ou]) (rest := []) gL_law_L_node rfl ⟨rfl, rfl⟩ hS_L_node ⟨(Nat.le_of_ble_eq_true rfl), (Nat.le_of_ble_eq_true rfl)⟩ (r_L_node (A := A) hst e_z1) rfl rfl (Nat.le_of_ble_eq_true rfl) dL_law_752 hk1 ?_
  refine v_istore C (lv' := [(5, .int z1.1), (0, .ref b), (1, .ref x), (2, .ref mo), (3, .ref ou), (4, .int i)]) dL_law_755 (by decide) rfl ?_
  refine v_aload_n C 3 dL_law_757 rfl rfl ?_
  refine v_aload_n C 1 dL_law_758 rfl rfl ?_
  refine v_iload C 5 dL_law_759 rfl ?_
  refine v_iconst C (v := 1) dL_law_761 (by decide) ?_
  refine v_at (pc' := 762) rfl ?_
  refine v_iadd C dL_law_762 ?_
  refine v_sld C hX hbl hbA h1 dL_law_763 ?_
  refine v_aload_n C 1 dL_law_764 rfl rfl ?_
  refine v_iload C 5 dL_law_765 rfl ?_
  refine v_iconst C (v := 2) dL_law_767 (by decide) ?_
  refine v_iadd C dL_law_768 ?_
  refine v_sld C hX hbl hbA h2 dL_law_769 ?_
  refine v_aload_n C 1 dL_law_770 rfl rfl ?_
  refine v_at (pc' := 771) rfl ?_
  refine v_iload C 5 dL_law_771 rfl ?_
  refine v_iconst C (v := 3) dL_law_773 (by decide) ?_
  refine v_iadd C dL_law_774 ?_
  refine v_sld C hX hbl hbA h3 dL_law_775 ?_
  obtain ⟨u2, e_u2, h⟩ := bnd h
  obtain ⟨z3, e_z3, h⟩ := bnd h
  refine v_callVi C (ci := 6) (av := [.int (xs (Int32.toNatClampNeg (i + 1))), .int (xs (Int32.toNatClampNeg (i + 2))), .int (xs (Int32.toNatClampNeg (i + 3)))]) (rest := []) rfl gL_law_X7_node rfl ⟨rfl, rfl⟩ hV_X7_node ⟨(Nat.le_of_ble_eq_true rfl), (Nat.le_of_ble_eq_true rfl)⟩ e_u2 (r_X7_node (A := A) e_z3) rfl rfl (Nat.le_of_ble_eq_true rfl) dL_law_776 (hk := hk1) ?_
  refine v_istore C (lv' := [(6, .int z3.1), (5, .int z1.1), (0, .ref b), (1, .ref x), (2, .ref mo), (3, .ref ou), (4, .int i)]) dL_law_779 (by decide) rfl ?_
  refine v_aload_n C 4 dL_law_781 rfl rfl ?_
  obtain ⟨u4, e_u4, h⟩ := bnd h
  obtain ⟨x5, e_x5, h⟩ := bnd h
  refine v_callVi C (ci := 6) (av := []) (rest := []) rfl gL_law_X7_thrown rfl ⟨rfl, rfl⟩ hV_X7_thrown ⟨(Nat.le_of_ble_eq_true rfl), (Nat.le_of_ble_eq_true rfl)⟩ e_u4 (r_X7_thrown (A := A) e_x5) rfl rfl (Nat.le_of_ble_eq_true rfl) dL_law_782 (hk := hk1) ?_
  refine v_at (pc' := 785) rfl ?_
  refine v_iload C 1 dL_law_785 rfl ?_
  refine v_icmp_eq C (tgt := 792) dL_law_787 (by decide) (fun q => ?_) (fun q => ?_)
  · have h := ite_t q h
    refine v_iload C 1 dL_law_792 rfl ?_
    refine v_if_ne C (tgt := 809) dL_law_794 (by decide) (fun q => ?_) (fun q => ?_)
    · have h := ite_f q h
      refine v_goto C (tgt := 1706) dL_law_809 (by decide) ?_
      obtain rfl := Option.some.inj h
      refine v_sub [2, 3, 4, 5, 6] rfl ?_
      exact kk
    · have h := ite_t q h
      refine v_aload_n C 5 dL_law_797 rfl rfl ?_
      refine v_iconst C (v := 0) dL_law_798 (by decide) ?_
      obtain ⟨x6, e_x6, h⟩ := bnd h
      refine v_lald C dL_law_799 e_x6 ?_
      refine v_iload C 0 dL_law_800 rfl ?_
      refine v_i2l C dL_law_802 ?_
      refine v_lcmp C dL_law_803 ?_
      refine v_if_eq C (tgt := 809) dL_law_804 (by decide) (fun q => ?_) (fun q => ?_)
      · have h := ite_t q h
        refine v_goto C (tgt := 1706) dL_law_809 (by decide) ?_
        obtain rfl := Option.some.inj h
        refine v_sub [2, 3, 4, 5, 6] rfl ?_
        exact kk
      · have h := ite_f q h
        refine v_iconst C (v := 0) dL_law_807 (by decide) ?_
        cases h
  · have h := ite_f q h
    refine v_iconst C (v := 0) dL_law_790 (by decide) ?_
    cases h
set_option maxRecDepth 100000 in
set_option maxHeartbeats 4000000 in
theorem t_case9 {p : Program} {l : Launch} (hst : l.stackTraces = false) {e : Env} {s : State} {m : MethodId} {args : Array Value} {below : List Frame} {meth : Method} {c : Code} {G : GG} {A : Nat → Prop} (C : Cx p s m args meth c G A cL_law 7 RL wsL_law ret) {b L : Nat} {xs : Nat → Int32} (hX : va_X b L xs s s.heap) (hbl : b < s.heap.size) (hbA : ¬ A b) {i : Int32} (h0 : vp_in i L) (h1 : vp_in (i + 1) L) (h2 : vp_in (i + 2) L) (h3 : vp_in (i + 3) L) (h4 : vp_in (i + 4) L) {n kc ks : Nat} {Q : State → Prop} (hk0 : kc ≤ room_1.cells ∧ ks ≤ room_1.slots) (hk1 : kc + 1 ≤ room_1.cells ∧ ks + 6 ≤ room_1.slots) {w w' : Wd} {x mo ou : Nat} (h : mc_9 G.2.2.1 n w x mo ou xs i = some w')
    (kk : VQ p l e room_1 s m args below meth c G A 7 (kc + 1) (ks + 6) Q 1706 [(0, .ref b), (1, .ref x), (2, .ref mo), (3, .ref ou), (4, .int i)] [] w') : VQ p l e room_1 s m args below meth c G A 7 kc ks Q 812 [(0, .ref b), (1, .ref x), (2, .ref mo), (3, .ref ou), (4, .int i)] [] w := by
  unfold mc_9 at h
  refine v_aload_n C 1 dL_law_812 rfl rfl ?_
  refine v_aload_n C 0 dL_law_813 rfl rfl ?_
  refine v_iload C 4 dL_law_814 rfl ?_
  refine v_iconst C (v := 1) dL_law_816 (by decide) ?_
  refine v_iadd C dL_law_817 ?_
  refine v_sld C hX hbl hbA h1 dL_law_818 ?_
  refine v_aload_n C 0 dL_law_819 rfl rfl ?_
  refine v_at (pc' := 820) rfl ?_
  refine v_iload C 4 dL_law_820 rfl ?_
  refine v_iconst C (v := 2) dL_law_822 (by decide) ?_
  refine v_iadd C dL_law_823 ?_
  refine v_sld C hX hbl hbA h2 dL_law_824 ?_
  refine v_aload_n C 0 dL_law_825 rfl rfl ?_
  refine v_iload C 4 dL_law_826 rfl ?_
  refine v_iconst C (v := 3) dL_law_828 (by decide) ?_
  refine v_iadd C dL_law_829 ?_
  refine v_at (pc' := 830) rfl ?_
  refine v_sld C hX hbl hbA h3 dL_law_830 ?_
  refine v_aload_n C 3 dL_law_831 rfl rfl ?_
  obtain ⟨z1, e_z1, h⟩ := bnd h
  refine v_callSW C (av := [.ref x, .int (xs (Int32.toNatClampNeg (i + 1))), .int (xs (Int32.toNatClampNeg (i + 2))), .int (xs (Int32.toNatClampNeg (i + 3))), .ref ou]) (rest := []) gL_law_L_child rfl ⟨rfl, rfl⟩ hS_L_child ⟨(Nat.le_of_ble_eq_true rfl), (Nat.le_of_ble_eq_true rfl)⟩ (r_L_child (A := A) hst e_z1) rfl rfl (Nat.le_of_ble_eq_true rfl) dL_law_832 hk1 ?_
  refine v_istore C (lv' := [(5, .int z1.1), (0, .ref b), (1, .ref x), (2, .ref mo), (3, .ref ou), (4, .int i)]) dL_law_835 (by decide) rfl ?_
  refine v_aload_n C 3 dL_law_837 rfl rfl ?_
  refine v_aload_n C 1 dL_law_838 rfl rfl ?_
  refine v_iload C 5 dL_law_839 rfl ?_
  refine v_iconst C (v := 1) dL_law_841 (by decide) ?_
  refine v_at (pc' := 842) rfl ?_
  refine v_iadd C dL_law_842 ?_
  refine v_sld C hX hbl hbA h1 dL_law_843 ?_
  refine v_aload_n C 1 dL_law_844 rfl rfl ?_
  refine v_iload C 5 dL_law_845 rfl ?_
  refine v_iconst C (v := 2) dL_law_847 (by decide) ?_
  refine v_iadd C dL_law_848 ?_
  refine v_sld C hX hbl hbA h2 dL_law_849 ?_
  refine v_aload_n C 1 dL_law_850 rfl rfl ?_
  refine v_at (pc' := 851) rfl ?_
  refine v_iload C 5 dL_law_851 rfl ?_
  refine v_iconst C (v := 3) dL_law_853 (by decide) ?_
  refine v_iadd C dL_law_854 ?_
  refine v_sld C hX hbl hbA h3 dL_law_855 ?_
  obtain ⟨u2, e_u2, h⟩ := bnd h
  obtain ⟨z3, e_z3, h⟩ := bnd h
  refine v_callVi C (ci := 6) (av := [.int (xs (Int32.toNatClampNeg (i + 1))), .int (xs (Int32.toNatClampNeg (i + 2))), .int (xs (Int32.toNatClampNeg (i + 3)))]) (rest := []) rfl gL_law_X7_child rfl ⟨rfl, rfl⟩ hV_X7_child ⟨(Nat.le_of_ble_eq_true rfl), (Nat.le_of_ble_eq_true rfl)⟩ e_u2 (r_X7_child (A := A) e_z3) rfl rfl (Nat.le_of_ble_eq_true rfl) dL_law_856 (hk := hk1) ?_
  refine v_istore C (lv' := [(6, .int z3.1), (5, .int z1.1), (0, .ref b), (1, .ref x), (2, .ref mo), (3, .ref ou), (4, .int i)]) dL_law_859 (by decide) rfl ?_
  refine v_aload_n C 4 dL_law_861 rfl rfl ?_
  obtain ⟨u4, e_u4, h⟩ := bnd h
  obtain ⟨x5, e_x5, h⟩ := bnd h
  refine v_callVi C (ci := 6) (av := []) (rest := []) rfl gL_law_X7_thrown rfl ⟨rfl, rfl⟩ hV_X7_thrown ⟨(Nat.le_of_ble_eq_true rfl), (Nat.le_of_ble_eq_true rfl)⟩ e_u4 (r_X7_thrown (A := A) e_x5) rfl rfl (Nat.le_of_ble_eq_true rfl) dL_law_862 (hk := hk1) ?_
  refine v_at (pc' := 865) rfl ?_
  refine v_iload C 1 dL_law_865 rfl ?_
  refine v_icmp_eq C (tgt := 872) dL_law_867 (by decide) (fun q => ?_) (fun q => ?_)
  · have h := ite_t q h
    refine v_iload C 1 dL_law_872 rfl ?_
    refine v_if_ne C (tgt := 889) dL_law_874 (by decide) (fun q => ?_) (fun q => ?_)
    · have h := ite_f q h
      refine v_goto C (tgt := 1706) dL_law_889 (by decide) ?_
      obtain rfl := Option.some.inj h
      refine v_sub [2, 3, 4, 5, 6] rfl ?_
      exact kk
    · have h := ite_t q h
      refine v_aload_n C 5 dL_law_877 rfl rfl ?_
      refine v_iconst C (v := 0) dL_law_878 (by decide) ?_
      obtain ⟨x6, e_x6, h⟩ := bnd h
      refine v_lald C dL_law_879 e_x6 ?_
      refine v_iload C 0 dL_law_880 rfl ?_
      refine v_i2l C dL_law_882 ?_
      refine v_lcmp C dL_law_883 ?_
      refine v_if_eq C (tgt := 889) dL_law_884 (by decide) (fun q => ?_) (fun q => ?_)
      · have h := ite_t q h
        refine v_goto C (tgt := 1706) dL_law_889 (by decide) ?_
        obtain rfl := Option.some.inj h
        refine v_sub [2, 3, 4, 5, 6] rfl ?_
        exact kk
      · have h := ite_f q h
        refine v_iconst C (v := 0) dL_law_887 (by decide) ?_
        cases h
  · have h := ite_f q h
    refine v_iconst C (v := 0) dL_law_870 (by decide) ?_
    cases h
set_option maxRecDepth 100000 in
set_option maxHeartbeats 4000000 in
theorem t_case10 {p : Program} {l : Launch} (hst : l.stackTraces = false) {e : Env} {s : State} {m : MethodId} {args : Array Value} {below : List Frame} {meth : Method} {c : Code} {G : GG} {A : Nat → Prop} (C : Cx p s m args meth c G A cL_law 7 RL wsL_law ret) {b L : Nat} {xs : Nat → Int32} (hX : va_X b L xs s s.heap) (hbl : b < s.heap.size) (hbA : ¬ A b) {i : Int32} (h0 : vp_in i L) (h1 : vp_in (i + 1) L) (h2 : vp_in (i + 2) L) (h3 : vp_in (i + 3) L) (h4 : vp_in (i + 4) L) {n kc ks : Nat} {Q : State → Prop} (hk0 : kc ≤ room_1.cells ∧ ks ≤ room_1.slots) (hk1 : kc + 1 ≤ room_1.cells ∧ ks + 6 ≤ room_1.slots) {w w' : Wd} {x mo ou : Nat} (h : mc_10 G.2.2.1 n w x mo ou xs i = some w')
    (kk : VQ p l e room_1 s m args below meth c G A 7 (kc + 1) (ks + 6) Q 1706 [(0, .ref b), (1, .ref x), (2, .ref mo), (3, .ref ou), (4, .int i)] [] w') : VQ p l e room_1 s m args below meth c G A 7 kc ks Q 892 [(0, .ref b), (1, .ref x), (2, .ref mo), (3, .ref ou), (4, .int i)] [] w := by
  unfold mc_10 at h
  refine v_aload_n C 1 dL_law_892 rfl rfl ?_
  refine v_aload_n C 0 dL_law_893 rfl rfl ?_
  refine v_iload C 4 dL_law_894 rfl ?_
  refine v_iconst C (v := 1) dL_law_896 (by decide) ?_
  refine v_iadd C dL_law_897 ?_
  refine v_sld C hX hbl hbA h1 dL_law_898 ?_
  refine v_aload_n C 0 dL_law_899 rfl rfl ?_
  refine v_at (pc' := 900) rfl ?_
  refine v_iload C 4 dL_law_900 rfl ?_
  refine v_iconst C (v := 2) dL_law_902 (by decide) ?_
  refine v_iadd C dL_law_903 ?_
  refine v_sld C hX hbl hbA h2 dL_law_904 ?_
  refine v_aload_n C 0 dL_law_905 rfl rfl ?_
  refine v_iload C 4 dL_law_906 rfl ?_
  refine v_iconst C (v := 3) dL_law_908 (by decide) ?_
  refine v_iadd C dL_law_909 ?_
  refine v_at (pc' := 910) rfl ?_
  refine v_sld C hX hbl hbA h3 dL_law_910 ?_
  refine v_if_eq C (tgt := 918) dL_law_911 (by decide) (fun q => ?_) (fun q => ?_)
  · have h := ite_t q h
    refine v_iconst C (v := 0) dL_law_918 (by decide) ?_
    refine v_aload_n C 0 dL_law_919 rfl rfl ?_
    refine v_iload C 4 dL_law_920 rfl ?_
    refine v_iconst C (v := 4) dL_law_922 (by decide) ?_
    refine v_iadd C dL_law_923 ?_
    refine v_sld C hX hbl hbA h4 dL_law_924 ?_
    refine v_aload_n C 3 dL_law_925 rfl rfl ?_
    refine v_at (pc' := 926) rfl ?_
    obtain ⟨z1, e_z1, h⟩ := bnd h
    refine v_callSW C (av := [.ref x, .int (xs (Int32.toNatClampNeg (i + 1))), .int (xs (Int32.toNatClampNeg (i + 2))), .int 0, .int (xs (Int32.toNatClampNeg (i + 4))), .ref ou]) (rest := []) gL_law_L_search rfl ⟨rfl, rfl⟩ hS_L_search ⟨(Nat.le_of_ble_eq_true rfl), (Nat.le_of_ble_eq_true rfl)⟩ (r_L_search (A := A) hst e_z1) rfl rfl (Nat.le_of_ble_eq_true rfl) dL_law_926 hk1 ?_
    refine v_istore C (lv' := [(5, .int z1.1), (0, .ref b), (1, .ref x), (2, .ref mo), (3, .ref ou), (4, .int i)]) dL_law_929 (by decide) rfl ?_
    refine v_aload_n C 3 dL_law_931 rfl rfl ?_
    refine v_aload_n C 1 dL_law_932 rfl rfl ?_
    refine v_iload C 5 dL_law_933 rfl ?_
    refine v_iconst C (v := 1) dL_law_935 (by decide) ?_
    refine v_iadd C dL_law_936 ?_
    refine v_sld C hX hbl hbA h1 dL_law_937 ?_
    refine v_at (pc' := 938) rfl ?_
    refine v_aload_n C 1 dL_law_938 rfl rfl ?_
    refine v_iload C 5 dL_law_939 rfl ?_
    refine v_iconst C (v := 2) dL_law_941 (by decide) ?_
    refine v_iadd C dL_law_942 ?_
    refine v_sld C hX hbl hbA h2 dL_law_943 ?_
    refine v_aload_n C 1 dL_law_944 rfl rfl ?_
    refine v_iload C 5 dL_law_945 rfl ?_
    refine v_iconst C (v := 3) dL_law_947 (by decide) ?_
    refine v_at (pc' := 948) rfl ?_
    refine v_iadd C dL_law_948 ?_
    refine v_sld C hX hbl hbA h3 dL_law_949 ?_
    refine v_if_eq C (tgt := 957) dL_law_950 (by decide) (fun q => ?_) (fun q => ?_)
    · have h := ite_t q h
      refine v_iconst C (v := 0) dL_law_957 (by decide) ?_
      refine v_aload_n C 1 dL_law_958 rfl rfl ?_
      refine v_iload C 5 dL_law_959 rfl ?_
      refine v_iconst C (v := 4) dL_law_961 (by decide) ?_
      refine v_iadd C dL_law_962 ?_
      refine v_sld C hX hbl hbA h4 dL_law_963 ?_
      obtain ⟨u2, e_u2, h⟩ := bnd h
      obtain ⟨z3, e_z3, h⟩ := bnd h
      refine v_callVi C (ci := 6) (av := [.int (xs (Int32.toNatClampNeg (i + 1))), .int (xs (Int32.toNatClampNeg (i + 2))), .int 0, .int (xs (Int32.toNatClampNeg (i + 4)))]) (rest := []) rfl gL_law_X7_search rfl ⟨rfl, rfl⟩ hV_X7_search ⟨(Nat.le_of_ble_eq_true rfl), (Nat.le_of_ble_eq_true rfl)⟩ e_u2 (r_X7_search (A := A) e_z3) rfl rfl (Nat.le_of_ble_eq_true rfl) dL_law_964 (hk := hk1) ?_
      refine v_at (pc' := 967) rfl ?_
      refine v_istore C (lv' := [(6, .int z3.1), (5, .int z1.1), (0, .ref b), (1, .ref x), (2, .ref mo), (3, .ref ou), (4, .int i)]) dL_law_967 (by decide) rfl ?_
      refine v_aload_n C 4 dL_law_969 rfl rfl ?_
      obtain ⟨u4, e_u4, h⟩ := bnd h
      obtain ⟨x5, e_x5, h⟩ := bnd h
      refine v_callVi C (ci := 6) (av := []) (rest := []) rfl gL_law_X7_thrown rfl ⟨rfl, rfl⟩ hV_X7_thrown ⟨(Nat.le_of_ble_eq_true rfl), (Nat.le_of_ble_eq_true rfl)⟩ e_u4 (r_X7_thrown (A := A) e_x5) rfl rfl (Nat.le_of_ble_eq_true rfl) dL_law_970 (hk := hk1) ?_
      refine v_iload C 1 dL_law_973 rfl ?_
      refine v_icmp_eq C (tgt := 980) dL_law_975 (by decide) (fun q => ?_) (fun q => ?_)
      · have h := ite_t q h
        refine v_iload C 1 dL_law_980 rfl ?_
        refine v_if_ne C (tgt := 997) dL_law_982 (by decide) (fun q => ?_) (fun q => ?_)
        · have h := ite_f q h
          refine v_goto C (tgt := 1706) dL_law_997 (by decide) ?_
          obtain rfl := Option.some.inj h
          refine v_sub [2, 3, 4, 5, 6] rfl ?_
          exact kk
        · have h := ite_t q h
          refine v_aload_n C 5 dL_law_985 rfl rfl ?_
          refine v_iconst C (v := 0) dL_law_986 (by decide) ?_
          obtain ⟨x6, e_x6, h⟩ := bnd h
          refine v_lald C dL_law_987 e_x6 ?_
          refine v_iload C 0 dL_law_988 rfl ?_
          refine v_i2l C dL_law_990 ?_
          refine v_lcmp C dL_law_991 ?_
          refine v_if_eq C (tgt := 997) dL_law_992 (by decide) (fun q => ?_) (fun q => ?_)
          · have h := ite_t q h
            refine v_goto C (tgt := 1706) dL_law_997 (by decide) ?_
            obtain rfl := Option.some.inj h
            refine v_sub [2, 3, 4, 5, 6] rfl ?_
            exact kk
          · have h := ite_f q h
            refine v_iconst C (v := 0) dL_law_995 (by decide) ?_
            cases h
      · have h := ite_f q h
        refine v_iconst C (v := 0) dL_law_978 (by decide) ?_
        cases h
    · have h := ite_f q h
      refine v_iconst C (v := 1) dL_law_953 (by decide) ?_
      refine v_goto C (tgt := 958) dL_law_954 (by decide) ?_
      refine v_aload_n C 1 dL_law_958 rfl rfl ?_
      refine v_iload C 5 dL_law_959 rfl ?_
      refine v_iconst C (v := 4) dL_law_961 (by decide) ?_
      refine v_iadd C dL_law_962 ?_
      refine v_sld C hX hbl hbA h4 dL_law_963 ?_
      refine v_at (pc' := 964) rfl ?_
      obtain ⟨u7, e_u7, h⟩ := bnd h
      obtain ⟨z8, e_z8, h⟩ := bnd h
      refine v_callVi C (ci := 6) (av := [.int (xs (Int32.toNatClampNeg (i + 1))), .int (xs (Int32.toNatClampNeg (i + 2))), .int 1, .int (xs (Int32.toNatClampNeg (i + 4)))]) (rest := []) rfl gL_law_X7_search rfl ⟨rfl, rfl⟩ hV_X7_search ⟨(Nat.le_of_ble_eq_true rfl), (Nat.le_of_ble_eq_true rfl)⟩ e_u7 (r_X7_search (A := A) e_z8) rfl rfl (Nat.le_of_ble_eq_true rfl) dL_law_964 (hk := hk1) ?_
      refine v_istore C (lv' := [(6, .int z8.1), (5, .int z1.1), (0, .ref b), (1, .ref x), (2, .ref mo), (3, .ref ou), (4, .int i)]) dL_law_967 (by decide) rfl ?_
      refine v_aload_n C 4 dL_law_969 rfl rfl ?_
      obtain ⟨u9, e_u9, h⟩ := bnd h
      obtain ⟨x10, e_x10, h⟩ := bnd h
      refine v_callVi C (ci := 6) (av := []) (rest := []) rfl gL_law_X7_thrown rfl ⟨rfl, rfl⟩ hV_X7_thrown ⟨(Nat.le_of_ble_eq_true rfl), (Nat.le_of_ble_eq_true rfl)⟩ e_u9 (r_X7_thrown (A := A) e_x10) rfl rfl (Nat.le_of_ble_eq_true rfl) dL_law_970 (hk := hk1) ?_
      refine v_iload C 1 dL_law_973 rfl ?_
      refine v_icmp_eq C (tgt := 980) dL_law_975 (by decide) (fun q => ?_) (fun q => ?_)
      · have h := ite_t q h
        refine v_iload C 1 dL_law_980 rfl ?_
        refine v_if_ne C (tgt := 997) dL_law_982 (by decide) (fun q => ?_) (fun q => ?_)
        · have h := ite_f q h
          refine v_goto C (tgt := 1706) dL_law_997 (by decide) ?_
          obtain rfl := Option.some.inj h
          refine v_sub [2, 3, 4, 5, 6] rfl ?_
          exact kk
        · have h := ite_t q h
          refine v_aload_n C 5 dL_law_985 rfl rfl ?_
          refine v_iconst C (v := 0) dL_law_986 (by decide) ?_
          obtain ⟨x11, e_x11, h⟩ := bnd h
          refine v_lald C dL_law_987 e_x11 ?_
          refine v_iload C 0 dL_law_988 rfl ?_
          refine v_i2l C dL_law_990 ?_
          refine v_lcmp C dL_law_991 ?_
          refine v_if_eq C (tgt := 997) dL_law_992 (by decide) (fun q => ?_) (fun q => ?_)
          · have h := ite_t q h
            refine v_goto C (tgt := 1706) dL_law_997 (by decide) ?_
            obtain rfl := Option.some.inj h
            refine v_sub [2, 3, 4, 5, 6] rfl ?_
            exact kk
          · have h := ite_f q h
            refine v_iconst C (v := 0) dL_law_995 (by decide) ?_
            cases h
      · have h := ite_f q h
        refine v_iconst C (v := 0) dL_law_978 (by decide) ?_
        cases h
  · have h := ite_f q h
    refine v_iconst C (v := 1) dL_law_914 (by decide) ?_
    refine v_goto C (tgt := 919) dL_law_915 (by decide) ?_
    refine v_aload_n C 0 dL_law_919 rfl rfl ?_
    refine v_iload C 4 dL_law_920 rfl ?_
    refine v_iconst C (v := 4) dL_law_922 (by decide) ?_
    refine v_iadd C dL_law_923 ?_
    refine v_sld C hX hbl hbA h4 dL_law_924 ?_
    refine v_at (pc' := 925) rfl ?_
    refine v_aload_n C 3 dL_law_925 rfl rfl ?_
    obtain ⟨z12, e_z12, h⟩ := bnd h
    refine v_callSW C (av := [.ref x, .int (xs (Int32.toNatClampNeg (i + 1))), .int (xs (Int32.toNatClampNeg (i + 2))), .int 1, .int (xs (Int32.toNatClampNeg (i + 4))), .ref ou]) (rest := []) gL_law_L_search rfl ⟨rfl, rfl⟩ hS_L_search ⟨(Nat.le_of_ble_eq_true rfl), (Nat.le_of_ble_eq_true rfl)⟩ (r_L_search (A := A) hst e_z12) rfl rfl (Nat.le_of_ble_eq_true rfl) dL_law_926 hk1 ?_
    refine v_istore C (lv' := [(5, .int z12.1), (0, .ref b), (1, .ref x), (2, .ref mo), (3, .ref ou), (4, .int i)]) dL_law_929 (by decide) rfl ?_
    refine v_aload_n C 3 dL_law_931 rfl rfl ?_
    refine v_aload_n C 1 dL_law_932 rfl rfl ?_
    refine v_iload C 5 dL_law_933 rfl ?_
    refine v_iconst C (v := 1) dL_law_935 (by decide) ?_
    refine v_iadd C dL_law_936 ?_
    refine v_at (pc' := 937) rfl ?_
    refine v_sld C hX hbl hbA h1 dL_law_937 ?_
    refine v_aload_n C 1 dL_law_938 rfl rfl ?_
    refine v_iload C 5 dL_law_939 rfl ?_
    refine v_iconst C (v := 2) dL_law_941 (by decide) ?_
    refine v_iadd C dL_law_942 ?_
    refine v_sld C hX hbl hbA h2 dL_law_943 ?_
    refine v_aload_n C 1 dL_law_944 rfl rfl ?_
    refine v_iload C 5 dL_law_945 rfl ?_
    refine v_at (pc' := 947) rfl ?_
    refine v_iconst C (v := 3) dL_law_947 (by decide) ?_
    refine v_iadd C dL_law_948 ?_
    refine v_sld C hX hbl hbA h3 dL_law_949 ?_
    refine v_if_eq C (tgt := 957) dL_law_950 (by decide) (fun q => ?_) (fun q => ?_)
    · have h := ite_t q h
      refine v_iconst C (v := 0) dL_law_957 (by decide) ?_
      refine v_aload_n C 1 dL_law_958 rfl rfl ?_
      refine v_iload C 5 dL_law_959 rfl ?_
      refine v_iconst C (v := 4) dL_law_961 (by decide) ?_
      refine v_iadd C dL_law_962 ?_
      refine v_sld C hX hbl hbA h4 dL_law_963 ?_
      obtain ⟨u13, e_u13, h⟩ := bnd h
      obtain ⟨z14, e_z14, h⟩ := bnd h
      refine v_callVi C (ci := 6) (av := [.int (xs (Int32.toNatClampNeg (i + 1))), .int (xs (Int32.toNatClampNeg (i + 2))), .int 0, .int (xs (Int32.toNatClampNeg (i + 4)))]) (rest := []) rfl gL_law_X7_search rfl ⟨rfl, rfl⟩ hV_X7_search ⟨(Nat.le_of_ble_eq_true rfl), (Nat.le_of_ble_eq_true rfl)⟩ e_u13 (r_X7_search (A := A) e_z14) rfl rfl (Nat.le_of_ble_eq_true rfl) dL_law_964 (hk := hk1) ?_
      refine v_at (pc' := 967) rfl ?_
      refine v_istore C (lv' := [(6, .int z14.1), (5, .int z12.1), (0, .ref b), (1, .ref x), (2, .ref mo), (3, .ref ou), (4, .int i)]) dL_law_967 (by decide) rfl ?_
      refine v_aload_n C 4 dL_law_969 rfl rfl ?_
      obtain ⟨u15, e_u15, h⟩ := bnd h
      obtain ⟨x16, e_x16, h⟩ := bnd h
      refine v_callVi C (ci := 6) (av := []) (rest := []) rfl gL_law_X7_thrown rfl ⟨rfl, rfl⟩ hV_X7_thrown ⟨(Nat.le_of_ble_eq_true rfl), (Nat.le_of_ble_eq_true rfl)⟩ e_u15 (r_X7_thrown (A := A) e_x16) rfl rfl (Nat.le_of_ble_eq_true rfl) dL_law_970 (hk := hk1) ?_
      refine v_iload C 1 dL_law_973 rfl ?_
      refine v_icmp_eq C (tgt := 980) dL_law_975 (by decide) (fun q => ?_) (fun q => ?_)
      · have h := ite_t q h
        refine v_iload C 1 dL_law_980 rfl ?_
        refine v_if_ne C (tgt := 997) dL_law_982 (by decide) (fun q => ?_) (fun q => ?_)
        · have h := ite_f q h
          refine v_goto C (tgt := 1706) dL_law_997 (by decide) ?_
          obtain rfl := Option.some.inj h
          refine v_sub [2, 3, 4, 5, 6] rfl ?_
          exact kk
        · have h := ite_t q h
          refine v_aload_n C 5 dL_law_985 rfl rfl ?_
          refine v_iconst C (v := 0) dL_law_986 (by decide) ?_
          obtain ⟨x17, e_x17, h⟩ := bnd h
          refine v_lald C dL_law_987 e_x17 ?_
          refine v_iload C 0 dL_law_988 rfl ?_
          refine v_i2l C dL_law_990 ?_
          refine v_lcmp C dL_law_991 ?_
          refine v_if_eq C (tgt := 997) dL_law_992 (by decide) (fun q => ?_) (fun q => ?_)
          · have h := ite_t q h
            refine v_goto C (tgt := 1706) dL_law_997 (by decide) ?_
            obtain rfl := Option.some.inj h
            refine v_sub [2, 3, 4, 5, 6] rfl ?_
            exact kk
          · have h := ite_f q h
            refine v_iconst C (v := 0) dL_law_995 (by decide) ?_
            cases h
      · have h := ite_f q h
        refine v_iconst C (v := 0) dL_law_978 (by decide) ?_
        cases h
    · have h := ite_f q h
      refine v_iconst C (v := 1) dL_law_953 (by decide) ?_
      refine v_goto C (tgt := 958) dL_law_954 (by decide) ?_
      refine v_aload_n C 1 dL_law_958 rfl rfl ?_
      refine v_iload C 5 dL_law_959 rfl ?_
      refine v_iconst C (v := 4) dL_law_961 (by decide) ?_
      refine v_iadd C dL_law_962 ?_
      refine v_sld C hX hbl hbA h4 dL_law_963 ?_
      refine v_at (pc' := 964) rfl ?_
      obtain ⟨u18, e_u18, h⟩ := bnd h
      obtain ⟨z19, e_z19, h⟩ := bnd h
      refine v_callVi C (ci := 6) (av := [.int (xs (Int32.toNatClampNeg (i + 1))), .int (xs (Int32.toNatClampNeg (i + 2))), .int 1, .int (xs (Int32.toNatClampNeg (i + 4)))]) (rest := []) rfl gL_law_X7_search rfl ⟨rfl, rfl⟩ hV_X7_search ⟨(Nat.le_of_ble_eq_true rfl), (Nat.le_of_ble_eq_true rfl)⟩ e_u18 (r_X7_search (A := A) e_z19) rfl rfl (Nat.le_of_ble_eq_true rfl) dL_law_964 (hk := hk1) ?_
      refine v_istore C (lv' := [(6, .int z19.1), (5, .int z12.1), (0, .ref b), (1, .ref x), (2, .ref mo), (3, .ref ou), (4, .int i)]) dL_law_967 (by decide) rfl ?_
      refine v_aload_n C 4 dL_law_969 rfl rfl ?_
      obtain ⟨u20, e_u20, h⟩ := bnd h
      obtain ⟨x21, e_x21, h⟩ := bnd h
      refine v_callVi C (ci := 6) (av := []) (rest := []) rfl gL_law_X7_thrown rfl ⟨rfl, rfl⟩ hV_X7_thrown ⟨(Nat.le_of_ble_eq_true rfl), (Nat.le_of_ble_eq_true rfl)⟩ e_u20 (r_X7_thrown (A := A) e_x21) rfl rfl (Nat.le_of_ble_eq_true rfl) dL_law_970 (hk := hk1) ?_
      refine v_iload C 1 dL_law_973 rfl ?_
      refine v_icmp_eq C (tgt := 980) dL_law_975 (by decide) (fun q => ?_) (fun q => ?_)
      · have h := ite_t q h
        refine v_iload C 1 dL_law_980 rfl ?_
        refine v_if_ne C (tgt := 997) dL_law_982 (by decide) (fun q => ?_) (fun q => ?_)
        · have h := ite_f q h
          refine v_goto C (tgt := 1706) dL_law_997 (by decide) ?_
          obtain rfl := Option.some.inj h
          refine v_sub [2, 3, 4, 5, 6] rfl ?_
          exact kk
        · have h := ite_t q h
          refine v_aload_n C 5 dL_law_985 rfl rfl ?_
          refine v_iconst C (v := 0) dL_law_986 (by decide) ?_
          obtain ⟨x22, e_x22, h⟩ := bnd h
          refine v_lald C dL_law_987 e_x22 ?_
          refine v_iload C 0 dL_law_988 rfl ?_
          refine v_i2l C dL_law_990 ?_
          refine v_lcmp C dL_law_991 ?_
          refine v_if_eq C (tgt := 997) dL_law_992 (by decide) (fun q => ?_) (fun q => ?_)
          · have h := ite_t q h
            refine v_goto C (tgt := 1706) dL_law_997 (by decide) ?_
            obtain rfl := Option.some.inj h
            refine v_sub [2, 3, 4, 5, 6] rfl ?_
            exact kk
          · have h := ite_f q h
            refine v_iconst C (v := 0) dL_law_995 (by decide) ?_
            cases h
      · have h := ite_f q h
        refine v_iconst C (v := 0) dL_law_978 (by decide) ?_
        cases h
set_option maxRecDepth 100000 in
set_option maxHeartbeats 4000000 in
theorem t_case11 {p : Program} {l : Launch} (hst : l.stackTraces = false) {e : Env} {s : State} {m : MethodId} {args : Array Value} {below : List Frame} {meth : Method} {c : Code} {G : GG} {A : Nat → Prop} (C : Cx p s m args meth c G A cL_law 7 RL wsL_law ret) {b L : Nat} {xs : Nat → Int32} (hX : va_X b L xs s s.heap) (hbl : b < s.heap.size) (hbA : ¬ A b) {i : Int32} (h0 : vp_in i L) (h1 : vp_in (i + 1) L) (h2 : vp_in (i + 2) L) (h3 : vp_in (i + 3) L) (h4 : vp_in (i + 4) L) {n kc ks : Nat} {Q : State → Prop} (hk0 : kc ≤ room_1.cells ∧ ks ≤ room_1.slots) (hk1 : kc + 1 ≤ room_1.cells ∧ ks + 6 ≤ room_1.slots) {w w' : Wd} {x mo ou : Nat} (h : mc_11 G.2.2.1 n w x mo ou xs i = some w')
    (kk : VQ p l e room_1 s m args below meth c G A 7 (kc + 1) (ks + 6) Q 1706 [(0, .ref b), (1, .ref x), (2, .ref mo), (3, .ref ou), (4, .int i)] [] w') : VQ p l e room_1 s m args below meth c G A 7 kc ks Q 1000 [(0, .ref b), (1, .ref x), (2, .ref mo), (3, .ref ou), (4, .int i)] [] w := by
  unfold mc_11 at h
  refine v_aload_n C 1 dL_law_1000 rfl rfl ?_
  refine v_aload_n C 0 dL_law_1001 rfl rfl ?_
  refine v_iload C 4 dL_law_1002 rfl ?_
  refine v_iconst C (v := 1) dL_law_1004 (by decide) ?_
  refine v_iadd C dL_law_1005 ?_
  refine v_sld C hX hbl hbA h1 dL_law_1006 ?_
  refine v_if_eq C (tgt := 1014) dL_law_1007 (by decide) (fun q => ?_) (fun q => ?_)
  · have h := ite_t q h
    refine v_iconst C (v := 0) dL_law_1014 (by decide) ?_
    obtain ⟨u1, e_u1, h⟩ := bnd h
    obtain ⟨x2, e_x2, h⟩ := bnd h
    refine v_callVi C (ci := 5) (av := [.int 0]) (rest := []) rfl gL_law_X6_worst rfl ⟨rfl, rfl⟩ hV_X6_worst ⟨(Nat.le_of_ble_eq_true rfl), (Nat.le_of_ble_eq_true rfl)⟩ e_u1 (r_X6_worst (A := A) e_x2) rfl rfl (Nat.le_of_ble_eq_true rfl) dL_law_1015 (hk := hk0) ?_
    refine v_aload_n C 2 dL_law_1018 rfl rfl ?_
    refine v_aload_n C 0 dL_law_1019 rfl rfl ?_
    refine v_iload C 4 dL_law_1020 rfl ?_
    refine v_iconst C (v := 1) dL_law_1022 (by decide) ?_
    refine v_iadd C dL_law_1023 ?_
    refine v_at (pc' := 1024) rfl ?_
    refine v_sld C hX hbl hbA h1 dL_law_1024 ?_
    refine v_if_eq C (tgt := 1032) dL_law_1025 (by decide) (fun q => ?_) (fun q => ?_)
    · have h := ite_t q h
      refine v_iconst C (v := 0) dL_law_1032 (by decide) ?_
      obtain ⟨u3, e_u3, h⟩ := bnd h
      obtain ⟨z4, e_z4, h⟩ := bnd h
      refine v_callVi C (ci := 6) (av := [.int 0]) (rest := [.int x2]) rfl gL_law_X7_worst rfl ⟨rfl, rfl⟩ hV_X7_worst ⟨(Nat.le_of_ble_eq_true rfl), (Nat.le_of_ble_eq_true rfl)⟩ e_u3 (r_X7_worst (A := A) e_z4) rfl rfl (Nat.le_of_ble_eq_true rfl) dL_law_1033 (hk := hk0) ?_
      refine v_icmp_eq C (tgt := 1706) dL_law_1036 (by decide) (fun q => ?_) (fun q => ?_)
      · have h := ite_t q h
        obtain rfl := Option.some.inj h
        exact v_widen (Nat.le_add_right _ _) (Nat.le_add_right _ _) kk
      · have h := ite_f q h
        refine v_iconst C (v := 0) dL_law_1039 (by decide) ?_
        cases h
    · have h := ite_f q h
      refine v_iconst C (v := 1) dL_law_1028 (by decide) ?_
      refine v_goto C (tgt := 1033) dL_law_1029 (by decide) ?_
      obtain ⟨u5, e_u5, h⟩ := bnd h
      obtain ⟨z6, e_z6, h⟩ := bnd h
      refine v_callVi C (ci := 6) (av := [.int 1]) (rest := [.int x2]) rfl gL_law_X7_worst rfl ⟨rfl, rfl⟩ hV_X7_worst ⟨(Nat.le_of_ble_eq_true rfl), (Nat.le_of_ble_eq_true rfl)⟩ e_u5 (r_X7_worst (A := A) e_z6) rfl rfl (Nat.le_of_ble_eq_true rfl) dL_law_1033 (hk := hk0) ?_
      refine v_icmp_eq C (tgt := 1706) dL_law_1036 (by decide) (fun q => ?_) (fun q => ?_)
      · have h := ite_t q h
        obtain rfl := Option.some.inj h
        exact v_widen (Nat.le_add_right _ _) (Nat.le_add_right _ _) kk
      · have h := ite_f q h
        refine v_iconst C (v := 0) dL_law_1039 (by decide) ?_
        cases h
  · have h := ite_f q h
    refine v_iconst C (v := 1) dL_law_1010 (by decide) ?_
    refine v_goto C (tgt := 1015) dL_law_1011 (by decide) ?_
    obtain ⟨u7, e_u7, h⟩ := bnd h
    obtain ⟨x8, e_x8, h⟩ := bnd h
    refine v_callVi C (ci := 5) (av := [.int 1]) (rest := []) rfl gL_law_X6_worst rfl ⟨rfl, rfl⟩ hV_X6_worst ⟨(Nat.le_of_ble_eq_true rfl), (Nat.le_of_ble_eq_true rfl)⟩ e_u7 (r_X6_worst (A := A) e_x8) rfl rfl (Nat.le_of_ble_eq_true rfl) dL_law_1015 (hk := hk0) ?_
    refine v_aload_n C 2 dL_law_1018 rfl rfl ?_
    refine v_aload_n C 0 dL_law_1019 rfl rfl ?_
    refine v_iload C 4 dL_law_1020 rfl ?_
    refine v_iconst C (v := 1) dL_law_1022 (by decide) ?_
    refine v_at (pc' := 1023) rfl ?_
    refine v_iadd C dL_law_1023 ?_
    refine v_sld C hX hbl hbA h1 dL_law_1024 ?_
    refine v_if_eq C (tgt := 1032) dL_law_1025 (by decide) (fun q => ?_) (fun q => ?_)
    · have h := ite_t q h
      refine v_iconst C (v := 0) dL_law_1032 (by decide) ?_
      obtain ⟨u9, e_u9, h⟩ := bnd h
      obtain ⟨z10, e_z10, h⟩ := bnd h
      refine v_callVi C (ci := 6) (av := [.int 0]) (rest := [.int x8]) rfl gL_law_X7_worst rfl ⟨rfl, rfl⟩ hV_X7_worst ⟨(Nat.le_of_ble_eq_true rfl), (Nat.le_of_ble_eq_true rfl)⟩ e_u9 (r_X7_worst (A := A) e_z10) rfl rfl (Nat.le_of_ble_eq_true rfl) dL_law_1033 (hk := hk0) ?_
      refine v_icmp_eq C (tgt := 1706) dL_law_1036 (by decide) (fun q => ?_) (fun q => ?_)
      · have h := ite_t q h
        obtain rfl := Option.some.inj h
        exact v_widen (Nat.le_add_right _ _) (Nat.le_add_right _ _) kk
      · have h := ite_f q h
        refine v_iconst C (v := 0) dL_law_1039 (by decide) ?_
        cases h
    · have h := ite_f q h
      refine v_iconst C (v := 1) dL_law_1028 (by decide) ?_
      refine v_goto C (tgt := 1033) dL_law_1029 (by decide) ?_
      obtain ⟨u11, e_u11, h⟩ := bnd h
      obtain ⟨z12, e_z12, h⟩ := bnd h
      refine v_callVi C (ci := 6) (av := [.int 1]) (rest := [.int x8]) rfl gL_law_X7_worst rfl ⟨rfl, rfl⟩ hV_X7_worst ⟨(Nat.le_of_ble_eq_true rfl), (Nat.le_of_ble_eq_true rfl)⟩ e_u11 (r_X7_worst (A := A) e_z12) rfl rfl (Nat.le_of_ble_eq_true rfl) dL_law_1033 (hk := hk0) ?_
      refine v_icmp_eq C (tgt := 1706) dL_law_1036 (by decide) (fun q => ?_) (fun q => ?_)
      · have h := ite_t q h
        obtain rfl := Option.some.inj h
        exact v_widen (Nat.le_add_right _ _) (Nat.le_add_right _ _) kk
      · have h := ite_f q h
        refine v_iconst C (v := 0) dL_law_1039 (by decide) ?_
        cases h
set_option maxRecDepth 100000 in
set_option maxHeartbeats 4000000 in
theorem t_case12 {p : Program} {l : Launch} (hst : l.stackTraces = false) {e : Env} {s : State} {m : MethodId} {args : Array Value} {below : List Frame} {meth : Method} {c : Code} {G : GG} {A : Nat → Prop} (C : Cx p s m args meth c G A cL_law 7 RL wsL_law ret) {b L : Nat} {xs : Nat → Int32} (hX : va_X b L xs s s.heap) (hbl : b < s.heap.size) (hbA : ¬ A b) {i : Int32} (h0 : vp_in i L) (h1 : vp_in (i + 1) L) (h2 : vp_in (i + 2) L) (h3 : vp_in (i + 3) L) (h4 : vp_in (i + 4) L) {n kc ks : Nat} {Q : State → Prop} (hk0 : kc ≤ room_1.cells ∧ ks ≤ room_1.slots) (hk1 : kc + 1 ≤ room_1.cells ∧ ks + 6 ≤ room_1.slots) {w w' : Wd} {x mo ou : Nat} (h : mc_12 G.2.2.1 n w x mo ou xs i = some w')
    (kk : VQ p l e room_1 s m args below meth c G A 7 (kc + 1) (ks + 6) Q 1706 [(0, .ref b), (1, .ref x), (2, .ref mo), (3, .ref ou), (4, .int i)] [] w') : VQ p l e room_1 s m args below meth c G A 7 kc ks Q 1041 [(0, .ref b), (1, .ref x), (2, .ref mo), (3, .ref ou), (4, .int i)] [] w := by
  unfold mc_12 at h
  refine v_aload_n C 1 dL_law_1041 rfl rfl ?_
  refine v_aload_n C 0 dL_law_1042 rfl rfl ?_
  refine v_iload C 4 dL_law_1043 rfl ?_
  refine v_iconst C (v := 1) dL_law_1045 (by decide) ?_
  refine v_iadd C dL_law_1046 ?_
  refine v_sld C hX hbl hbA h1 dL_law_1047 ?_
  refine v_aload_n C 0 dL_law_1048 rfl rfl ?_
  refine v_at (pc' := 1049) rfl ?_
  refine v_iload C 4 dL_law_1049 rfl ?_
  refine v_iconst C (v := 2) dL_law_1051 (by decide) ?_
  refine v_iadd C dL_law_1052 ?_
  refine v_sld C hX hbl hbA h2 dL_law_1053 ?_
  refine v_aload_n C 0 dL_law_1054 rfl rfl ?_
  refine v_iload C 4 dL_law_1055 rfl ?_
  refine v_iconst C (v := 3) dL_law_1057 (by decide) ?_
  refine v_iadd C dL_law_1058 ?_
  refine v_at (pc' := 1059) rfl ?_
  refine v_sld C hX hbl hbA h3 dL_law_1059 ?_
  refine v_aload_n C 3 dL_law_1060 rfl rfl ?_
  obtain ⟨z1, e_z1, h⟩ := bnd h
  refine v_callSW C (av := [.ref x, .int (xs (Int32.toNatClampNeg (i + 1))), .int (xs (Int32.toNatClampNeg (i + 2))), .int (xs (Int32.toNatClampNeg (i + 3))), .ref ou]) (rest := []) gL_law_L_wouldTouch rfl ⟨rfl, rfl⟩ hS_L_wouldTouch ⟨(Nat.le_of_ble_eq_true rfl), (Nat.le_of_ble_eq_true rfl)⟩ (r_L_wouldTouch (A := A) hst e_z1) rfl rfl (Nat.le_of_ble_eq_true rfl) dL_law_1061 hk1 ?_
  refine v_istore C (lv' := [(5, .int z1.1), (0, .ref b), (1, .ref x), (2, .ref mo), (3, .ref ou), (4, .int i)]) dL_law_1064 (by decide) rfl ?_
  refine v_aload_n C 3 dL_law_1066 rfl rfl ?_
  refine v_aload_n C 1 dL_law_1067 rfl rfl ?_
  refine v_iload C 5 dL_law_1068 rfl ?_
  refine v_iconst C (v := 1) dL_law_1070 (by decide) ?_
  refine v_at (pc' := 1071) rfl ?_
  refine v_iadd C dL_law_1071 ?_
  refine v_sld C hX hbl hbA h1 dL_law_1072 ?_
  refine v_aload_n C 1 dL_law_1073 rfl rfl ?_
  refine v_iload C 5 dL_law_1074 rfl ?_
  refine v_iconst C (v := 2) dL_law_1076 (by decide) ?_
  refine v_iadd C dL_law_1077 ?_
  refine v_sld C hX hbl hbA h2 dL_law_1078 ?_
  refine v_aload_n C 1 dL_law_1079 rfl rfl ?_
  refine v_at (pc' := 1080) rfl ?_
  refine v_iload C 5 dL_law_1080 rfl ?_
  refine v_iconst C (v := 3) dL_law_1082 (by decide) ?_
  refine v_iadd C dL_law_1083 ?_
  refine v_sld C hX hbl hbA h3 dL_law_1084 ?_
  obtain ⟨u2, e_u2, h⟩ := bnd h
  obtain ⟨z3, e_z3, h⟩ := bnd h
  refine v_callVi C (ci := 6) (av := [.int (xs (Int32.toNatClampNeg (i + 1))), .int (xs (Int32.toNatClampNeg (i + 2))), .int (xs (Int32.toNatClampNeg (i + 3)))]) (rest := []) rfl gL_law_X7_wouldTouch rfl ⟨rfl, rfl⟩ hV_X7_wouldTouch ⟨(Nat.le_of_ble_eq_true rfl), (Nat.le_of_ble_eq_true rfl)⟩ e_u2 (r_X7_wouldTouch (A := A) e_z3) rfl rfl (Nat.le_of_ble_eq_true rfl) dL_law_1085 (hk := hk1) ?_
  refine v_istore C (lv' := [(6, .int z3.1), (5, .int z1.1), (0, .ref b), (1, .ref x), (2, .ref mo), (3, .ref ou), (4, .int i)]) dL_law_1088 (by decide) rfl ?_
  refine v_aload_n C 4 dL_law_1090 rfl rfl ?_
  obtain ⟨u4, e_u4, h⟩ := bnd h
  obtain ⟨x5, e_x5, h⟩ := bnd h
  refine v_callVi C (ci := 6) (av := []) (rest := []) rfl gL_law_X7_thrown rfl ⟨rfl, rfl⟩ hV_X7_thrown ⟨(Nat.le_of_ble_eq_true rfl), (Nat.le_of_ble_eq_true rfl)⟩ e_u4 (r_X7_thrown (A := A) e_x5) rfl rfl (Nat.le_of_ble_eq_true rfl) dL_law_1091 (hk := hk1) ?_
  refine v_at (pc' := 1094) rfl ?_
  refine v_iload C 1 dL_law_1094 rfl ?_
  refine v_icmp_eq C (tgt := 1101) dL_law_1096 (by decide) (fun q => ?_) (fun q => ?_)
  · have h := ite_t q h
    refine v_iload C 1 dL_law_1101 rfl ?_
    refine v_if_ne C (tgt := 1118) dL_law_1103 (by decide) (fun q => ?_) (fun q => ?_)
    · have h := ite_f q h
      refine v_goto C (tgt := 1706) dL_law_1118 (by decide) ?_
      obtain rfl := Option.some.inj h
      refine v_sub [2, 3, 4, 5, 6] rfl ?_
      exact kk
    · have h := ite_t q h
      refine v_aload_n C 5 dL_law_1106 rfl rfl ?_
      refine v_iconst C (v := 0) dL_law_1107 (by decide) ?_
      obtain ⟨x6, e_x6, h⟩ := bnd h
      refine v_lald C dL_law_1108 e_x6 ?_
      refine v_iload C 0 dL_law_1109 rfl ?_
      refine v_i2l C dL_law_1111 ?_
      refine v_lcmp C dL_law_1112 ?_
      refine v_if_eq C (tgt := 1118) dL_law_1113 (by decide) (fun q => ?_) (fun q => ?_)
      · have h := ite_t q h
        refine v_goto C (tgt := 1706) dL_law_1118 (by decide) ?_
        obtain rfl := Option.some.inj h
        refine v_sub [2, 3, 4, 5, 6] rfl ?_
        exact kk
      · have h := ite_f q h
        refine v_iconst C (v := 0) dL_law_1116 (by decide) ?_
        cases h
  · have h := ite_f q h
    refine v_iconst C (v := 0) dL_law_1099 (by decide) ?_
    cases h
set_option maxRecDepth 100000 in
set_option maxHeartbeats 4000000 in
theorem t_case13 {p : Program} {l : Launch} (hst : l.stackTraces = false) {e : Env} {s : State} {m : MethodId} {args : Array Value} {below : List Frame} {meth : Method} {c : Code} {G : GG} {A : Nat → Prop} (C : Cx p s m args meth c G A cL_law 7 RL wsL_law ret) {b L : Nat} {xs : Nat → Int32} (hX : va_X b L xs s s.heap) (hbl : b < s.heap.size) (hbA : ¬ A b) {i : Int32} (h0 : vp_in i L) (h1 : vp_in (i + 1) L) (h2 : vp_in (i + 2) L) (h3 : vp_in (i + 3) L) (h4 : vp_in (i + 4) L) {n kc ks : Nat} {Q : State → Prop} (hk0 : kc ≤ room_1.cells ∧ ks ≤ room_1.slots) (hk1 : kc + 1 ≤ room_1.cells ∧ ks + 6 ≤ room_1.slots) {w w' : Wd} {x mo ou : Nat} (h : mc_13 G.2.2.1 n w x mo ou xs i = some w')
    (kk : VQ p l e room_1 s m args below meth c G A 7 (kc + 1) (ks + 6) Q 1706 [(0, .ref b), (1, .ref x), (2, .ref mo), (3, .ref ou), (4, .int i)] [] w') : VQ p l e room_1 s m args below meth c G A 7 kc ks Q 1121 [(0, .ref b), (1, .ref x), (2, .ref mo), (3, .ref ou), (4, .int i)] [] w := by
  unfold mc_13 at h
  refine v_aload_n C 1 dL_law_1121 rfl rfl ?_
  refine v_aload_n C 0 dL_law_1122 rfl rfl ?_
  refine v_iload C 4 dL_law_1123 rfl ?_
  refine v_iconst C (v := 1) dL_law_1125 (by decide) ?_
  refine v_iadd C dL_law_1126 ?_
  refine v_sld C hX hbl hbA h1 dL_law_1127 ?_
  refine v_aload_n C 0 dL_law_1128 rfl rfl ?_
  refine v_at (pc' := 1129) rfl ?_
  refine v_iload C 4 dL_law_1129 rfl ?_
  refine v_iconst C (v := 2) dL_law_1131 (by decide) ?_
  refine v_iadd C dL_law_1132 ?_
  refine v_sld C hX hbl hbA h2 dL_law_1133 ?_
  refine v_aload_n C 0 dL_law_1134 rfl rfl ?_
  refine v_iload C 4 dL_law_1135 rfl ?_
  refine v_iconst C (v := 3) dL_law_1137 (by decide) ?_
  refine v_iadd C dL_law_1138 ?_
  refine v_at (pc' := 1139) rfl ?_
  refine v_sld C hX hbl hbA h3 dL_law_1139 ?_
  refine v_aload_n C 3 dL_law_1140 rfl rfl ?_
  obtain ⟨z1, e_z1, h⟩ := bnd h
  refine v_callSW C (av := [.ref x, .int (xs (Int32.toNatClampNeg (i + 1))), .int (xs (Int32.toNatClampNeg (i + 2))), .int (xs (Int32.toNatClampNeg (i + 3))), .ref ou]) (rest := []) gL_law_L_open rfl ⟨rfl, rfl⟩ hS_L_open ⟨(Nat.le_of_ble_eq_true rfl), (Nat.le_of_ble_eq_true rfl)⟩ (r_L_open (A := A) hst e_z1) rfl rfl (Nat.le_of_ble_eq_true rfl) dL_law_1141 hk1 ?_
  refine v_istore C (lv' := [(5, .int z1.1), (0, .ref b), (1, .ref x), (2, .ref mo), (3, .ref ou), (4, .int i)]) dL_law_1144 (by decide) rfl ?_
  refine v_aload_n C 3 dL_law_1146 rfl rfl ?_
  refine v_aload_n C 1 dL_law_1147 rfl rfl ?_
  refine v_iload C 5 dL_law_1148 rfl ?_
  refine v_iconst C (v := 1) dL_law_1150 (by decide) ?_
  refine v_at (pc' := 1151) rfl ?_
  refine v_iadd C dL_law_1151 ?_
  refine v_sld C hX hbl hbA h1 dL_law_1152 ?_
  refine v_aload_n C 1 dL_law_1153 rfl rfl ?_
  refine v_iload C 5 dL_law_1154 rfl ?_
  refine v_iconst C (v := 2) dL_law_1156 (by decide) ?_
  refine v_iadd C dL_law_1157 ?_
  refine v_sld C hX hbl hbA h2 dL_law_1158 ?_
  refine v_aload_n C 1 dL_law_1159 rfl rfl ?_
  refine v_at (pc' := 1160) rfl ?_
  refine v_iload C 5 dL_law_1160 rfl ?_
  refine v_iconst C (v := 3) dL_law_1162 (by decide) ?_
  refine v_iadd C dL_law_1163 ?_
  refine v_sld C hX hbl hbA h3 dL_law_1164 ?_
  obtain ⟨u2, e_u2, h⟩ := bnd h
  obtain ⟨z3, e_z3, h⟩ := bnd h
  refine v_callVi C (ci := 6) (av := [.int (xs (Int32.toNatClampNeg (i + 1))), .int (xs (Int32.toNatClampNeg (i + 2))), .int (xs (Int32.toNatClampNeg (i + 3)))]) (rest := []) rfl gL_law_X7_open rfl ⟨rfl, rfl⟩ hV_X7_open ⟨(Nat.le_of_ble_eq_true rfl), (Nat.le_of_ble_eq_true rfl)⟩ e_u2 (r_X7_open (A := A) e_z3) rfl rfl (Nat.le_of_ble_eq_true rfl) dL_law_1165 (hk := hk1) ?_
  refine v_istore C (lv' := [(6, .int z3.1), (5, .int z1.1), (0, .ref b), (1, .ref x), (2, .ref mo), (3, .ref ou), (4, .int i)]) dL_law_1168 (by decide) rfl ?_
  refine v_aload_n C 4 dL_law_1170 rfl rfl ?_
  obtain ⟨u4, e_u4, h⟩ := bnd h
  obtain ⟨x5, e_x5, h⟩ := bnd h
  refine v_callVi C (ci := 6) (av := []) (rest := []) rfl gL_law_X7_thrown rfl ⟨rfl, rfl⟩ hV_X7_thrown ⟨(Nat.le_of_ble_eq_true rfl), (Nat.le_of_ble_eq_true rfl)⟩ e_u4 (r_X7_thrown (A := A) e_x5) rfl rfl (Nat.le_of_ble_eq_true rfl) dL_law_1171 (hk := hk1) ?_
  refine v_at (pc' := 1174) rfl ?_
  refine v_iload C 1 dL_law_1174 rfl ?_
  refine v_icmp_eq C (tgt := 1181) dL_law_1176 (by decide) (fun q => ?_) (fun q => ?_)
  · have h := ite_t q h
    refine v_iload C 1 dL_law_1181 rfl ?_
    refine v_if_ne C (tgt := 1198) dL_law_1183 (by decide) (fun q => ?_) (fun q => ?_)
    · have h := ite_f q h
      refine v_goto C (tgt := 1706) dL_law_1198 (by decide) ?_
      obtain rfl := Option.some.inj h
      refine v_sub [2, 3, 4, 5, 6] rfl ?_
      exact kk
    · have h := ite_t q h
      refine v_aload_n C 5 dL_law_1186 rfl rfl ?_
      refine v_iconst C (v := 0) dL_law_1187 (by decide) ?_
      obtain ⟨x6, e_x6, h⟩ := bnd h
      refine v_lald C dL_law_1188 e_x6 ?_
      refine v_iload C 0 dL_law_1189 rfl ?_
      refine v_i2l C dL_law_1191 ?_
      refine v_lcmp C dL_law_1192 ?_
      refine v_if_eq C (tgt := 1198) dL_law_1193 (by decide) (fun q => ?_) (fun q => ?_)
      · have h := ite_t q h
        refine v_goto C (tgt := 1706) dL_law_1198 (by decide) ?_
        obtain rfl := Option.some.inj h
        refine v_sub [2, 3, 4, 5, 6] rfl ?_
        exact kk
      · have h := ite_f q h
        refine v_iconst C (v := 0) dL_law_1196 (by decide) ?_
        cases h
  · have h := ite_f q h
    refine v_iconst C (v := 0) dL_law_1179 (by decide) ?_
    cases h
set_option maxRecDepth 100000 in
set_option maxHeartbeats 4000000 in
theorem t_case14 {p : Program} {l : Launch} (hst : l.stackTraces = false) {e : Env} {s : State} {m : MethodId} {args : Array Value} {below : List Frame} {meth : Method} {c : Code} {G : GG} {A : Nat → Prop} (C : Cx p s m args meth c G A cL_law 7 RL wsL_law ret) {b L : Nat} {xs : Nat → Int32} (hX : va_X b L xs s s.heap) (hbl : b < s.heap.size) (hbA : ¬ A b) {i : Int32} (h0 : vp_in i L) (h1 : vp_in (i + 1) L) (h2 : vp_in (i + 2) L) (h3 : vp_in (i + 3) L) (h4 : vp_in (i + 4) L) {n kc ks : Nat} {Q : State → Prop} (hk0 : kc ≤ room_1.cells ∧ ks ≤ room_1.slots) (hk1 : kc + 1 ≤ room_1.cells ∧ ks + 6 ≤ room_1.slots) {w w' : Wd} {x mo ou : Nat} (h : mc_14 G.2.2.1 n w x mo ou xs i = some w')
    (kk : VQ p l e room_1 s m args below meth c G A 7 (kc + 1) (ks + 6) Q 1706 [(0, .ref b), (1, .ref x), (2, .ref mo), (3, .ref ou), (4, .int i)] [] w') : VQ p l e room_1 s m args below meth c G A 7 kc ks Q 1201 [(0, .ref b), (1, .ref x), (2, .ref mo), (3, .ref ou), (4, .int i)] [] w := by
  unfold mc_14 at h
  refine v_aload_n C 1 dL_law_1201 rfl rfl ?_
  refine v_aload_n C 0 dL_law_1202 rfl rfl ?_
  refine v_iload C 4 dL_law_1203 rfl ?_
  refine v_iconst C (v := 1) dL_law_1205 (by decide) ?_
  refine v_iadd C dL_law_1206 ?_
  refine v_sld C hX hbl hbA h1 dL_law_1207 ?_
  refine v_aload_n C 3 dL_law_1208 rfl rfl ?_
  refine v_at (pc' := 1209) rfl ?_
  obtain ⟨z1, e_z1, h⟩ := bnd h
  refine v_callSW C (av := [.ref x, .int (xs (Int32.toNatClampNeg (i + 1))), .ref ou]) (rest := []) gL_law_L_next rfl ⟨rfl, rfl⟩ hS_L_next ⟨(Nat.le_of_ble_eq_true rfl), (Nat.le_of_ble_eq_true rfl)⟩ (r_L_next (A := A) hst e_z1) rfl rfl (Nat.le_of_ble_eq_true rfl) dL_law_1209 hk1 ?_
  refine v_istore C (lv' := [(5, .int z1.1), (0, .ref b), (1, .ref x), (2, .ref mo), (3, .ref ou), (4, .int i)]) dL_law_1212 (by decide) rfl ?_
  refine v_aload_n C 3 dL_law_1214 rfl rfl ?_
  refine v_aload_n C 1 dL_law_1215 rfl rfl ?_
  refine v_iload C 5 dL_law_1216 rfl ?_
  refine v_iconst C (v := 1) dL_law_1218 (by decide) ?_
  refine v_iadd C dL_law_1219 ?_
  refine v_sld C hX hbl hbA h1 dL_law_1220 ?_
  refine v_at (pc' := 1221) rfl ?_
  obtain ⟨u2, e_u2, h⟩ := bnd h
  obtain ⟨z3, e_z3, h⟩ := bnd h
  refine v_callVi C (ci := 6) (av := [.int (xs (Int32.toNatClampNeg (i + 1)))]) (rest := []) rfl gL_law_X7_next rfl ⟨rfl, rfl⟩ hV_X7_next ⟨(Nat.le_of_ble_eq_true rfl), (Nat.le_of_ble_eq_true rfl)⟩ e_u2 (r_X7_next (A := A) e_z3) rfl rfl (Nat.le_of_ble_eq_true rfl) dL_law_1221 (hk := hk1) ?_
  refine v_istore C (lv' := [(6, .int z3.1), (5, .int z1.1), (0, .ref b), (1, .ref x), (2, .ref mo), (3, .ref ou), (4, .int i)]) dL_law_1224 (by decide) rfl ?_
  refine v_aload_n C 4 dL_law_1226 rfl rfl ?_
  obtain ⟨u4, e_u4, h⟩ := bnd h
  obtain ⟨x5, e_x5, h⟩ := bnd h
  refine v_callVi C (ci := 6) (av := []) (rest := []) rfl gL_law_X7_thrown rfl ⟨rfl, rfl⟩ hV_X7_thrown ⟨(Nat.le_of_ble_eq_true rfl), (Nat.le_of_ble_eq_true rfl)⟩ e_u4 (r_X7_thrown (A := A) e_x5) rfl rfl (Nat.le_of_ble_eq_true rfl) dL_law_1227 (hk := hk1) ?_
  refine v_iload C 1 dL_law_1230 rfl ?_
  refine v_icmp_eq C (tgt := 1237) dL_law_1232 (by decide) (fun q => ?_) (fun q => ?_)
  · have h := ite_t q h
    refine v_iload C 1 dL_law_1237 rfl ?_
    refine v_if_ne C (tgt := 1254) dL_law_1239 (by decide) (fun q => ?_) (fun q => ?_)
    · have h := ite_f q h
      refine v_goto C (tgt := 1706) dL_law_1254 (by decide) ?_
      obtain rfl := Option.some.inj h
      refine v_sub [2, 3, 4, 5, 6] rfl ?_
      exact kk
    · have h := ite_t q h
      refine v_aload_n C 5 dL_law_1242 rfl rfl ?_
      refine v_iconst C (v := 0) dL_law_1243 (by decide) ?_
      obtain ⟨x6, e_x6, h⟩ := bnd h
      refine v_lald C dL_law_1244 e_x6 ?_
      refine v_iload C 0 dL_law_1245 rfl ?_
      refine v_i2l C dL_law_1247 ?_
      refine v_lcmp C dL_law_1248 ?_
      refine v_if_eq C (tgt := 1254) dL_law_1249 (by decide) (fun q => ?_) (fun q => ?_)
      · have h := ite_t q h
        refine v_goto C (tgt := 1706) dL_law_1254 (by decide) ?_
        obtain rfl := Option.some.inj h
        refine v_sub [2, 3, 4, 5, 6] rfl ?_
        exact kk
      · have h := ite_f q h
        refine v_iconst C (v := 0) dL_law_1252 (by decide) ?_
        cases h
  · have h := ite_f q h
    refine v_iconst C (v := 0) dL_law_1235 (by decide) ?_
    cases h
set_option maxRecDepth 100000 in
set_option maxHeartbeats 4000000 in
theorem t_case15 {p : Program} {l : Launch} (hst : l.stackTraces = false) {e : Env} {s : State} {m : MethodId} {args : Array Value} {below : List Frame} {meth : Method} {c : Code} {G : GG} {A : Nat → Prop} (C : Cx p s m args meth c G A cL_law 7 RL wsL_law ret) {b L : Nat} {xs : Nat → Int32} (hX : va_X b L xs s s.heap) (hbl : b < s.heap.size) (hbA : ¬ A b) {i : Int32} (h0 : vp_in i L) (h1 : vp_in (i + 1) L) (h2 : vp_in (i + 2) L) (h3 : vp_in (i + 3) L) (h4 : vp_in (i + 4) L) {n kc ks : Nat} {Q : State → Prop} (hk0 : kc ≤ room_1.cells ∧ ks ≤ room_1.slots) (hk1 : kc + 1 ≤ room_1.cells ∧ ks + 6 ≤ room_1.slots) {w w' : Wd} {x mo ou : Nat} (h : mc_15 G.2.2.1 n w x mo ou xs i = some w')
    (kk : VQ p l e room_1 s m args below meth c G A 7 (kc + 1) (ks + 6) Q 1706 [(0, .ref b), (1, .ref x), (2, .ref mo), (3, .ref ou), (4, .int i)] [] w') : VQ p l e room_1 s m args below meth c G A 7 kc ks Q 1257 [(0, .ref b), (1, .ref x), (2, .ref mo), (3, .ref ou), (4, .int i)] [] w := by
  unfold mc_15 at h
  refine v_aload_n C 1 dL_law_1257 rfl rfl ?_
  refine v_aload_n C 0 dL_law_1258 rfl rfl ?_
  refine v_iload C 4 dL_law_1259 rfl ?_
  refine v_iconst C (v := 1) dL_law_1261 (by decide) ?_
  refine v_iadd C dL_law_1262 ?_
  refine v_sld C hX hbl hbA h1 dL_law_1263 ?_
  refine v_aload_n C 0 dL_law_1264 rfl rfl ?_
  refine v_at (pc' := 1265) rfl ?_
  refine v_iload C 4 dL_law_1265 rfl ?_
  refine v_iconst C (v := 2) dL_law_1267 (by decide) ?_
  refine v_iadd C dL_law_1268 ?_
  refine v_sld C hX hbl hbA h2 dL_law_1269 ?_
  refine v_aload_n C 3 dL_law_1270 rfl rfl ?_
  obtain ⟨z1, e_z1, h⟩ := bnd h
  refine v_callSW C (av := [.ref x, .int (xs (Int32.toNatClampNeg (i + 1))), .int (xs (Int32.toNatClampNeg (i + 2))), .ref ou]) (rest := []) gL_law_L_cursor rfl ⟨rfl, rfl⟩ hS_L_cursor ⟨(Nat.le_of_ble_eq_true rfl), (Nat.le_of_ble_eq_true rfl)⟩ (r_L_cursor (A := A) hst e_z1) rfl rfl (Nat.le_of_ble_eq_true rfl) dL_law_1271 hk1 ?_
  refine v_istore C (lv' := [(5, .int z1.1), (0, .ref b), (1, .ref x), (2, .ref mo), (3, .ref ou), (4, .int i)]) dL_law_1274 (by decide) rfl ?_
  refine v_aload_n C 3 dL_law_1276 rfl rfl ?_
  refine v_at (pc' := 1277) rfl ?_
  refine v_aload_n C 1 dL_law_1277 rfl rfl ?_
  refine v_iload C 5 dL_law_1278 rfl ?_
  refine v_iconst C (v := 1) dL_law_1280 (by decide) ?_
  refine v_iadd C dL_law_1281 ?_
  refine v_sld C hX hbl hbA h1 dL_law_1282 ?_
  refine v_aload_n C 1 dL_law_1283 rfl rfl ?_
  refine v_iload C 5 dL_law_1284 rfl ?_
  refine v_iconst C (v := 2) dL_law_1286 (by decide) ?_
  refine v_at (pc' := 1287) rfl ?_
  refine v_iadd C dL_law_1287 ?_
  refine v_sld C hX hbl hbA h2 dL_law_1288 ?_
  obtain ⟨u2, e_u2, h⟩ := bnd h
  obtain ⟨z3, e_z3, h⟩ := bnd h
  refine v_callVi C (ci := 6) (av := [.int (xs (Int32.toNatClampNeg (i + 1))), .int (xs (Int32.toNatClampNeg (i + 2)))]) (rest := []) rfl gL_law_X7_cursor rfl ⟨rfl, rfl⟩ hV_X7_cursor ⟨(Nat.le_of_ble_eq_true rfl), (Nat.le_of_ble_eq_true rfl)⟩ e_u2 (r_X7_cursor (A := A) e_z3) rfl rfl (Nat.le_of_ble_eq_true rfl) dL_law_1289 (hk := hk1) ?_
  refine v_istore C (lv' := [(6, .int z3.1), (5, .int z1.1), (0, .ref b), (1, .ref x), (2, .ref mo), (3, .ref ou), (4, .int i)]) dL_law_1292 (by decide) rfl ?_
  refine v_aload_n C 4 dL_law_1294 rfl rfl ?_
  obtain ⟨u4, e_u4, h⟩ := bnd h
  obtain ⟨x5, e_x5, h⟩ := bnd h
  refine v_callVi C (ci := 6) (av := []) (rest := []) rfl gL_law_X7_thrown rfl ⟨rfl, rfl⟩ hV_X7_thrown ⟨(Nat.le_of_ble_eq_true rfl), (Nat.le_of_ble_eq_true rfl)⟩ e_u4 (r_X7_thrown (A := A) e_x5) rfl rfl (Nat.le_of_ble_eq_true rfl) dL_law_1295 (hk := hk1) ?_
  refine v_iload C 1 dL_law_1298 rfl ?_
  refine v_icmp_eq C (tgt := 1305) dL_law_1300 (by decide) (fun q => ?_) (fun q => ?_)
  · have h := ite_t q h
    refine v_iload C 1 dL_law_1305 rfl ?_
    refine v_if_ne C (tgt := 1322) dL_law_1307 (by decide) (fun q => ?_) (fun q => ?_)
    · have h := ite_f q h
      refine v_goto C (tgt := 1706) dL_law_1322 (by decide) ?_
      obtain rfl := Option.some.inj h
      refine v_sub [2, 3, 4, 5, 6] rfl ?_
      exact kk
    · have h := ite_t q h
      refine v_aload_n C 5 dL_law_1310 rfl rfl ?_
      refine v_iconst C (v := 0) dL_law_1311 (by decide) ?_
      obtain ⟨x6, e_x6, h⟩ := bnd h
      refine v_lald C dL_law_1312 e_x6 ?_
      refine v_iload C 0 dL_law_1313 rfl ?_
      refine v_i2l C dL_law_1315 ?_
      refine v_lcmp C dL_law_1316 ?_
      refine v_if_eq C (tgt := 1322) dL_law_1317 (by decide) (fun q => ?_) (fun q => ?_)
      · have h := ite_t q h
        refine v_goto C (tgt := 1706) dL_law_1322 (by decide) ?_
        obtain rfl := Option.some.inj h
        refine v_sub [2, 3, 4, 5, 6] rfl ?_
        exact kk
      · have h := ite_f q h
        refine v_iconst C (v := 0) dL_law_1320 (by decide) ?_
        cases h
  · have h := ite_f q h
    refine v_iconst C (v := 0) dL_law_1303 (by decide) ?_
    cases h
set_option maxRecDepth 100000 in
set_option maxHeartbeats 4000000 in
theorem t_case16 {p : Program} {l : Launch} (hst : l.stackTraces = false) {e : Env} {s : State} {m : MethodId} {args : Array Value} {below : List Frame} {meth : Method} {c : Code} {G : GG} {A : Nat → Prop} (C : Cx p s m args meth c G A cL_law 7 RL wsL_law ret) {b L : Nat} {xs : Nat → Int32} (hX : va_X b L xs s s.heap) (hbl : b < s.heap.size) (hbA : ¬ A b) {i : Int32} (h0 : vp_in i L) (h1 : vp_in (i + 1) L) (h2 : vp_in (i + 2) L) (h3 : vp_in (i + 3) L) (h4 : vp_in (i + 4) L) {n kc ks : Nat} {Q : State → Prop} (hk0 : kc ≤ room_1.cells ∧ ks ≤ room_1.slots) (hk1 : kc + 1 ≤ room_1.cells ∧ ks + 6 ≤ room_1.slots) {w w' : Wd} {x mo ou : Nat} (h : mc_16 G.2.2.1 n w x mo ou xs i = some w')
    (kk : VQ p l e room_1 s m args below meth c G A 7 (kc + 1) (ks + 6) Q 1706 [(0, .ref b), (1, .ref x), (2, .ref mo), (3, .ref ou), (4, .int i)] [] w') : VQ p l e room_1 s m args below meth c G A 7 kc ks Q 1325 [(0, .ref b), (1, .ref x), (2, .ref mo), (3, .ref ou), (4, .int i)] [] w := by
  unfold mc_16 at h
  refine v_aload_n C 1 dL_law_1325 rfl rfl ?_
  refine v_aload_n C 0 dL_law_1326 rfl rfl ?_
  refine v_iload C 4 dL_law_1327 rfl ?_
  refine v_iconst C (v := 1) dL_law_1329 (by decide) ?_
  refine v_iadd C dL_law_1330 ?_
  refine v_sld C hX hbl hbA h1 dL_law_1331 ?_
  refine v_aload_n C 0 dL_law_1332 rfl rfl ?_
  refine v_at (pc' := 1333) rfl ?_
  refine v_iload C 4 dL_law_1333 rfl ?_
  refine v_iconst C (v := 2) dL_law_1335 (by decide) ?_
  refine v_iadd C dL_law_1336 ?_
  refine v_sld C hX hbl hbA h2 dL_law_1337 ?_
  refine v_aload_n C 0 dL_law_1338 rfl rfl ?_
  refine v_iload C 4 dL_law_1339 rfl ?_
  refine v_iconst C (v := 3) dL_law_1341 (by decide) ?_
  refine v_iadd C dL_law_1342 ?_
  refine v_at (pc' := 1343) rfl ?_
  refine v_sld C hX hbl hbA h3 dL_law_1343 ?_
  refine v_aload_n C 3 dL_law_1344 rfl rfl ?_
  obtain ⟨z1, e_z1, h⟩ := bnd h
  refine v_callSW C (av := [.ref x, .int (xs (Int32.toNatClampNeg (i + 1))), .int (xs (Int32.toNatClampNeg (i + 2))), .int (xs (Int32.toNatClampNeg (i + 3))), .ref ou]) (rest := []) gL_law_L_nearest rfl ⟨rfl, rfl⟩ hS_L_nearest ⟨(Nat.le_of_ble_eq_true rfl), (Nat.le_of_ble_eq_true rfl)⟩ (r_L_nearest (A := A) hst e_z1) rfl rfl (Nat.le_of_ble_eq_true rfl) dL_law_1345 hk1 ?_
  refine v_istore C (lv' := [(5, .int z1.1), (0, .ref b), (1, .ref x), (2, .ref mo), (3, .ref ou), (4, .int i)]) dL_law_1348 (by decide) rfl ?_
  refine v_aload_n C 3 dL_law_1350 rfl rfl ?_
  refine v_aload_n C 1 dL_law_1351 rfl rfl ?_
  refine v_iload C 5 dL_law_1352 rfl ?_
  refine v_iconst C (v := 1) dL_law_1354 (by decide) ?_
  refine v_at (pc' := 1355) rfl ?_
  refine v_iadd C dL_law_1355 ?_
  refine v_sld C hX hbl hbA h1 dL_law_1356 ?_
  refine v_aload_n C 1 dL_law_1357 rfl rfl ?_
  refine v_iload C 5 dL_law_1358 rfl ?_
  refine v_iconst C (v := 2) dL_law_1360 (by decide) ?_
  refine v_iadd C dL_law_1361 ?_
  refine v_sld C hX hbl hbA h2 dL_law_1362 ?_
  refine v_aload_n C 1 dL_law_1363 rfl rfl ?_
  refine v_at (pc' := 1364) rfl ?_
  refine v_iload C 5 dL_law_1364 rfl ?_
  refine v_iconst C (v := 3) dL_law_1366 (by decide) ?_
  refine v_iadd C dL_law_1367 ?_
  refine v_sld C hX hbl hbA h3 dL_law_1368 ?_
  obtain ⟨u2, e_u2, h⟩ := bnd h
  obtain ⟨z3, e_z3, h⟩ := bnd h
  refine v_callVi C (ci := 6) (av := [.int (xs (Int32.toNatClampNeg (i + 1))), .int (xs (Int32.toNatClampNeg (i + 2))), .int (xs (Int32.toNatClampNeg (i + 3)))]) (rest := []) rfl gL_law_X7_nearest rfl ⟨rfl, rfl⟩ hV_X7_nearest ⟨(Nat.le_of_ble_eq_true rfl), (Nat.le_of_ble_eq_true rfl)⟩ e_u2 (r_X7_nearest (A := A) e_z3) rfl rfl (Nat.le_of_ble_eq_true rfl) dL_law_1369 (hk := hk1) ?_
  refine v_istore C (lv' := [(6, .int z3.1), (5, .int z1.1), (0, .ref b), (1, .ref x), (2, .ref mo), (3, .ref ou), (4, .int i)]) dL_law_1372 (by decide) rfl ?_
  refine v_aload_n C 4 dL_law_1374 rfl rfl ?_
  obtain ⟨u4, e_u4, h⟩ := bnd h
  obtain ⟨x5, e_x5, h⟩ := bnd h
  refine v_callVi C (ci := 6) (av := []) (rest := []) rfl gL_law_X7_thrown rfl ⟨rfl, rfl⟩ hV_X7_thrown ⟨(Nat.le_of_ble_eq_true rfl), (Nat.le_of_ble_eq_true rfl)⟩ e_u4 (r_X7_thrown (A := A) e_x5) rfl rfl (Nat.le_of_ble_eq_true rfl) dL_law_1375 (hk := hk1) ?_
  refine v_at (pc' := 1378) rfl ?_
  refine v_iload C 1 dL_law_1378 rfl ?_
  refine v_icmp_eq C (tgt := 1385) dL_law_1380 (by decide) (fun q => ?_) (fun q => ?_)
  · have h := ite_t q h
    refine v_iload C 1 dL_law_1385 rfl ?_
    refine v_if_ne C (tgt := 1402) dL_law_1387 (by decide) (fun q => ?_) (fun q => ?_)
    · have h := ite_f q h
      refine v_goto C (tgt := 1706) dL_law_1402 (by decide) ?_
      obtain rfl := Option.some.inj h
      refine v_sub [2, 3, 4, 5, 6] rfl ?_
      exact kk
    · have h := ite_t q h
      refine v_aload_n C 5 dL_law_1390 rfl rfl ?_
      refine v_iconst C (v := 0) dL_law_1391 (by decide) ?_
      obtain ⟨x6, e_x6, h⟩ := bnd h
      refine v_lald C dL_law_1392 e_x6 ?_
      refine v_iload C 0 dL_law_1393 rfl ?_
      refine v_i2l C dL_law_1395 ?_
      refine v_lcmp C dL_law_1396 ?_
      refine v_if_eq C (tgt := 1402) dL_law_1397 (by decide) (fun q => ?_) (fun q => ?_)
      · have h := ite_t q h
        refine v_goto C (tgt := 1706) dL_law_1402 (by decide) ?_
        obtain rfl := Option.some.inj h
        refine v_sub [2, 3, 4, 5, 6] rfl ?_
        exact kk
      · have h := ite_f q h
        refine v_iconst C (v := 0) dL_law_1400 (by decide) ?_
        cases h
  · have h := ite_f q h
    refine v_iconst C (v := 0) dL_law_1383 (by decide) ?_
    cases h
set_option maxRecDepth 100000 in
set_option maxHeartbeats 4000000 in
theorem t_case17 {p : Program} {l : Launch} (hst : l.stackTraces = false) {e : Env} {s : State} {m : MethodId} {args : Array Value} {below : List Frame} {meth : Method} {c : Code} {G : GG} {A : Nat → Prop} (C : Cx p s m args meth c G A cL_law 7 RL wsL_law ret) {b L : Nat} {xs : Nat → Int32} (hX : va_X b L xs s s.heap) (hbl : b < s.heap.size) (hbA : ¬ A b) {i : Int32} (h0 : vp_in i L) (h1 : vp_in (i + 1) L) (h2 : vp_in (i + 2) L) (h3 : vp_in (i + 3) L) (h4 : vp_in (i + 4) L) {n kc ks : Nat} {Q : State → Prop} (hk0 : kc ≤ room_1.cells ∧ ks ≤ room_1.slots) (hk1 : kc + 1 ≤ room_1.cells ∧ ks + 6 ≤ room_1.slots) {w w' : Wd} {x mo ou : Nat} (h : mc_17 G.2.2.1 n w x mo ou xs i = some w')
    (kk : VQ p l e room_1 s m args below meth c G A 7 (kc + 1) (ks + 6) Q 1706 [(0, .ref b), (1, .ref x), (2, .ref mo), (3, .ref ou), (4, .int i)] [] w') : VQ p l e room_1 s m args below meth c G A 7 kc ks Q 1405 [(0, .ref b), (1, .ref x), (2, .ref mo), (3, .ref ou), (4, .int i)] [] w := by
  unfold mc_17 at h
  refine v_aload_n C 1 dL_law_1405 rfl rfl ?_
  refine v_aload_n C 0 dL_law_1406 rfl rfl ?_
  refine v_iload C 4 dL_law_1407 rfl ?_
  refine v_iconst C (v := 1) dL_law_1409 (by decide) ?_
  refine v_iadd C dL_law_1410 ?_
  refine v_sld C hX hbl hbA h1 dL_law_1411 ?_
  refine v_aload_n C 0 dL_law_1412 rfl rfl ?_
  refine v_at (pc' := 1413) rfl ?_
  refine v_iload C 4 dL_law_1413 rfl ?_
  refine v_iconst C (v := 2) dL_law_1415 (by decide) ?_
  refine v_iadd C dL_law_1416 ?_
  refine v_sld C hX hbl hbA h2 dL_law_1417 ?_
  refine v_aload_n C 0 dL_law_1418 rfl rfl ?_
  refine v_iload C 4 dL_law_1419 rfl ?_
  refine v_iconst C (v := 3) dL_law_1421 (by decide) ?_
  refine v_iadd C dL_law_1422 ?_
  refine v_at (pc' := 1423) rfl ?_
  refine v_sld C hX hbl hbA h3 dL_law_1423 ?_
  refine v_aload_n C 0 dL_law_1424 rfl rfl ?_
  refine v_iload C 4 dL_law_1425 rfl ?_
  refine v_iconst C (v := 4) dL_law_1427 (by decide) ?_
  refine v_iadd C dL_law_1428 ?_
  refine v_sld C hX hbl hbA h4 dL_law_1429 ?_
  refine v_aload_n C 3 dL_law_1430 rfl rfl ?_
  obtain ⟨z1, e_z1, h⟩ := bnd h
  refine v_callSW C (av := [.ref x, .int (xs (Int32.toNatClampNeg (i + 1))), .int (xs (Int32.toNatClampNeg (i + 2))), .int (xs (Int32.toNatClampNeg (i + 3))), .int (xs (Int32.toNatClampNeg (i + 4))), .ref ou]) (rest := []) gL_law_L_within rfl ⟨rfl, rfl⟩ hS_L_within ⟨(Nat.le_of_ble_eq_true rfl), (Nat.le_of_ble_eq_true rfl)⟩ (r_L_within (A := A) hst e_z1) rfl rfl (Nat.le_of_ble_eq_true rfl) dL_law_1431 hk1 ?_
  refine v_at (pc' := 1434) rfl ?_
  refine v_istore C (lv' := [(5, .int z1.1), (0, .ref b), (1, .ref x), (2, .ref mo), (3, .ref ou), (4, .int i)]) dL_law_1434 (by decide) rfl ?_
  refine v_aload_n C 3 dL_law_1436 rfl rfl ?_
  refine v_aload_n C 1 dL_law_1437 rfl rfl ?_
  refine v_iload C 5 dL_law_1438 rfl ?_
  refine v_iconst C (v := 1) dL_law_1440 (by decide) ?_
  refine v_iadd C dL_law_1441 ?_
  refine v_sld C hX hbl hbA h1 dL_law_1442 ?_
  refine v_aload_n C 1 dL_law_1443 rfl rfl ?_
  refine v_at (pc' := 1444) rfl ?_
  refine v_iload C 5 dL_law_1444 rfl ?_
  refine v_iconst C (v := 2) dL_law_1446 (by decide) ?_
  refine v_iadd C dL_law_1447 ?_
  refine v_sld C hX hbl hbA h2 dL_law_1448 ?_
  refine v_aload_n C 1 dL_law_1449 rfl rfl ?_
  refine v_iload C 5 dL_law_1450 rfl ?_
  refine v_iconst C (v := 3) dL_law_1452 (by decide) ?_
  refine v_iadd C dL_law_1453 ?_
  refine v_at (pc' := 1454) rfl ?_
  refine v_sld C hX hbl hbA h3 dL_law_1454 ?_
  refine v_aload_n C 1 dL_law_1455 rfl rfl ?_
  refine v_iload C 5 dL_law_1456 rfl ?_
  refine v_iconst C (v := 4) dL_law_1458 (by decide) ?_
  refine v_iadd C dL_law_1459 ?_
  refine v_sld C hX hbl hbA h4 dL_law_1460 ?_
  obtain ⟨u2, e_u2, h⟩ := bnd h
  obtain ⟨z3, e_z3, h⟩ := bnd h
  refine v_callVi C (ci := 6) (av := [.int (xs (Int32.toNatClampNeg (i + 1))), .int (xs (Int32.toNatClampNeg (i + 2))), .int (xs (Int32.toNatClampNeg (i + 3))), .int (xs (Int32.toNatClampNeg (i + 4)))]) (rest := []) rfl gL_law_X7_within rfl ⟨rfl, rfl⟩ hV_X7_within ⟨(Nat.le_of_ble_eq_true rfl), (Nat.le_of_ble_eq_true rfl)⟩ e_u2 (r_X7_within (A := A) e_z3) rfl rfl (Nat.le_of_ble_eq_true rfl) dL_law_1461 (hk := hk1) ?_
  refine v_istore C (lv' := [(6, .int z3.1), (5, .int z1.1), (0, .ref b), (1, .ref x), (2, .ref mo), (3, .ref ou), (4, .int i)]) dL_law_1464 (by decide) rfl ?_
  refine v_at (pc' := 1466) rfl ?_
  refine v_aload_n C 4 dL_law_1466 rfl rfl ?_
  obtain ⟨u4, e_u4, h⟩ := bnd h
  obtain ⟨x5, e_x5, h⟩ := bnd h
  refine v_callVi C (ci := 6) (av := []) (rest := []) rfl gL_law_X7_thrown rfl ⟨rfl, rfl⟩ hV_X7_thrown ⟨(Nat.le_of_ble_eq_true rfl), (Nat.le_of_ble_eq_true rfl)⟩ e_u4 (r_X7_thrown (A := A) e_x5) rfl rfl (Nat.le_of_ble_eq_true rfl) dL_law_1467 (hk := hk1) ?_
  refine v_iload C 1 dL_law_1470 rfl ?_
  refine v_icmp_eq C (tgt := 1477) dL_law_1472 (by decide) (fun q => ?_) (fun q => ?_)
  · have h := ite_t q h
    refine v_iload C 1 dL_law_1477 rfl ?_
    refine v_if_ne C (tgt := 1494) dL_law_1479 (by decide) (fun q => ?_) (fun q => ?_)
    · have h := ite_f q h
      refine v_goto C (tgt := 1706) dL_law_1494 (by decide) ?_
      obtain rfl := Option.some.inj h
      refine v_sub [2, 3, 4, 5, 6] rfl ?_
      exact kk
    · have h := ite_t q h
      refine v_aload_n C 5 dL_law_1482 rfl rfl ?_
      refine v_iconst C (v := 0) dL_law_1483 (by decide) ?_
      obtain ⟨x6, e_x6, h⟩ := bnd h
      refine v_lald C dL_law_1484 e_x6 ?_
      refine v_iload C 0 dL_law_1485 rfl ?_
      refine v_i2l C dL_law_1487 ?_
      refine v_lcmp C dL_law_1488 ?_
      refine v_if_eq C (tgt := 1494) dL_law_1489 (by decide) (fun q => ?_) (fun q => ?_)
      · have h := ite_t q h
        refine v_goto C (tgt := 1706) dL_law_1494 (by decide) ?_
        obtain rfl := Option.some.inj h
        refine v_sub [2, 3, 4, 5, 6] rfl ?_
        exact kk
      · have h := ite_f q h
        refine v_iconst C (v := 0) dL_law_1492 (by decide) ?_
        cases h
  · have h := ite_f q h
    refine v_iconst C (v := 0) dL_law_1475 (by decide) ?_
    cases h
set_option maxRecDepth 100000 in
set_option maxHeartbeats 4000000 in
theorem t_case18 {p : Program} {l : Launch} (hst : l.stackTraces = false) {e : Env} {s : State} {m : MethodId} {args : Array Value} {below : List Frame} {meth : Method} {c : Code} {G : GG} {A : Nat → Prop} (C : Cx p s m args meth c G A cL_law 7 RL wsL_law ret) {b L : Nat} {xs : Nat → Int32} (hX : va_X b L xs s s.heap) (hbl : b < s.heap.size) (hbA : ¬ A b) {i : Int32} (h0 : vp_in i L) (h1 : vp_in (i + 1) L) (h2 : vp_in (i + 2) L) (h3 : vp_in (i + 3) L) (h4 : vp_in (i + 4) L) {n kc ks : Nat} {Q : State → Prop} (hk0 : kc ≤ room_1.cells ∧ ks ≤ room_1.slots) (hk1 : kc + 1 ≤ room_1.cells ∧ ks + 6 ≤ room_1.slots) {w w' : Wd} {x mo ou : Nat} (h : mc_18 G.2.2.1 n w x mo ou xs i = some w')
    (kk : VQ p l e room_1 s m args below meth c G A 7 (kc + 1) (ks + 6) Q 1706 [(0, .ref b), (1, .ref x), (2, .ref mo), (3, .ref ou), (4, .int i)] [] w') : VQ p l e room_1 s m args below meth c G A 7 kc ks Q 1497 [(0, .ref b), (1, .ref x), (2, .ref mo), (3, .ref ou), (4, .int i)] [] w := by
  unfold mc_18 at h
  refine v_aload_n C 1 dL_law_1497 rfl rfl ?_
  refine v_aload_n C 0 dL_law_1498 rfl rfl ?_
  refine v_iload C 4 dL_law_1499 rfl ?_
  refine v_iconst C (v := 1) dL_law_1501 (by decide) ?_
  refine v_iadd C dL_law_1502 ?_
  refine v_sld C hX hbl hbA h1 dL_law_1503 ?_
  refine v_aload_n C 3 dL_law_1504 rfl rfl ?_
  refine v_at (pc' := 1505) rfl ?_
  obtain ⟨z1, e_z1, h⟩ := bnd h
  refine v_callSW C (av := [.ref x, .int (xs (Int32.toNatClampNeg (i + 1))), .ref ou]) (rest := []) gL_law_L_closest rfl ⟨rfl, rfl⟩ hS_L_closest ⟨(Nat.le_of_ble_eq_true rfl), (Nat.le_of_ble_eq_true rfl)⟩ (r_L_closest (A := A) hst e_z1) rfl rfl (Nat.le_of_ble_eq_true rfl) dL_law_1505 hk1 ?_
  refine v_istore C (lv' := [(5, .int z1.1), (0, .ref b), (1, .ref x), (2, .ref mo), (3, .ref ou), (4, .int i)]) dL_law_1508 (by decide) rfl ?_
  refine v_aload_n C 3 dL_law_1510 rfl rfl ?_
  refine v_aload_n C 1 dL_law_1511 rfl rfl ?_
  refine v_iload C 5 dL_law_1512 rfl ?_
  refine v_iconst C (v := 1) dL_law_1514 (by decide) ?_
  refine v_iadd C dL_law_1515 ?_
  refine v_sld C hX hbl hbA h1 dL_law_1516 ?_
  refine v_at (pc' := 1517) rfl ?_
  obtain ⟨u2, e_u2, h⟩ := bnd h
  obtain ⟨z3, e_z3, h⟩ := bnd h
  refine v_callVi C (ci := 6) (av := [.int (xs (Int32.toNatClampNeg (i + 1)))]) (rest := []) rfl gL_law_X7_closest rfl ⟨rfl, rfl⟩ hV_X7_closest ⟨(Nat.le_of_ble_eq_true rfl), (Nat.le_of_ble_eq_true rfl)⟩ e_u2 (r_X7_closest (A := A) e_z3) rfl rfl (Nat.le_of_ble_eq_true rfl) dL_law_1517 (hk := hk1) ?_
  refine v_istore C (lv' := [(6, .int z3.1), (5, .int z1.1), (0, .ref b), (1, .ref x), (2, .ref mo), (3, .ref ou), (4, .int i)]) dL_law_1520 (by decide) rfl ?_
  refine v_aload_n C 4 dL_law_1522 rfl rfl ?_
  obtain ⟨u4, e_u4, h⟩ := bnd h
  obtain ⟨x5, e_x5, h⟩ := bnd h
  refine v_callVi C (ci := 6) (av := []) (rest := []) rfl gL_law_X7_thrown rfl ⟨rfl, rfl⟩ hV_X7_thrown ⟨(Nat.le_of_ble_eq_true rfl), (Nat.le_of_ble_eq_true rfl)⟩ e_u4 (r_X7_thrown (A := A) e_x5) rfl rfl (Nat.le_of_ble_eq_true rfl) dL_law_1523 (hk := hk1) ?_
  refine v_iload C 1 dL_law_1526 rfl ?_
  refine v_icmp_eq C (tgt := 1533) dL_law_1528 (by decide) (fun q => ?_) (fun q => ?_)
  · have h := ite_t q h
    refine v_iload C 1 dL_law_1533 rfl ?_
    refine v_if_ne C (tgt := 1550) dL_law_1535 (by decide) (fun q => ?_) (fun q => ?_)
    · have h := ite_f q h
      refine v_goto C (tgt := 1706) dL_law_1550 (by decide) ?_
      obtain rfl := Option.some.inj h
      refine v_sub [2, 3, 4, 5, 6] rfl ?_
      exact kk
    · have h := ite_t q h
      refine v_aload_n C 5 dL_law_1538 rfl rfl ?_
      refine v_iconst C (v := 0) dL_law_1539 (by decide) ?_
      obtain ⟨x6, e_x6, h⟩ := bnd h
      refine v_lald C dL_law_1540 e_x6 ?_
      refine v_iload C 0 dL_law_1541 rfl ?_
      refine v_i2l C dL_law_1543 ?_
      refine v_lcmp C dL_law_1544 ?_
      refine v_if_eq C (tgt := 1550) dL_law_1545 (by decide) (fun q => ?_) (fun q => ?_)
      · have h := ite_t q h
        refine v_goto C (tgt := 1706) dL_law_1550 (by decide) ?_
        obtain rfl := Option.some.inj h
        refine v_sub [2, 3, 4, 5, 6] rfl ?_
        exact kk
      · have h := ite_f q h
        refine v_iconst C (v := 0) dL_law_1548 (by decide) ?_
        cases h
  · have h := ite_f q h
    refine v_iconst C (v := 0) dL_law_1531 (by decide) ?_
    cases h
set_option maxRecDepth 100000 in
set_option maxHeartbeats 4000000 in
theorem t_case19 {p : Program} {l : Launch} (hst : l.stackTraces = false) {e : Env} {s : State} {m : MethodId} {args : Array Value} {below : List Frame} {meth : Method} {c : Code} {G : GG} {A : Nat → Prop} (C : Cx p s m args meth c G A cL_law 7 RL wsL_law ret) {b L : Nat} {xs : Nat → Int32} (hX : va_X b L xs s s.heap) (hbl : b < s.heap.size) (hbA : ¬ A b) {i : Int32} (h0 : vp_in i L) (h1 : vp_in (i + 1) L) (h2 : vp_in (i + 2) L) (h3 : vp_in (i + 3) L) (h4 : vp_in (i + 4) L) {n kc ks : Nat} {Q : State → Prop} (hk0 : kc ≤ room_1.cells ∧ ks ≤ room_1.slots) (hk1 : kc + 1 ≤ room_1.cells ∧ ks + 6 ≤ room_1.slots) {w w' : Wd} {x mo ou : Nat} (h : mc_19 G.2.2.1 n w x mo ou xs i = some w')
    (kk : VQ p l e room_1 s m args below meth c G A 7 (kc + 1) (ks + 6) Q 1706 [(0, .ref b), (1, .ref x), (2, .ref mo), (3, .ref ou), (4, .int i)] [] w') : VQ p l e room_1 s m args below meth c G A 7 kc ks Q 1553 [(0, .ref b), (1, .ref x), (2, .ref mo), (3, .ref ou), (4, .int i)] [] w := by
  unfold mc_19 at h
  refine v_aload_n C 1 dL_law_1553 rfl rfl ?_
  refine v_aload_n C 0 dL_law_1554 rfl rfl ?_
  refine v_iload C 4 dL_law_1555 rfl ?_
  refine v_iconst C (v := 1) dL_law_1557 (by decide) ?_
  refine v_iadd C dL_law_1558 ?_
  refine v_sld C hX hbl hbA h1 dL_law_1559 ?_
  refine v_aload_n C 3 dL_law_1560 rfl rfl ?_
  refine v_at (pc' := 1561) rfl ?_
  obtain ⟨z1, e_z1, h⟩ := bnd h
  refine v_callSW C (av := [.ref x, .int (xs (Int32.toNatClampNeg (i + 1))), .ref ou]) (rest := []) gL_law_L_type rfl ⟨rfl, rfl⟩ hS_L_type ⟨(Nat.le_of_ble_eq_true rfl), (Nat.le_of_ble_eq_true rfl)⟩ (r_L_type (A := A) hst e_z1) rfl rfl (Nat.le_of_ble_eq_true rfl) dL_law_1561 hk1 ?_
  refine v_istore C (lv' := [(5, .int z1.1), (0, .ref b), (1, .ref x), (2, .ref mo), (3, .ref ou), (4, .int i)]) dL_law_1564 (by decide) rfl ?_
  refine v_aload_n C 3 dL_law_1566 rfl rfl ?_
  refine v_aload_n C 1 dL_law_1567 rfl rfl ?_
  refine v_iload C 5 dL_law_1568 rfl ?_
  refine v_iconst C (v := 1) dL_law_1570 (by decide) ?_
  refine v_iadd C dL_law_1571 ?_
  refine v_sld C hX hbl hbA h1 dL_law_1572 ?_
  refine v_at (pc' := 1573) rfl ?_
  obtain ⟨u2, e_u2, h⟩ := bnd h
  obtain ⟨z3, e_z3, h⟩ := bnd h
  refine v_callVi C (ci := 6) (av := [.int (xs (Int32.toNatClampNeg (i + 1)))]) (rest := []) rfl gL_law_X7_type rfl ⟨rfl, rfl⟩ hV_X7_type ⟨(Nat.le_of_ble_eq_true rfl), (Nat.le_of_ble_eq_true rfl)⟩ e_u2 (r_X7_type (A := A) e_z3) rfl rfl (Nat.le_of_ble_eq_true rfl) dL_law_1573 (hk := hk1) ?_
  refine v_istore C (lv' := [(6, .int z3.1), (5, .int z1.1), (0, .ref b), (1, .ref x), (2, .ref mo), (3, .ref ou), (4, .int i)]) dL_law_1576 (by decide) rfl ?_
  refine v_aload_n C 4 dL_law_1578 rfl rfl ?_
  obtain ⟨u4, e_u4, h⟩ := bnd h
  obtain ⟨x5, e_x5, h⟩ := bnd h
  refine v_callVi C (ci := 6) (av := []) (rest := []) rfl gL_law_X7_thrown rfl ⟨rfl, rfl⟩ hV_X7_thrown ⟨(Nat.le_of_ble_eq_true rfl), (Nat.le_of_ble_eq_true rfl)⟩ e_u4 (r_X7_thrown (A := A) e_x5) rfl rfl (Nat.le_of_ble_eq_true rfl) dL_law_1579 (hk := hk1) ?_
  refine v_iload C 1 dL_law_1582 rfl ?_
  refine v_icmp_eq C (tgt := 1589) dL_law_1584 (by decide) (fun q => ?_) (fun q => ?_)
  · have h := ite_t q h
    refine v_iload C 1 dL_law_1589 rfl ?_
    refine v_if_ne C (tgt := 1606) dL_law_1591 (by decide) (fun q => ?_) (fun q => ?_)
    · have h := ite_f q h
      refine v_goto C (tgt := 1706) dL_law_1606 (by decide) ?_
      obtain rfl := Option.some.inj h
      refine v_sub [2, 3, 4, 5, 6] rfl ?_
      exact kk
    · have h := ite_t q h
      refine v_aload_n C 5 dL_law_1594 rfl rfl ?_
      refine v_iconst C (v := 0) dL_law_1595 (by decide) ?_
      obtain ⟨x6, e_x6, h⟩ := bnd h
      refine v_lald C dL_law_1596 e_x6 ?_
      refine v_iload C 0 dL_law_1597 rfl ?_
      refine v_i2l C dL_law_1599 ?_
      refine v_lcmp C dL_law_1600 ?_
      refine v_if_eq C (tgt := 1606) dL_law_1601 (by decide) (fun q => ?_) (fun q => ?_)
      · have h := ite_t q h
        refine v_goto C (tgt := 1706) dL_law_1606 (by decide) ?_
        obtain rfl := Option.some.inj h
        refine v_sub [2, 3, 4, 5, 6] rfl ?_
        exact kk
      · have h := ite_f q h
        refine v_iconst C (v := 0) dL_law_1604 (by decide) ?_
        cases h
  · have h := ite_f q h
    refine v_iconst C (v := 0) dL_law_1587 (by decide) ?_
    cases h
set_option maxRecDepth 100000 in
set_option maxHeartbeats 4000000 in
theorem t_case20 {p : Program} {l : Launch} (hst : l.stackTraces = false) {e : Env} {s : State} {m : MethodId} {args : Array Value} {below : List Frame} {meth : Method} {c : Code} {G : GG} {A : Nat → Prop} (C : Cx p s m args meth c G A cL_law 7 RL wsL_law ret) {b L : Nat} {xs : Nat → Int32} (hX : va_X b L xs s s.heap) (hbl : b < s.heap.size) (hbA : ¬ A b) {i : Int32} (h0 : vp_in i L) (h1 : vp_in (i + 1) L) (h2 : vp_in (i + 2) L) (h3 : vp_in (i + 3) L) (h4 : vp_in (i + 4) L) {n kc ks : Nat} {Q : State → Prop} (hk0 : kc ≤ room_1.cells ∧ ks ≤ room_1.slots) (hk1 : kc + 1 ≤ room_1.cells ∧ ks + 6 ≤ room_1.slots) {w w' : Wd} {x mo ou : Nat} (h : mc_20 G.2.2.1 n w x mo ou xs i = some w')
    (kk : VQ p l e room_1 s m args below meth c G A 7 (kc + 1) (ks + 6) Q 1706 [(0, .ref b), (1, .ref x), (2, .ref mo), (3, .ref ou), (4, .int i)] [] w') : VQ p l e room_1 s m args below meth c G A 7 kc ks Q 1609 [(0, .ref b), (1, .ref x), (2, .ref mo), (3, .ref ou), (4, .int i)] [] w := by
  unfold mc_20 at h
  refine v_aload_n C 1 dL_law_1609 rfl rfl ?_
  obtain ⟨u1, e_u1, h⟩ := bnd h
  obtain ⟨z2, e_z2, h⟩ := bnd h
  refine v_callVi C (ci := 5) (av := []) (rest := []) rfl gL_law_X6_clearScript rfl ⟨rfl, rfl⟩ hV_X6_clearScript ⟨(Nat.le_of_ble_eq_true rfl), (Nat.le_of_ble_eq_true rfl)⟩ e_u1 (r_X6_clearScript (A := A) e_z2) rfl rfl (Nat.le_of_ble_eq_true rfl) dL_law_1610 (hk := hk0) ?_
  refine v_aload_n C 2 dL_law_1613 rfl rfl ?_
  obtain ⟨u3, e_u3, h⟩ := bnd h
  obtain ⟨z4, e_z4, h⟩ := bnd h
  refine v_callVi C (ci := 6) (av := []) (rest := [.int z2.1]) rfl gL_law_X7_clearScript rfl ⟨rfl, rfl⟩ hV_X7_clearScript ⟨(Nat.le_of_ble_eq_true rfl), (Nat.le_of_ble_eq_true rfl)⟩ e_u3 (r_X7_clearScript (A := A) e_z4) rfl rfl (Nat.le_of_ble_eq_true rfl) dL_law_1614 (hk := hk0) ?_
  refine v_icmp_eq C (tgt := 1706) dL_law_1617 (by decide) (fun q => ?_) (fun q => ?_)
  · have h := ite_t q h
    obtain rfl := Option.some.inj h
    exact v_widen (Nat.le_add_right _ _) (Nat.le_add_right _ _) kk
  · have h := ite_f q h
    refine v_iconst C (v := 0) dL_law_1620 (by decide) ?_
    cases h
set_option maxRecDepth 100000 in
set_option maxHeartbeats 4000000 in
theorem t_case21 {p : Program} {l : Launch} (hst : l.stackTraces = false) {e : Env} {s : State} {m : MethodId} {args : Array Value} {below : List Frame} {meth : Method} {c : Code} {G : GG} {A : Nat → Prop} (C : Cx p s m args meth c G A cL_law 7 RL wsL_law ret) {b L : Nat} {xs : Nat → Int32} (hX : va_X b L xs s s.heap) (hbl : b < s.heap.size) (hbA : ¬ A b) {i : Int32} (h0 : vp_in i L) (h1 : vp_in (i + 1) L) (h2 : vp_in (i + 2) L) (h3 : vp_in (i + 3) L) (h4 : vp_in (i + 4) L) {n kc ks : Nat} {Q : State → Prop} (hk0 : kc ≤ room_1.cells ∧ ks ≤ room_1.slots) (hk1 : kc + 1 ≤ room_1.cells ∧ ks + 6 ≤ room_1.slots) {w w' : Wd} {x mo ou : Nat} (h : mc_21 G.2.2.1 n w x mo ou xs i = some w')
    (kk : VQ p l e room_1 s m args below meth c G A 7 (kc + 1) (ks + 6) Q 1706 [(0, .ref b), (1, .ref x), (2, .ref mo), (3, .ref ou), (4, .int i)] [] w') : VQ p l e room_1 s m args below meth c G A 7 kc ks Q 1622 [(0, .ref b), (1, .ref x), (2, .ref mo), (3, .ref ou), (4, .int i)] [] w := by
  unfold mc_21 at h
  refine v_aload_n C 1 dL_law_1622 rfl rfl ?_
  obtain ⟨u1, e_u1, h⟩ := bnd h
  obtain ⟨z2, e_z2, h⟩ := bnd h
  refine v_callVi C (ci := 5) (av := []) (rest := []) rfl gL_law_X6_run rfl ⟨rfl, rfl⟩ hV_X6_run ⟨(Nat.le_of_ble_eq_true rfl), (Nat.le_of_ble_eq_true rfl)⟩ e_u1 (r_X6_run (A := A) e_z2) rfl rfl (Nat.le_of_ble_eq_true rfl) dL_law_1623 (hk := hk0) ?_
  refine v_aload_n C 2 dL_law_1626 rfl rfl ?_
  obtain ⟨u3, e_u3, h⟩ := bnd h
  obtain ⟨z4, e_z4, h⟩ := bnd h
  refine v_callVi C (ci := 6) (av := []) (rest := [.int z2.1]) rfl gL_law_X7_run rfl ⟨rfl, rfl⟩ hV_X7_run ⟨(Nat.le_of_ble_eq_true rfl), (Nat.le_of_ble_eq_true rfl)⟩ e_u3 (r_X7_run (A := A) e_z4) rfl rfl (Nat.le_of_ble_eq_true rfl) dL_law_1627 (hk := hk0) ?_
  refine v_icmp_eq C (tgt := 1706) dL_law_1630 (by decide) (fun q => ?_) (fun q => ?_)
  · have h := ite_t q h
    obtain rfl := Option.some.inj h
    exact v_widen (Nat.le_add_right _ _) (Nat.le_add_right _ _) kk
  · have h := ite_f q h
    refine v_iconst C (v := 0) dL_law_1633 (by decide) ?_
    cases h
set_option maxRecDepth 100000 in
set_option maxHeartbeats 4000000 in
theorem t_case22 {p : Program} {l : Launch} (hst : l.stackTraces = false) {e : Env} {s : State} {m : MethodId} {args : Array Value} {below : List Frame} {meth : Method} {c : Code} {G : GG} {A : Nat → Prop} (C : Cx p s m args meth c G A cL_law 7 RL wsL_law ret) {b L : Nat} {xs : Nat → Int32} (hX : va_X b L xs s s.heap) (hbl : b < s.heap.size) (hbA : ¬ A b) {i : Int32} (h0 : vp_in i L) (h1 : vp_in (i + 1) L) (h2 : vp_in (i + 2) L) (h3 : vp_in (i + 3) L) (h4 : vp_in (i + 4) L) {n kc ks : Nat} {Q : State → Prop} (hk0 : kc ≤ room_1.cells ∧ ks ≤ room_1.slots) (hk1 : kc + 1 ≤ room_1.cells ∧ ks + 6 ≤ room_1.slots) {w w' : Wd} {x mo ou : Nat} (h : mc_22 G.2.2.1 n w x mo ou xs i = some w')
    (kk : VQ p l e room_1 s m args below meth c G A 7 (kc + 1) (ks + 6) Q 1706 [(0, .ref b), (1, .ref x), (2, .ref mo), (3, .ref ou), (4, .int i)] [] w') : VQ p l e room_1 s m args below meth c G A 7 kc ks Q 1635 [(0, .ref b), (1, .ref x), (2, .ref mo), (3, .ref ou), (4, .int i)] [] w := by
  unfold mc_22 at h
  refine v_aload_n C 1 dL_law_1635 rfl rfl ?_
  obtain ⟨u1, e_u1, h⟩ := bnd h
  obtain ⟨x2, e_x2, h⟩ := bnd h
  refine v_callVi C (ci := 5) (av := []) (rest := []) rfl gL_law_X6_time rfl ⟨rfl, rfl⟩ hV_X6_time ⟨(Nat.le_of_ble_eq_true rfl), (Nat.le_of_ble_eq_true rfl)⟩ e_u1 (r_X6_time (A := A) e_x2) rfl rfl (Nat.le_of_ble_eq_true rfl) dL_law_1636 (hk := hk0) ?_
  refine v_aload_n C 2 dL_law_1639 rfl rfl ?_
  obtain ⟨u3, e_u3, h⟩ := bnd h
  obtain ⟨z4, e_z4, h⟩ := bnd h
  refine v_callVi C (ci := 6) (av := []) (rest := [.int x2]) rfl gL_law_X7_time rfl ⟨rfl, rfl⟩ hV_X7_time ⟨(Nat.le_of_ble_eq_true rfl), (Nat.le_of_ble_eq_true rfl)⟩ e_u3 (r_X7_time (A := A) e_z4) rfl rfl (Nat.le_of_ble_eq_true rfl) dL_law_1640 (hk := hk0) ?_
  refine v_icmp_eq C (tgt := 1706) dL_law_1643 (by decide) (fun q => ?_) (fun q => ?_)
  · have h := ite_t q h
    obtain rfl := Option.some.inj h
    exact v_widen (Nat.le_add_right _ _) (Nat.le_add_right _ _) kk
  · have h := ite_f q h
    refine v_iconst C (v := 0) dL_law_1646 (by decide) ?_
    cases h
set_option maxRecDepth 100000 in
set_option maxHeartbeats 4000000 in
theorem t_case23 {p : Program} {l : Launch} (hst : l.stackTraces = false) {e : Env} {s : State} {m : MethodId} {args : Array Value} {below : List Frame} {meth : Method} {c : Code} {G : GG} {A : Nat → Prop} (C : Cx p s m args meth c G A cL_law 7 RL wsL_law ret) {b L : Nat} {xs : Nat → Int32} (hX : va_X b L xs s s.heap) (hbl : b < s.heap.size) (hbA : ¬ A b) {i : Int32} (h0 : vp_in i L) (h1 : vp_in (i + 1) L) (h2 : vp_in (i + 2) L) (h3 : vp_in (i + 3) L) (h4 : vp_in (i + 4) L) {n kc ks : Nat} {Q : State → Prop} (hk0 : kc ≤ room_1.cells ∧ ks ≤ room_1.slots) (hk1 : kc + 1 ≤ room_1.cells ∧ ks + 6 ≤ room_1.slots) {w w' : Wd} {x mo ou : Nat} (h : mc_23 G.2.2.1 n w x mo ou xs i = some w')
    (kk : VQ p l e room_1 s m args below meth c G A 7 (kc + 1) (ks + 6) Q 1706 [(0, .ref b), (1, .ref x), (2, .ref mo), (3, .ref ou), (4, .int i)] [] w') : VQ p l e room_1 s m args below meth c G A 7 kc ks Q 1648 [(0, .ref b), (1, .ref x), (2, .ref mo), (3, .ref ou), (4, .int i)] [] w := by
  unfold mc_23 at h
  refine v_aload_n C 1 dL_law_1648 rfl rfl ?_
  refine v_aload_n C 3 dL_law_1649 rfl rfl ?_
  obtain ⟨z1, e_z1, h⟩ := bnd h
  refine v_callSW C (av := [.ref x, .ref ou]) (rest := []) gL_law_L_undo rfl ⟨rfl, rfl⟩ hS_L_undo ⟨(Nat.le_of_ble_eq_true rfl), (Nat.le_of_ble_eq_true rfl)⟩ (r_L_undo (A := A) hst e_z1) rfl rfl (Nat.le_of_ble_eq_true rfl) dL_law_1650 hk1 ?_
  refine v_istore C (lv' := [(5, .int z1.1), (0, .ref b), (1, .ref x), (2, .ref mo), (3, .ref ou), (4, .int i)]) dL_law_1653 (by decide) rfl ?_
  refine v_aload_n C 3 dL_law_1655 rfl rfl ?_
  obtain ⟨u2, e_u2, h⟩ := bnd h
  obtain ⟨z3, e_z3, h⟩ := bnd h
  refine v_callVi C (ci := 6) (av := []) (rest := []) rfl gL_law_X7_undo rfl ⟨rfl, rfl⟩ hV_X7_undo ⟨(Nat.le_of_ble_eq_true rfl), (Nat.le_of_ble_eq_true rfl)⟩ e_u2 (r_X7_undo (A := A) e_z3) rfl rfl (Nat.le_of_ble_eq_true rfl) dL_law_1656 (hk := hk1) ?_
  refine v_istore C (lv' := [(6, .int z3.1), (5, .int z1.1), (0, .ref b), (1, .ref x), (2, .ref mo), (3, .ref ou), (4, .int i)]) dL_law_1659 (by decide) rfl ?_
  refine v_at (pc' := 1661) rfl ?_
  refine v_aload_n C 4 dL_law_1661 rfl rfl ?_
  obtain ⟨u4, e_u4, h⟩ := bnd h
  obtain ⟨x5, e_x5, h⟩ := bnd h
  refine v_callVi C (ci := 6) (av := []) (rest := []) rfl gL_law_X7_thrown rfl ⟨rfl, rfl⟩ hV_X7_thrown ⟨(Nat.le_of_ble_eq_true rfl), (Nat.le_of_ble_eq_true rfl)⟩ e_u4 (r_X7_thrown (A := A) e_x5) rfl rfl (Nat.le_of_ble_eq_true rfl) dL_law_1662 (hk := hk1) ?_
  refine v_iload C 1 dL_law_1665 rfl ?_
  refine v_icmp_eq C (tgt := 1672) dL_law_1667 (by decide) (fun q => ?_) (fun q => ?_)
  · have h := ite_t q h
    refine v_iload C 1 dL_law_1672 rfl ?_
    refine v_if_ne C (tgt := 1689) dL_law_1674 (by decide) (fun q => ?_) (fun q => ?_)
    · have h := ite_f q h
      refine v_goto C (tgt := 1706) dL_law_1689 (by decide) ?_
      obtain rfl := Option.some.inj h
      refine v_sub [2, 3, 4, 5, 6] rfl ?_
      exact kk
    · have h := ite_t q h
      refine v_aload_n C 5 dL_law_1677 rfl rfl ?_
      refine v_iconst C (v := 0) dL_law_1678 (by decide) ?_
      obtain ⟨x6, e_x6, h⟩ := bnd h
      refine v_lald C dL_law_1679 e_x6 ?_
      refine v_iload C 0 dL_law_1680 rfl ?_
      refine v_i2l C dL_law_1682 ?_
      refine v_lcmp C dL_law_1683 ?_
      refine v_if_eq C (tgt := 1689) dL_law_1684 (by decide) (fun q => ?_) (fun q => ?_)
      · have h := ite_t q h
        refine v_goto C (tgt := 1706) dL_law_1689 (by decide) ?_
        obtain rfl := Option.some.inj h
        refine v_sub [2, 3, 4, 5, 6] rfl ?_
        exact kk
      · have h := ite_f q h
        refine v_iconst C (v := 0) dL_law_1687 (by decide) ?_
        cases h
  · have h := ite_f q h
    refine v_iconst C (v := 0) dL_law_1670 (by decide) ?_
    cases h
set_option maxRecDepth 100000 in
set_option maxHeartbeats 4000000 in
theorem t_case24 {p : Program} {l : Launch} (hst : l.stackTraces = false) {e : Env} {s : State} {m : MethodId} {args : Array Value} {below : List Frame} {meth : Method} {c : Code} {G : GG} {A : Nat → Prop} (C : Cx p s m args meth c G A cL_law 7 RL wsL_law ret) {b L : Nat} {xs : Nat → Int32} (hX : va_X b L xs s s.heap) (hbl : b < s.heap.size) (hbA : ¬ A b) {i : Int32} (h0 : vp_in i L) (h1 : vp_in (i + 1) L) (h2 : vp_in (i + 2) L) (h3 : vp_in (i + 3) L) (h4 : vp_in (i + 4) L) {n kc ks : Nat} {Q : State → Prop} (hk0 : kc ≤ room_1.cells ∧ ks ≤ room_1.slots) (hk1 : kc + 1 ≤ room_1.cells ∧ ks + 6 ≤ room_1.slots) {w w' : Wd} {x mo ou : Nat} (h : mc_24 G.2.2.1 n w x mo ou xs i = some w')
    (kk : VQ p l e room_1 s m args below meth c G A 7 (kc + 1) (ks + 6) Q 1706 [(0, .ref b), (1, .ref x), (2, .ref mo), (3, .ref ou), (4, .int i)] [] w') : VQ p l e room_1 s m args below meth c G A 7 kc ks Q 1692 [(0, .ref b), (1, .ref x), (2, .ref mo), (3, .ref ou), (4, .int i)] [] w := by
  unfold mc_24 at h
  refine v_aload_n C 1 dL_law_1692 rfl rfl ?_
  obtain ⟨u1, e_u1, h⟩ := bnd h
  obtain ⟨z2, e_z2, h⟩ := bnd h
  refine v_callVJ C (ci := 5) (av := []) (rest := []) rfl gL_law_X6_digest rfl ⟨rfl, rfl⟩ hV_X6_digest ⟨(Nat.le_of_ble_eq_true rfl), (Nat.le_of_ble_eq_true rfl)⟩ e_u1 (r_X6_digest (A := A) e_z2) rfl rfl (Nat.le_of_ble_eq_true rfl) dL_law_1693 (hk := hk0) ?_
  refine v_aload_n C 2 dL_law_1696 rfl rfl ?_
  obtain ⟨u3, e_u3, h⟩ := bnd h
  obtain ⟨z4, e_z4, h⟩ := bnd h
  refine v_callVJ C (ci := 6) (av := []) (rest := [.long z2]) rfl gL_law_X7_digest rfl ⟨rfl, rfl⟩ hV_X7_digest ⟨(Nat.le_of_ble_eq_true rfl), (Nat.le_of_ble_eq_true rfl)⟩ e_u3 (r_X7_digest (A := A) e_z4) rfl rfl (Nat.le_of_ble_eq_true rfl) dL_law_1697 (hk := hk0) ?_
  refine v_lcmp C dL_law_1700 ?_
  refine v_if_eq C (tgt := 1706) dL_law_1701 (by decide) (fun q => ?_) (fun q => ?_)
  · have h := ite_t q h
    obtain rfl := Option.some.inj h
    exact v_widen (Nat.le_add_right _ _) (Nat.le_add_right _ _) kk
  · have h := ite_f q h
    refine v_iconst C (v := 0) dL_law_1704 (by decide) ?_
    cases h
