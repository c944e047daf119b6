theorem fX6_cursor_10 : Cond.fieldLink RX6 10 (TX6 0).1 (TX6 0).2.1 (TX6 0).2.2.1 ∈ wsX6_cursor := by decide +kernel
theorem inX6_cursor_X6 : ∀ x ∈ u_ws RX6 TX6 5, x ∈ wsX6_cursor := by decide +kernel
theorem fX6_cursor_206 : Cond.fieldLink RX6 206 (TX4 5).1 (TX4 5).2.1 (TX4 5).2.2.1 ∈ wsX6_cursor := by decide +kernel
theorem inX6_cursor_X4 : ∀ x ∈ u_ws RX4 TX4 9, x ∈ wsX6_cursor := by decide +kernel
theorem fX6_cursor_209 : Cond.fieldLink RX6 209 (TX4 6).1 (TX4 6).2.1 (TX4 6).2.2.1 ∈ wsX6_cursor := by decide +kernel
theorem fX6_cursor_212 : Cond.fieldLink RX6 212 (TX4 7).1 (TX4 7).2.1 (TX4 7).2.2.1 ∈ wsX6_cursor := by decide +kernel
theorem hV_X4_pairsAfter : yX4_pairsAfter.cls = RX4 ∧ yX4_pairsAfter.cls ≠ "java/lang/invoke/MethodHandle" ∧ yX4_pairsAfter.cls ≠ "java/lang/invoke/VarHandle" ∧ (parseMethodDescriptor yX4_pairsAfter.desc).map (fun d => d.parameters.length) = some 3 := by decide +kernel
theorem fX6_cursor_33 : Cond.fieldLink RX6 33 (TX6 3).1 (TX6 3).2.1 (TX6 3).2.2.1 ∈ wsX6_cursor := by decide +kernel
theorem fX6_cursor_126 : Cond.fieldLink RX6 126 (TX0 0).1 (TX0 0).2.1 (TX0 0).2.2.1 ∈ wsX6_cursor := by decide +kernel
theorem inX6_cursor_X0 : ∀ x ∈ u_ws RX0 TX0 2, x ∈ wsX6_cursor := by decide +kernel
theorem hV_X1_nodesWithin : yX1_nodesWithin.cls = RX1 ∧ yX1_nodesWithin.cls ≠ "java/lang/invoke/MethodHandle" ∧ yX1_nodesWithin.cls ≠ "java/lang/invoke/VarHandle" ∧ (parseMethodDescriptor yX1_nodesWithin.desc).map (fun d => d.parameters.length) = some 3 := by decide +kernel
set_option maxRecDepth 100000 in
set_option maxHeartbeats 4000000 in
theorem r_X6_cursor {l : Launch} {G : GG} {A : Nat → Prop} {n : Nat} {w : Wd} {this : Nat} {a1 : Int32} {a2 : Int32} {z : Int32} (h : m_X6_cursor n w this a1 a2 = some z) : Con l yX6_cursor wsX6_cursor { frames := 4, cells := 0, slots := 0, locals := 93 } G A [.ref this, .int a1, .int a2] w (some (.int z)) w := by
  refine Con.of (own := RX6) (cc := cX6_cursor) (maxL := 6) (ret := (some .int)) rfl (by decide) rfl (Nat.le_of_ble_eq_true rfl) ?_
  intro p e s m args below meth c C
  show V p l e { frames := 4, cells := 0, slots := 0, locals := 93 } s m args below meth c G A 6 0 [(0, .ref this), (1, .int a1), (2, .int a2)] [] w (some (.int z)) w
  unfold m_X6_cursor at h
  refine v_iload_n C 1 dX6_cursor_0 rfl rfl ?_
  refine v_iconst C (v := 4) dX6_cursor_1 (by decide) ?_
  refine v_iload_n C 2 dX6_cursor_2 rfl rfl ?_
  refine v_iconst C (v := 5) dX6_cursor_3 (by decide) ?_
  refine v_callSi C (av := [.int a1, .int 4, .int a2, .int 5]) (rest := []) gX6_cursor_X6_refusalOfValue rfl ⟨rfl, rfl⟩ hS_X6_refusalOfValue ⟨(Nat.le_of_ble_eq_true rfl), (Nat.le_of_ble_eq_true rfl)⟩ (r_X6_refusalOfValue (A := A) rfl) rfl rfl (Nat.le_of_ble_eq_true rfl) dX6_cursor_4 ?_
  obtain ⟨z1, e_z1, h⟩ := bnd h
  refine v_callSv C (av := [.int (m_X6_refusalOfValue a1 4 a2 5)]) (rest := []) gX6_cursor_X6_throwIf rfl ⟨rfl, rfl⟩ hS_X6_throwIf ⟨(Nat.le_of_ble_eq_true rfl), (Nat.le_of_ble_eq_true rfl)⟩ (r_X6_throwIf (A := A) e_z1) rfl rfl (Nat.le_of_ble_eq_true rfl) dX6_cursor_7 ?_
  refine v_aload_n C 0 dX6_cursor_10 rfl rfl ?_
  refine v_at (pc' := 11) rfl ?_
  obtain ⟨q2, e_q2, h⟩ := bnd h
  refine v_getf C (ci := 5) (k := 0) rfl inX6_cursor_X6 (by decide) fX6_cursor_10 dX6_cursor_11 (gfR_e e_q2) ?_
  obtain ⟨q3, e_q3, h⟩ := bnd h
  refine v_getf C (ci := 3) (k := 5) rfl inX6_cursor_X4 (by decide) fX6_cursor_206 dX6_cursor_14 (gfR_e e_q3) ?_
  refine v_iload_n C 1 dX6_cursor_17 rfl rfl ?_
  obtain ⟨x4, e_x4, h⟩ := bnd h
  refine v_iald C dX6_cursor_18 e_x4 ?_
  refine v_istore_n C (lv' := [(3, .int x4), (0, .ref this), (1, .int a1), (2, .int a2)]) dX6_cursor_19 rfl (by decide) rfl ?_
  refine v_aload_n C 1 dX6_cursor_20 rfl rfl ?_
  obtain ⟨q5, e_q5, h⟩ := bnd h
  refine v_getf C (ci := 5) (k := 0) rfl inX6_cursor_X6 (by decide) fX6_cursor_10 dX6_cursor_21 (gfR_e e_q5) ?_
  obtain ⟨q6, e_q6, h⟩ := bnd h
  refine v_getf C (ci := 3) (k := 6) rfl inX6_cursor_X4 (by decide) fX6_cursor_209 dX6_cursor_24 (gfR_e e_q6) ?_
  refine v_at (pc' := 27) rfl ?_
  refine v_iload_n C 2 dX6_cursor_27 rfl rfl ?_
  obtain ⟨x7, e_x7, h⟩ := bnd h
  refine v_iald C dX6_cursor_28 e_x7 ?_
  refine v_istore C (lv' := [(4, .int x7), (3, .int x4), (0, .ref this), (1, .int a1), (2, .int a2)]) dX6_cursor_29 (by decide) rfl ?_
  refine v_aload_n C 2 dX6_cursor_31 rfl rfl ?_
  obtain ⟨q8, e_q8, h⟩ := bnd h
  refine v_getf C (ci := 5) (k := 0) rfl inX6_cursor_X6 (by decide) fX6_cursor_10 dX6_cursor_32 (gfR_e e_q8) ?_
  obtain ⟨q9, e_q9, h⟩ := bnd h
  refine v_getf C (ci := 3) (k := 7) rfl inX6_cursor_X4 (by decide) fX6_cursor_212 dX6_cursor_35 (gfR_e e_q9) ?_
  refine v_iload_n C 3 dX6_cursor_38 rfl rfl ?_
  obtain ⟨x10, e_x10, h⟩ := bnd h
  refine v_iald C dX6_cursor_39 e_x10 ?_
  refine v_at (pc' := 40) rfl ?_
  refine v_istore C (lv' := [(5, .int x10), (4, .int x7), (3, .int x4), (0, .ref this), (1, .int a1), (2, .int a2)]) dX6_cursor_40 (by decide) rfl ?_
  refine v_iload_n C 5 dX6_cursor_42 rfl rfl ?_
  by_cases q11 : a2 = 0
  · have h := ite_t q11 h
    refine v_tabIn C 0 33 76 dX6_cursor_43 q11 (by decide) (by decide) rfl (by decide) ?_
    refine v_iload_n C 2 dX6_cursor_76 rfl rfl ?_
    obtain rfl := Option.some.inj h
    exact v_iret C dX6_cursor_77
  have h := ite_f q11 h
  by_cases q12 : a2 = 1
  · have h := ite_t q12 h
    refine v_tabIn C 1 35 78 dX6_cursor_43 q12 (by decide) (by decide) rfl (by decide) ?_
    refine v_iload C 1 dX6_cursor_78 rfl ?_
    obtain rfl := Option.some.inj h
    exact v_iret C dX6_cursor_80
  have h := ite_f q12 h
  by_cases q13 : a2 = 2
  · have h := ite_t q13 h
    refine v_tabIn C 2 38 81 dX6_cursor_43 q13 (by decide) (by decide) rfl (by decide) ?_
    refine v_iload C 0 dX6_cursor_81 rfl ?_
    refine v_iconst C (v := (-1)) dX6_cursor_83 (by decide) ?_
    refine v_icmp_ne C (tgt := 91) dX6_cursor_84 (by decide) (fun q => ?_) (fun q => ?_)
    · have h := ite_f q h
      refine v_iload C 0 dX6_cursor_91 rfl ?_
      refine v_bipush C (v := 32) dX6_cursor_93 (by decide) ?_
      refine v_idiv C dX6_cursor_95 (by decide) ?_
      obtain rfl := Option.some.inj h
      exact v_iret C dX6_cursor_96
    · have h := ite_t q h
      refine v_iconst C (v := (-1)) dX6_cursor_87 (by decide) ?_
      refine v_goto C (tgt := 96) dX6_cursor_88 (by decide) ?_
      obtain rfl := Option.some.inj h
      exact v_iret C dX6_cursor_96
  have h := ite_f q13 h
  by_cases q14 : a2 = 3
  · have h := ite_t q14 h
    refine v_tabIn C 3 54 97 dX6_cursor_43 q14 (by decide) (by decide) rfl (by decide) ?_
    refine v_iload C 0 dX6_cursor_97 rfl ?_
    refine v_iconst C (v := (-1)) dX6_cursor_99 (by decide) ?_
    refine v_icmp_ne C (tgt := 107) dX6_cursor_100 (by decide) (fun q => ?_) (fun q => ?_)
    · have h := ite_f q h
      refine v_iload C 0 dX6_cursor_107 rfl ?_
      refine v_bipush C (v := 32) dX6_cursor_109 (by decide) ?_
      refine v_irem C dX6_cursor_111 (by decide) ?_
      obtain rfl := Option.some.inj h
      exact v_iret C dX6_cursor_112
    · have h := ite_t q h
      refine v_iconst C (v := (-1)) dX6_cursor_103 (by decide) ?_
      refine v_goto C (tgt := 112) dX6_cursor_104 (by decide) ?_
      obtain rfl := Option.some.inj h
      exact v_iret C dX6_cursor_112
  have h := ite_f q14 h
  by_cases q15 : a2 = 4
  · have h := ite_t q15 h
    refine v_tabIn C 4 70 113 dX6_cursor_43 q15 (by decide) (by decide) rfl (by decide) ?_
    refine v_aload_n C 3 dX6_cursor_113 rfl rfl ?_
    obtain ⟨q16, e_q16, h⟩ := bnd h
    refine v_getf C (ci := 5) (k := 0) rfl inX6_cursor_X6 (by decide) fX6_cursor_10 dX6_cursor_114 (gfR_e e_q16) ?_
    refine v_iload C 0 dX6_cursor_117 rfl ?_
    refine v_iload_n C 2 dX6_cursor_119 rfl rfl ?_
    refine v_iload C 1 dX6_cursor_120 rfl ?_
    obtain ⟨u17, e_u17, h⟩ := bnd h
    obtain ⟨x18, e_x18, h⟩ := bnd h
    refine v_callVi C (ci := 3) (av := [.int x10, .int x4, .int x7]) (rest := []) rfl gX6_cursor_X4_pairsAfter rfl ⟨rfl, rfl⟩ hV_X4_pairsAfter ⟨(Nat.le_of_ble_eq_true rfl), (Nat.le_of_ble_eq_true rfl)⟩ e_u17 (r_X4_pairsAfter (A := A) e_x18) rfl rfl (Nat.le_of_ble_eq_true rfl) dX6_cursor_122 ?_
    obtain rfl := Option.some.inj h
    exact v_iret C dX6_cursor_125
  have h := ite_f q15 h
  have g_q11 := lv_neT q11 (a := 0) rfl
  have g_q12 := lv_neT q12 (a := 1) rfl
  have g_q13 := lv_neT q13 (a := 2) rfl
  have g_q14 := lv_neT q14 (a := 3) rfl
  have g_q15 := lv_neT q15 (a := 4) rfl
  refine v_tabOut C 126 dX6_cursor_43 (by omega) (by decide) ?_
  refine v_iload C 0 dX6_cursor_126 rfl ?_
  refine v_iconst C (v := (-1)) dX6_cursor_128 (by decide) ?_
  refine v_icmp_ne C (tgt := 136) dX6_cursor_129 (by decide) (fun q => ?_) (fun q => ?_)
  · have h := ite_f q h
    refine v_aload_n C 3 dX6_cursor_136 rfl rfl ?_
    obtain ⟨q19, e_q19, h⟩ := bnd h
    refine v_getf C (ci := 5) (k := 3) rfl inX6_cursor_X6 (by decide) fX6_cursor_33 dX6_cursor_137 (gfR_e e_q19) ?_
    obtain ⟨q20, e_q20, h⟩ := bnd h
    refine v_getf C (ci := 0) (k := 0) rfl inX6_cursor_X0 (by decide) fX6_cursor_126 dX6_cursor_140 (gfR_e e_q20) ?_
    refine v_iconst C (v := 0) dX6_cursor_143 (by decide) ?_
    obtain ⟨q21, e_q21, h⟩ := bnd h
    refine v_aald3 C dX6_cursor_144 e_q21 ?_
    refine v_iload C 0 dX6_cursor_145 rfl ?_
    refine v_bipush C (v := 32) dX6_cursor_147 (by decide) ?_
    refine v_at (pc' := 149) rfl ?_
    refine v_idiv C dX6_cursor_149 (by decide) ?_
    refine v_iload_n C 2 dX6_cursor_150 rfl rfl ?_
    refine v_iload C 1 dX6_cursor_151 rfl ?_
    obtain ⟨u22, e_u22, h⟩ := bnd h
    obtain ⟨x23, e_x23, h⟩ := bnd h
    refine v_callVi C (ci := 1) (av := [.int (x10 / 32), .int x4, .int x7]) (rest := []) rfl gX6_cursor_X1_nodesWithin rfl ⟨rfl, rfl⟩ hV_X1_nodesWithin ⟨(Nat.le_of_ble_eq_true rfl), (Nat.le_of_ble_eq_true rfl)⟩ e_u22 (r_X1_nodesWithin (A := A) e_x23) rfl rfl (Nat.le_of_ble_eq_true rfl) dX6_cursor_153 ?_
    obtain rfl := Option.some.inj h
    exact v_iret C dX6_cursor_156
  · have h := ite_t q h
    refine v_iconst C (v := 0) dX6_cursor_132 (by decide) ?_
    refine v_goto C (tgt := 156) dX6_cursor_133 (by decide) ?_
    obtain rfl := Option.some.inj h
    exact v_iret C dX6_cursor_156
theorem fX6_nearest_10 : Cond.fieldLink RX6 10 (TX6 0).1 (TX6 0).2.1 (TX6 0).2.2.1 ∈ wsX6_nearest := by decide +kernel
theorem inX6_nearest_X6 : ∀ x ∈ u_ws RX6 TX6 5, x ∈ wsX6_nearest := by decide +kernel
set_option maxRecDepth 100000 in
set_option maxHeartbeats 4000000 in
theorem r_X6_nearest_p48 {p : Program} {l : Launch} {e : Env} {s : State} {m : MethodId} {args : Array Value} {below : List Frame} {meth : Method} {c : Code} {G : GG} {A : Nat → Prop} (C : Cx p s m args meth c G A cX6_nearest 6 RX6 wsX6_nearest (some .int)) (n : Nat) {z : Int32} : ∀ (t : Nat), ∀ (w : Wd) (a0 : Nat) (a1 : Int32) (a2 : Int32) (a3 : Int32) (a4 : Int32) (a5 : Int32), m_X6_nearest_p48 n t w a0 a1 a2 a3 a4 a5 = some z → V p l e { frames := 3, cells := 0, slots := 0, locals := 72 } s m args below meth c G A 6 48 [(0, .ref a0), (1, .int a1), (2, .int a2), (3, .int a3), (4, .int a4), (5, .int a5)] [] w (some (.int z)) w := by
  intro t
  induction t with
  | zero =>
    intro w a0 a1 a2 a3 a4 a5 h
    rw [m_X6_nearest_p48] at h
    cases h
  | succ t ih =>
    intro w a0 a1 a2 a3 a4 a5 h
    rw [m_X6_nearest_p48] at h
    refine v_iload C 5 dX6_nearest_48 rfl ?_
    refine v_iload_n C 3 dX6_nearest_50 rfl rfl ?_
    refine v_icmp_ge C (tgt := 73) dX6_nearest_51 (by decide) (fun q => ?_) (fun q => ?_)
    · have h := ite_t q h
      refine v_iload C 4 dX6_nearest_73 rfl ?_
      refine v_bipush C (v := 32) dX6_nearest_75 (by decide) ?_
      refine v_irem C dX6_nearest_77 (by decide) ?_
      obtain rfl := Option.some.inj h
      exact v_iret C dX6_nearest_78
    · have h := ite_f q h
      refine v_aload_n C 0 dX6_nearest_54 rfl rfl ?_
      obtain ⟨q1, e_q1, h⟩ := bnd h
      refine v_getf C (ci := 5) (k := 0) rfl inX6_nearest_X6 (by decide) fX6_nearest_10 dX6_nearest_55 (gfR_e e_q1) ?_
      refine v_iload C 4 dX6_nearest_58 rfl ?_
      refine v_iload_n C 1 dX6_nearest_60 rfl rfl ?_
      refine v_iload_n C 2 dX6_nearest_61 rfl rfl ?_
      obtain ⟨u2, e_u2, h⟩ := bnd h
      obtain ⟨x3, e_x3, h⟩ := bnd h
      refine v_callVi C (ci := 3) (av := [.int a4, .int a1, .int a2]) (rest := []) rfl gX6_nearest_X4_pairAfter rfl ⟨rfl, rfl⟩ hV_X4_pairAfter ⟨(Nat.le_of_ble_eq_true rfl), (Nat.le_of_ble_eq_true rfl)⟩ e_u2 (r_X4_pairAfter (A := A) e_x3) rfl rfl (Nat.le_of_ble_eq_true rfl) dX6_nearest_62 ?_
      refine v_istore C (lv' := [(4, .int x3), (0, .ref a0), (1, .int a1), (2, .int a2), (3, .int a3), (5, .int a5)]) dX6_nearest_65 (by decide) rfl ?_
      refine v_at (pc' := 67) rfl ?_
      refine v_iinc C (k := 5) (v := (a5 + 1)) (lv' := [(5, .int (a5 + 1)), (4, .int x3), (0, .ref a0), (1, .int a1), (2, .int a2), (3, .int a3)]) dX6_nearest_67 rfl rfl (by decide) rfl ?_
      refine v_goto C (tgt := 48) dX6_nearest_70 (by decide) ?_
      refine v_sub [2, 3, 4, 5, 1, 0] rfl ?_
      exact ih _ _ _ _ _ _ _ h
set_option maxRecDepth 100000 in
set_option maxHeartbeats 4000000 in
theorem r_X6_nearest {l : Launch} {G : GG} {A : Nat → Prop} {n : Nat} {w : Wd} {this : Nat} {a1 : Int32} {a2 : Int32} {a3 : Int32} {z : Int32} (h : m_X6_nearest n w this a1 a2 a3 = some z) : Con l yX6_nearest wsX6_nearest { frames := 3, cells := 0, slots := 0, locals := 72 } G A [.ref this, .int a1, .int a2, .int a3] w (some (.int z)) w := by
  refine Con.of (own := RX6) (cc := cX6_nearest) (maxL := 6) (ret := (some .int)) rfl (by decide) rfl (Nat.le_of_ble_eq_true rfl) ?_
  intro p e s m args below meth c C
  show V p l e { frames := 3, cells := 0, slots := 0, locals := 72 } s m args below meth c G A 6 0 [(0, .ref this), (1, .int a1), (2, .int a2), (3, .int a3)] [] w (some (.int z)) w
  unfold m_X6_nearest at h
  refine v_iload_n C 1 dX6_nearest_0 rfl rfl ?_
  refine v_iload_n C 2 dX6_nearest_1 rfl rfl ?_
  refine v_callSi C (av := [.int a1, .int a2]) (rest := []) gX6_nearest_X6_isPosition rfl ⟨rfl, rfl⟩ hS_X6_isPosition ⟨(Nat.le_of_ble_eq_true rfl), (Nat.le_of_ble_eq_true rfl)⟩ (r_X6_isPosition (A := A) rfl) rfl rfl (Nat.le_of_ble_eq_true rfl) dX6_nearest_2 ?_
  refine v_if_eq C (tgt := 16) dX6_nearest_5 (by decide) (fun q => ?_) (fun q => ?_)
  · have h := ite_t q h
    refine v_iconst C (v := 2) dX6_nearest_16 (by decide) ?_
    obtain ⟨z1, e_z1, h⟩ := bnd h
    refine v_callSv C (av := [.int 2]) (rest := []) gX6_nearest_X6_throwIf rfl ⟨rfl, rfl⟩ hS_X6_throwIf ⟨(Nat.le_of_ble_eq_true rfl), (Nat.le_of_ble_eq_true rfl)⟩ (r_X6_throwIf (A := A) e_z1) rfl rfl (Nat.le_of_ble_eq_true rfl) dX6_nearest_17 ?_
    refine v_iload_n C 3 dX6_nearest_20 rfl rfl ?_
    refine v_aload_n C 0 dX6_nearest_21 rfl rfl ?_
    obtain ⟨q2, e_q2, h⟩ := bnd h
    refine v_getf C (ci := 5) (k := 0) rfl inX6_nearest_X6 (by decide) fX6_nearest_10 dX6_nearest_22 (gfR_e e_q2) ?_
    obtain ⟨u3, e_u3, h⟩ := bnd h
    obtain ⟨x4, e_x4, h⟩ := bnd h
    refine v_callVi C (ci := 3) (av := []) (rest := [.int a3]) rfl gX6_nearest_X4_count rfl ⟨rfl, rfl⟩ hV_X4_count ⟨(Nat.le_of_ble_eq_true rfl), (Nat.le_of_ble_eq_true rfl)⟩ e_u3 (r_X4_count (A := A) e_x4) rfl rfl (Nat.le_of_ble_eq_true rfl) dX6_nearest_25 ?_
    refine v_icmp_lt C (tgt := 33) dX6_nearest_28 (by decide) (fun q => ?_) (fun q => ?_)
    · have h := ite_t q h
      refine v_aload_n C 0 dX6_nearest_33 rfl rfl ?_
      obtain ⟨q5, e_q5, h⟩ := bnd h
      refine v_getf C (ci := 5) (k := 0) rfl inX6_nearest_X6 (by decide) fX6_nearest_10 dX6_nearest_34 (gfR_e e_q5) ?_
      refine v_iconst C (v := (-1)) dX6_nearest_37 (by decide) ?_
      refine v_iload_n C 1 dX6_nearest_38 rfl rfl ?_
      refine v_iload_n C 2 dX6_nearest_39 rfl rfl ?_
      obtain ⟨u6, e_u6, h⟩ := bnd h
      obtain ⟨x7, e_x7, h⟩ := bnd h
      refine v_callVi C (ci := 3) (av := [.int (-1), .int a1, .int a2]) (rest := []) rfl gX6_nearest_X4_pairAfter rfl ⟨rfl, rfl⟩ hV_X4_pairAfter ⟨(Nat.le_of_ble_eq_true rfl), (Nat.le_of_ble_eq_true rfl)⟩ e_u6 (r_X4_pairAfter (A := A) e_x7) rfl rfl (Nat.le_of_ble_eq_true rfl) dX6_nearest_40 ?_
      refine v_istore C (lv' := [(4, .int x7), (0, .ref this), (1, .int a1), (2, .int a2), (3, .int a3)]) dX6_nearest_43 (by decide) rfl ?_
      refine v_at (pc' := 45) rfl ?_
      refine v_iconst C (v := 0) dX6_nearest_45 (by decide) ?_
      refine v_istore C (lv' := [(5, .int 0), (4, .int x7), (0, .ref this), (1, .int a1), (2, .int a2), (3, .int a3)]) dX6_nearest_46 (by decide) rfl ?_
      refine v_sub [2, 3, 4, 5, 1, 0] rfl ?_
      exact r_X6_nearest_p48 C n n _ _ _ _ _ _ _ h
    · have h := ite_f q h
      refine v_iconst C (v := (-1)) dX6_nearest_31 (by decide) ?_
      obtain rfl := Option.some.inj h
      exact v_iret C dX6_nearest_32
  · have h := ite_f q h
    refine v_iload_n C 3 dX6_nearest_8 rfl rfl ?_
    refine v_if_lt C (tgt := 16) dX6_nearest_9 (by decide) (fun q => ?_) (fun q => ?_)
    · have h := ite_t q h
      refine v_iconst C (v := 2) dX6_nearest_16 (by decide) ?_
      obtain ⟨z8, e_z8, h⟩ := bnd h
      refine v_callSv C (av := [.int 2]) (rest := []) gX6_nearest_X6_throwIf rfl ⟨rfl, rfl⟩ hS_X6_throwIf ⟨(Nat.le_of_ble_eq_true rfl), (Nat.le_of_ble_eq_true rfl)⟩ (r_X6_throwIf (A := A) e_z8) rfl rfl (Nat.le_of_ble_eq_true rfl) dX6_nearest_17 ?_
      refine v_iload_n C 3 dX6_nearest_20 rfl rfl ?_
      refine v_aload_n C 0 dX6_nearest_21 rfl rfl ?_
      obtain ⟨q9, e_q9, h⟩ := bnd h
      refine v_getf C (ci := 5) (k := 0) rfl inX6_nearest_X6 (by decide) fX6_nearest_10 dX6_nearest_22 (gfR_e e_q9) ?_
      obtain ⟨u10, e_u10, h⟩ := bnd h
      obtain ⟨x11, e_x11, h⟩ := bnd h
      refine v_callVi C (ci := 3) (av := []) (rest := [.int a3]) rfl gX6_nearest_X4_count rfl ⟨rfl, rfl⟩ hV_X4_count ⟨(Nat.le_of_ble_eq_true rfl), (Nat.le_of_ble_eq_true rfl)⟩ e_u10 (r_X4_count (A := A) e_x11) rfl rfl (Nat.le_of_ble_eq_true rfl) dX6_nearest_25 ?_
      refine v_icmp_lt C (tgt := 33) dX6_nearest_28 (by decide) (fun q => ?_) (fun q => ?_)
      · have h := ite_t q h
        refine v_aload_n C 0 dX6_nearest_33 rfl rfl ?_
        obtain ⟨q12, e_q12, h⟩ := bnd h
        refine v_getf C (ci := 5) (k := 0) rfl inX6_nearest_X6 (by decide) fX6_nearest_10 dX6_nearest_34 (gfR_e e_q12) ?_
        refine v_iconst C (v := (-1)) dX6_nearest_37 (by decide) ?_
        refine v_iload_n C 1 dX6_nearest_38 rfl rfl ?_
        refine v_iload_n C 2 dX6_nearest_39 rfl rfl ?_
        obtain ⟨u13, e_u13, h⟩ := bnd h
        obtain ⟨x14, e_x14, h⟩ := bnd h
        refine v_callVi C (ci := 3) (av := [.int (-1), .int a1, .int a2]) (rest := []) rfl gX6_nearest_X4_pairAfter rfl ⟨rfl, rfl⟩ hV_X4_pairAfter ⟨(Nat.le_of_ble_eq_true rfl), (Nat.le_of_ble_eq_true rfl)⟩ e_u13 (r_X4_pairAfter (A := A) e_x14) rfl rfl (Nat.le_of_ble_eq_true rfl) dX6_nearest_40 ?_
        refine v_istore C (lv' := [(4, .int x14), (0, .ref this), (1, .int a1), (2, .int a2), (3, .int a3)]) dX6_nearest_43 (by decide) rfl ?_
        refine v_at (pc' := 45) rfl ?_
        refine v_iconst C (v := 0) dX6_nearest_45 (by decide) ?_
        refine v_istore C (lv' := [(5, .int 0), (4, .int x14), (0, .ref this), (1, .int a1), (2, .int a2), (3, .int a3)]) dX6_nearest_46 (by decide) rfl ?_
        refine v_sub [2, 3, 4, 5, 1, 0] rfl ?_
        exact r_X6_nearest_p48 C n n _ _ _ _ _ _ _ h
      · have h := ite_f q h
        refine v_iconst C (v := (-1)) dX6_nearest_31 (by decide) ?_
        obtain rfl := Option.some.inj h
        exact v_iret C dX6_nearest_32
    · have h := ite_f q h
      refine v_iconst C (v := 0) dX6_nearest_12 (by decide) ?_
      refine v_goto C (tgt := 17) dX6_nearest_13 (by decide) ?_
      obtain ⟨z15, e_z15, h⟩ := bnd h
      refine v_callSv C (av := [.int 0]) (rest := []) gX6_nearest_X6_throwIf rfl ⟨rfl, rfl⟩ hS_X6_throwIf ⟨(Nat.le_of_ble_eq_true rfl), (Nat.le_of_ble_eq_true rfl)⟩ (r_X6_throwIf (A := A) e_z15) rfl rfl (Nat.le_of_ble_eq_true rfl) dX6_nearest_17 ?_
      refine v_iload_n C 3 dX6_nearest_20 rfl rfl ?_
      refine v_aload_n C 0 dX6_nearest_21 rfl rfl ?_
      obtain ⟨q16, e_q16, h⟩ := bnd h
      refine v_getf C (ci := 5) (k := 0) rfl inX6_nearest_X6 (by decide) fX6_nearest_10 dX6_nearest_22 (gfR_e e_q16) ?_
      obtain ⟨u17, e_u17, h⟩ := bnd h
      obtain ⟨x18, e_x18, h⟩ := bnd h
      refine v_callVi C (ci := 3) (av := []) (rest := [.int a3]) rfl gX6_nearest_X4_count rfl ⟨rfl, rfl⟩ hV_X4_count ⟨(Nat.le_of_ble_eq_true rfl), (Nat.le_of_ble_eq_true rfl)⟩ e_u17 (r_X4_count (A := A) e_x18) rfl rfl (Nat.le_of_ble_eq_true rfl) dX6_nearest_25 ?_
      refine v_at (pc' := 28) rfl ?_
      refine v_icmp_lt C (tgt := 33) dX6_nearest_28 (by decide) (fun q => ?_) (fun q => ?_)
      · have h := ite_t q h
        refine v_aload_n C 0 dX6_nearest_33 rfl rfl ?_
        obtain ⟨q19, e_q19, h⟩ := bnd h
        refine v_getf C (ci := 5) (k := 0) rfl inX6_nearest_X6 (by decide) fX6_nearest_10 dX6_nearest_34 (gfR_e e_q19) ?_
        refine v_iconst C (v := (-1)) dX6_nearest_37 (by decide) ?_
        refine v_iload_n C 1 dX6_nearest_38 rfl rfl ?_
        refine v_iload_n C 2 dX6_nearest_39 rfl rfl ?_
        obtain ⟨u20, e_u20, h⟩ := bnd h
        obtain ⟨x21, e_x21, h⟩ := bnd h
        refine v_callVi C (ci := 3) (av := [.int (-1), .int a1, .int a2]) (rest := []) rfl gX6_nearest_X4_pairAfter rfl ⟨rfl, rfl⟩ hV_X4_pairAfter ⟨(Nat.le_of_ble_eq_true rfl), (Nat.le_of_ble_eq_true rfl)⟩ e_u20 (r_X4_pairAfter (A := A) e_x21) rfl rfl (Nat.le_of_ble_eq_true rfl) dX6_nearest_40 ?_
        refine v_istore C (lv' := [(4, .int x21), (0, .ref this), (1, .int a1), (2, .int a2), (3, .int a3)]) dX6_nearest_43 (by decide) rfl ?_
        refine v_at (pc' := 45) rfl ?_
        refine v_iconst C (v := 0) dX6_nearest_45 (by decide) ?_
        refine v_istore C (lv' := [(5, .int 0), (4, .int x21), (0, .ref this), (1, .int a1), (2, .int a2), (3, .int a3)]) dX6_nearest_46 (by decide) rfl ?_
        refine v_sub [2, 3, 4, 5, 1, 0] rfl ?_
        exact r_X6_nearest_p48 C n n _ _ _ _ _ _ _ h
      · have h := ite_f q h
        refine v_iconst C (v := (-1)) dX6_nearest_31 (by decide) ?_
        obtain rfl := Option.some.inj h
        exact v_iret C dX6_nearest_32
theorem fX6_within_10 : Cond.fieldLink RX6 10 (TX6 0).1 (TX6 0).2.1 (TX6 0).2.2.1 ∈ wsX6_within := by decide +kernel
theorem inX6_within_X6 : ∀ x ∈ u_ws RX6 TX6 5, x ∈ wsX6_within := by decide +kernel
theorem fX6_within_113 : Cond.fieldLink RX6 113 (TX4 0).1 (TX4 0).2.1 (TX4 0).2.2.1 ∈ wsX6_within := by decide +kernel
theorem inX6_within_X4 : ∀ x ∈ u_ws RX4 TX4 9, x ∈ wsX6_within := by decide +kernel
theorem fX6_within_117 : Cond.fieldLink RX6 117 (TX4 1).1 (TX4 1).2.1 (TX4 1).2.2.1 ∈ wsX6_within := by decide +kernel
theorem fX6_within_120 : Cond.fieldLink RX6 120 (TX4 2).1 (TX4 2).2.1 (TX4 2).2.2.1 ∈ wsX6_within := by decide +kernel
set_option maxRecDepth 100000 in
set_option maxHeartbeats 4000000 in
theorem r_X6_within_p31 {p : Program} {l : Launch} {e : Env} {s : State} {m : MethodId} {args : Array Value} {below : List Frame} {meth : Method} {c : Code} {G : GG} {A : Nat → Prop} (C : Cx p s m args meth c G A cX6_within 7 RX6 wsX6_within (some .int)) (n : Nat) {z : Int32} : ∀ (t : Nat), ∀ (w : Wd) (a0 : Nat) (a1 : Int32) (a2 : Int32) (a3 : Int32) (a4 : Int32) (a5 : Int32) (a6 : Int32), m_X6_within_p31 n t w a0 a1 a2 a3 a4 a5 a6 = some z → V p l e { frames := 2, cells := 0, slots := 0, locals := 43 } s m args below meth c G A 7 31 [(0, .ref a0), (1, .int a1), (2, .int a2), (3, .int a3), (4, .int a4), (5, .int a5), (6, .int a6)] [] w (some (.int z)) w := by
  intro t
  induction t with
  | zero =>
    intro w a0 a1 a2 a3 a4 a5 a6 h
    rw [m_X6_within_p31] at h
    cases h
  | succ t ih =>
    intro w a0 a1 a2 a3 a4 a5 a6 h
    rw [m_X6_within_p31] at h
    refine v_iload C 6 dX6_within_31 rfl ?_
    refine v_bipush C (v := 24) dX6_within_33 (by decide) ?_
    refine v_icmp_ge C (tgt := 97) dX6_within_35 (by decide) (fun q => ?_) (fun q => ?_)
    · have h := ite_t q h
      refine v_iload C 5 dX6_within_97 rfl ?_
      obtain rfl := Option.some.inj h
      exact v_iret C dX6_within_99
    · have h := ite_f q h
      refine v_aload_n C 0 dX6_within_38 rfl rfl ?_
      obtain ⟨q1, e_q1, h⟩ := bnd h
      refine v_getf C (ci := 5) (k := 0) rfl inX6_within_X6 (by decide) fX6_within_10 dX6_within_39 (gfR_e e_q1) ?_
      obtain ⟨q2, e_q2, h⟩ := bnd h
      refine v_getf C (ci := 3) (k := 0) rfl inX6_within_X4 (by decide) fX6_within_113 dX6_within_42 (gfR_e e_q2) ?_
      refine v_iload C 6 dX6_within_45 rfl ?_
      obtain ⟨x3, e_x3, h⟩ := bnd h
      refine v_zald C dX6_within_47 e_x3 ?_
      refine v_if_eq C (tgt := 91) dX6_within_48 (by decide) (fun q => ?_) (fun q => ?_)
      · have h := ite_t q h
        refine v_iinc C (k := 6) (v := (a6 + 1)) (lv' := [(6, .int (a6 + 1)), (0, .ref a0), (1, .int a1), (2, .int a2), (3, .int a3), (4, .int a4), (5, .int a5)]) dX6_within_91 rfl rfl (by decide) rfl ?_
        refine v_goto C (tgt := 31) dX6_within_94 (by decide) ?_
        refine v_sub [1, 2, 3, 4, 5, 6, 0] rfl ?_
        exact ih _ _ _ _ _ _ _ _ h
      · have h := ite_f q h
        refine v_aload_n C 0 dX6_within_51 rfl rfl ?_
        obtain ⟨q4, e_q4, h⟩ := bnd h
        refine v_getf C (ci := 5) (k := 0) rfl inX6_within_X6 (by decide) fX6_within_10 dX6_within_52 (gfR_e e_q4) ?_
        obtain ⟨q5, e_q5, h⟩ := bnd h
        refine v_getf C (ci := 3) (k := 1) rfl inX6_within_X4 (by decide) fX6_within_117 dX6_within_55 (gfR_e e_q5) ?_
        refine v_iload C 6 dX6_within_58 rfl ?_
        obtain ⟨x6, e_x6, h⟩ := bnd h
        refine v_iald C dX6_within_60 e_x6 ?_
        refine v_iload_n C 1 dX6_within_61 rfl rfl ?_
        refine v_iload_n C 3 dX6_within_62 rfl rfl ?_
        refine v_at (pc' := 63) rfl ?_
        refine v_callSi C (av := [.int x6, .int a1, .int a3]) (rest := []) gX6_within_X6_inside rfl ⟨rfl, rfl⟩ hS_X6_inside ⟨(Nat.le_of_ble_eq_true rfl), (Nat.le_of_ble_eq_true rfl)⟩ (r_X6_inside (A := A) rfl) rfl rfl (Nat.le_of_ble_eq_true rfl) dX6_within_63 ?_
        refine v_if_eq C (tgt := 91) dX6_within_66 (by decide) (fun q => ?_) (fun q => ?_)
        · have h := ite_t q h
          refine v_iinc C (k := 6) (v := (a6 + 1)) (lv' := [(6, .int (a6 + 1)), (0, .ref a0), (1, .int a1), (2, .int a2), (3, .int a3), (4, .int a4), (5, .int a5)]) dX6_within_91 rfl rfl (by decide) rfl ?_
          refine v_goto C (tgt := 31) dX6_within_94 (by decide) ?_
          refine v_sub [1, 2, 3, 4, 5, 6, 0] rfl ?_
          exact ih _ _ _ _ _ _ _ _ h
        · have h := ite_f q h
          refine v_aload_n C 0 dX6_within_69 rfl rfl ?_
          obtain ⟨q7, e_q7, h⟩ := bnd h
          refine v_getf C (ci := 5) (k := 0) rfl inX6_within_X6 (by decide) fX6_within_10 dX6_within_70 (gfR_e e_q7) ?_
          obtain ⟨q8, e_q8, h⟩ := bnd h
          refine v_getf C (ci := 3) (k := 2) rfl inX6_within_X4 (by decide) fX6_within_120 dX6_within_73 (gfR_e e_q8) ?_
          refine v_iload C 6 dX6_within_76 rfl ?_
          obtain ⟨x9, e_x9, h⟩ := bnd h
          refine v_iald C dX6_within_78 e_x9 ?_
          refine v_iload_n C 2 dX6_within_79 rfl rfl ?_
          refine v_iload C 4 dX6_within_80 rfl ?_
          refine v_at (pc' := 82) rfl ?_
          refine v_callSi C (av := [.int x9, .int a2, .int a4]) (rest := []) gX6_within_X6_inside rfl ⟨rfl, rfl⟩ hS_X6_inside ⟨(Nat.le_of_ble_eq_true rfl), (Nat.le_of_ble_eq_true rfl)⟩ (r_X6_inside (A := A) rfl) rfl rfl (Nat.le_of_ble_eq_true rfl) dX6_within_82 ?_
          refine v_if_eq C (tgt := 91) dX6_within_85 (by decide) (fun q => ?_) (fun q => ?_)
          · have h := ite_t q h
            refine v_iinc C (k := 6) (v := (a6 + 1)) (lv' := [(6, .int (a6 + 1)), (0, .ref a0), (1, .int a1), (2, .int a2), (3, .int a3), (4, .int a4), (5, .int a5)]) dX6_within_91 rfl rfl (by decide) rfl ?_
            refine v_goto C (tgt := 31) dX6_within_94 (by decide) ?_
            refine v_sub [1, 2, 3, 4, 5, 6, 0] rfl ?_
            exact ih _ _ _ _ _ _ _ _ h
          · have h := ite_f q h
            refine v_iinc C (k := 5) (v := (a5 + 1)) (lv' := [(5, .int (a5 + 1)), (0, .ref a0), (1, .int a1), (2, .int a2), (3, .int a3), (4, .int a4), (6, .int a6)]) dX6_within_88 rfl rfl (by decide) rfl ?_
            refine v_iinc C (k := 6) (v := (a6 + 1)) (lv' := [(6, .int (a6 + 1)), (5, .int (a5 + 1)), (0, .ref a0), (1, .int a1), (2, .int a2), (3, .int a3), (4, .int a4)]) dX6_within_91 rfl rfl (by decide) rfl ?_
            refine v_goto C (tgt := 31) dX6_within_94 (by decide) ?_
            refine v_sub [2, 3, 4, 5, 6, 1, 0] rfl ?_
            exact ih _ _ _ _ _ _ _ _ h
set_option maxRecDepth 100000 in
set_option maxHeartbeats 4000000 in
theorem r_X6_within {l : Launch} {G : GG} {A : Nat → Prop} {n : Nat} {w : Wd} {this : Nat} {a1 : Int32} {a2 : Int32} {a3 : Int32} {a4 : Int32} {z : Int32} (h : m_X6_within n w this a1 a2 a3 a4 = some z) : Con l yX6_within wsX6_within { frames := 2, cells := 0, slots := 0, locals := 43 } G A [.ref this, .int a1, .int a2, .int a3, .int a4] w (some (.int z)) w := by
  refine Con.of (own := RX6) (cc := cX6_within) (maxL := 7) (ret := (some .int)) rfl (by decide) rfl (Nat.le_of_ble_eq_true rfl) ?_
  intro p e s m args below meth c C
  show V p l e { frames := 2, cells := 0, slots := 0, locals := 43 } s m args below meth c G A 7 0 [(0, .ref this), (1, .int a1), (2, .int a2), (3, .int a3), (4, .int a4)] [] w (some (.int z)) w
  unfold m_X6_within at h
  refine v_iload_n C 1 dX6_within_0 rfl rfl ?_
  refine v_iload_n C 2 dX6_within_1 rfl rfl ?_
  refine v_callSi C (av := [.int a1, .int a2]) (rest := []) gX6_within_X6_isPosition rfl ⟨rfl, rfl⟩ hS_X6_isPosition ⟨(Nat.le_of_ble_eq_true rfl), (Nat.le_of_ble_eq_true rfl)⟩ (r_X6_isPosition (A := A) rfl) rfl rfl (Nat.le_of_ble_eq_true rfl) dX6_within_2 ?_
  refine v_if_eq C (tgt := 21) dX6_within_5 (by decide) (fun q => ?_) (fun q => ?_)
  · have h := ite_t q h
    refine v_iconst C (v := 2) dX6_within_21 (by decide) ?_
    obtain ⟨z1, e_z1, h⟩ := bnd h
    refine v_callSv C (av := [.int 2]) (rest := []) gX6_within_X6_throwIf rfl ⟨rfl, rfl⟩ hS_X6_throwIf ⟨(Nat.le_of_ble_eq_true rfl), (Nat.le_of_ble_eq_true rfl)⟩ (r_X6_throwIf (A := A) e_z1) rfl rfl (Nat.le_of_ble_eq_true rfl) dX6_within_22 ?_
    refine v_iconst C (v := 0) dX6_within_25 (by decide) ?_
    refine v_istore C (lv' := [(5, .int 0), (0, .ref this), (1, .int a1), (2, .int a2), (3, .int a3), (4, .int a4)]) dX6_within_26 (by decide) rfl ?_
    refine v_iconst C (v := 0) dX6_within_28 (by decide) ?_
    refine v_istore C (lv' := [(6, .int 0), (5, .int 0), (0, .ref this), (1, .int a1), (2, .int a2), (3, .int a3), (4, .int a4)]) dX6_within_29 (by decide) rfl ?_
    refine v_sub [2, 3, 4, 5, 6, 1, 0] rfl ?_
    exact r_X6_within_p31 C n n _ _ _ _ _ _ _ _ h
  · have h := ite_f q h
    refine v_iload_n C 3 dX6_within_8 rfl rfl ?_
    refine v_iload C 4 dX6_within_9 rfl ?_
    refine v_callSi C (av := [.int a3, .int a4]) (rest := []) gX6_within_X6_isPosition rfl ⟨rfl, rfl⟩ hS_X6_isPosition ⟨(Nat.le_of_ble_eq_true rfl), (Nat.le_of_ble_eq_true rfl)⟩ (r_X6_isPosition (A := A) rfl) rfl rfl (Nat.le_of_ble_eq_true rfl) dX6_within_11 ?_
    refine v_if_eq C (tgt := 21) dX6_within_14 (by decide) (fun q => ?_) (fun q => ?_)
    · have h := ite_t q h
      refine v_iconst C (v := 2) dX6_within_21 (by decide) ?_
      obtain ⟨z2, e_z2, h⟩ := bnd h
      refine v_callSv C (av := [.int 2]) (rest := []) gX6_within_X6_throwIf rfl ⟨rfl, rfl⟩ hS_X6_throwIf ⟨(Nat.le_of_ble_eq_true rfl), (Nat.le_of_ble_eq_true rfl)⟩ (r_X6_throwIf (A := A) e_z2) rfl rfl (Nat.le_of_ble_eq_true rfl) dX6_within_22 ?_
      refine v_iconst C (v := 0) dX6_within_25 (by decide) ?_
      refine v_istore C (lv' := [(5, .int 0), (0, .ref this), (1, .int a1), (2, .int a2), (3, .int a3), (4, .int a4)]) dX6_within_26 (by decide) rfl ?_
      refine v_iconst C (v := 0) dX6_within_28 (by decide) ?_
      refine v_istore C (lv' := [(6, .int 0), (5, .int 0), (0, .ref this), (1, .int a1), (2, .int a2), (3, .int a3), (4, .int a4)]) dX6_within_29 (by decide) rfl ?_
      refine v_sub [2, 3, 4, 5, 6, 1, 0] rfl ?_
      exact r_X6_within_p31 C n n _ _ _ _ _ _ _ _ h
    · have h := ite_f q h
      refine v_iconst C (v := 0) dX6_within_17 (by decide) ?_
      refine v_goto C (tgt := 22) dX6_within_18 (by decide) ?_
      obtain ⟨z3, e_z3, h⟩ := bnd h
      refine v_callSv C (av := [.int 0]) (rest := []) gX6_within_X6_throwIf rfl ⟨rfl, rfl⟩ hS_X6_throwIf ⟨(Nat.le_of_ble_eq_true rfl), (Nat.le_of_ble_eq_true rfl)⟩ (r_X6_throwIf (A := A) e_z3) rfl rfl (Nat.le_of_ble_eq_true rfl) dX6_within_22 ?_
      refine v_iconst C (v := 0) dX6_within_25 (by decide) ?_
      refine v_istore C (lv' := [(5, .int 0), (0, .ref this), (1, .int a1), (2, .int a2), (3, .int a3), (4, .int a4)]) dX6_within_26 (by decide) rfl ?_
      refine v_iconst C (v := 0) dX6_within_28 (by decide) ?_
      refine v_istore C (lv' := [(6, .int 0), (5, .int 0), (0, .ref this), (1, .int a1), (2, .int a2), (3, .int a3), (4, .int a4)]) dX6_within_29 (by decide) rfl ?_
      refine v_sub [2, 3, 4, 5, 6, 1, 0] rfl ?_
      exact r_X6_within_p31 C n n _ _ _ _ _ _ _ _ h
theorem fX6_closest_10 : Cond.fieldLink RX6 10 (TX6 0).1 (TX6 0).2.1 (TX6 0).2.2.1 ∈ wsX6_closest := by decide +kernel
theorem inX6_closest_X6 : ∀ x ∈ u_ws RX6 TX6 5, x ∈ wsX6_closest := by decide +kernel
theorem hV_X4_closestCouple : yX4_closestCouple.cls = RX4 ∧ yX4_closestCouple.cls ≠ "java/lang/invoke/MethodHandle" ∧ yX4_closestCouple.cls ≠ "java/lang/invoke/VarHandle" ∧ (parseMethodDescriptor yX4_closestCouple.desc).map (fun d => d.parameters.length) = some 0 := by decide +kernel
set_option maxRecDepth 100000 in
set_option maxHeartbeats 4000000 in
theorem r_X6_closest {l : Launch} {G : GG} {A : Nat → Prop} {n : Nat} {w : Wd} {this : Nat} {a1 : Int32} {z : Int32} (h : m_X6_closest n w this a1 = some z) : Con l yX6_closest wsX6_closest { frames := 3, cells := 0, slots := 0, locals := 70 } G A [.ref this, .int a1] w (some (.int z)) w := by
  refine Con.of (own := RX6) (cc := cX6_closest) (maxL := 3) (ret := (some .int)) rfl (by decide) rfl (Nat.le_of_ble_eq_true rfl) ?_
  intro p e s m args below meth c C
  show V p l e { frames := 3, cells := 0, slots := 0, locals := 70 } s m args below meth c G A 3 0 [(0, .ref this), (1, .int a1)] [] w (some (.int z)) w
  unfold m_X6_closest at h
  refine v_iload_n C 1 dX6_closest_0 rfl rfl ?_
  refine v_iconst C (v := 0) dX6_closest_1 (by decide) ?_
  refine v_iconst C (v := 2) dX6_closest_2 (by decide) ?_
  refine v_callSi C (av := [.int a1, .int 0, .int 2]) (rest := []) gX6_closest_X6_inside rfl ⟨rfl, rfl⟩ hS_X6_inside ⟨(Nat.le_of_ble_eq_true rfl), (Nat.le_of_ble_eq_true rfl)⟩ (r_X6_inside (A := A) rfl) rfl rfl (Nat.le_of_ble_eq_true rfl) dX6_closest_3 ?_
  refine v_if_eq C (tgt := 13) dX6_closest_6 (by decide) (fun q => ?_) (fun q => ?_)
  · have h := ite_t q h
    refine v_iconst C (v := 2) dX6_closest_13 (by decide) ?_
    obtain ⟨z1, e_z1, h⟩ := bnd h
    refine v_callSv C (av := [.int 2]) (rest := []) gX6_closest_X6_throwIf rfl ⟨rfl, rfl⟩ hS_X6_throwIf ⟨(Nat.le_of_ble_eq_true rfl), (Nat.le_of_ble_eq_true rfl)⟩ (r_X6_throwIf (A := A) e_z1) rfl rfl (Nat.le_of_ble_eq_true rfl) dX6_closest_14 ?_
    refine v_aload_n C 0 dX6_closest_17 rfl rfl ?_
    obtain ⟨q2, e_q2, h⟩ := bnd h
    refine v_getf C (ci := 5) (k := 0) rfl inX6_closest_X6 (by decide) fX6_closest_10 dX6_closest_18 (gfR_e e_q2) ?_
    obtain ⟨u3, e_u3, h⟩ := bnd h
    obtain ⟨x4, e_x4, h⟩ := bnd h
    refine v_callVi C (ci := 3) (av := []) (rest := []) rfl gX6_closest_X4_closestCouple rfl ⟨rfl, rfl⟩ hV_X4_closestCouple ⟨(Nat.le_of_ble_eq_true rfl), (Nat.le_of_ble_eq_true rfl)⟩ e_u3 (r_X4_closestCouple (A := A) e_x4) rfl rfl (Nat.le_of_ble_eq_true rfl) dX6_closest_21 ?_
    refine v_istore_n C (lv' := [(2, .int x4), (0, .ref this), (1, .int a1)]) dX6_closest_24 rfl (by decide) rfl ?_
    refine v_iload_n C 0 dX6_closest_25 rfl rfl ?_
    refine v_at (pc' := 26) rfl ?_
    refine v_iconst C (v := (-1)) dX6_closest_26 (by decide) ?_
    refine v_icmp_ne C (tgt := 32) dX6_closest_27 (by decide) (fun q => ?_) (fun q => ?_)
    · have h := ite_f q h
      refine v_iload_n C 2 dX6_closest_32 rfl rfl ?_
      by_cases q5 : a1 = 0
      · have h := ite_t q5 h
        refine v_lookup C 27 60 dX6_closest_33 (by decide) (by rw [q5]; decide) (by decide) ?_
        refine v_iload_n C 0 dX6_closest_60 rfl rfl ?_
        refine v_sipush C (v := 1024) dX6_closest_61 (by decide) ?_
        refine v_idiv C dX6_closest_64 (by decide) ?_
        obtain rfl := Option.some.inj h
        exact v_iret C dX6_closest_65
      have h := ite_f q5 h
      by_cases q6 : a1 = 1
      · have h := ite_t q6 h
        refine v_lookup C 33 66 dX6_closest_33 (by decide) (by rw [q6]; decide) (by decide) ?_
        refine v_iload_n C 0 dX6_closest_66 rfl rfl ?_
        refine v_bipush C (v := 32) dX6_closest_67 (by decide) ?_
        refine v_idiv C dX6_closest_69 (by decide) ?_
        refine v_bipush C (v := 32) dX6_closest_70 (by decide) ?_
        refine v_irem C dX6_closest_72 (by decide) ?_
        obtain rfl := Option.some.inj h
        exact v_iret C dX6_closest_73
      have h := ite_f q6 h
      refine v_lookup C 41 74 dX6_closest_33 (by decide) ((lv_osw q5 rfl).trans <| (lv_osw q6 rfl).trans <| rfl) (by decide) ?_
      refine v_iload_n C 0 dX6_closest_74 rfl rfl ?_
      refine v_bipush C (v := 32) dX6_closest_75 (by decide) ?_
      refine v_irem C dX6_closest_77 (by decide) ?_
      obtain rfl := Option.some.inj h
      exact v_iret C dX6_closest_78
    · have h := ite_t q h
      refine v_iconst C (v := (-1)) dX6_closest_30 (by decide) ?_
      obtain rfl := Option.some.inj h
      exact v_iret C dX6_closest_31
  · have h := ite_f q h
    refine v_iconst C (v := 0) dX6_closest_9 (by decide) ?_
    refine v_goto C (tgt := 14) dX6_closest_10 (by decide) ?_
    obtain ⟨z7, e_z7, h⟩ := bnd h
    refine v_callSv C (av := [.int 0]) (rest := []) gX6_closest_X6_throwIf rfl ⟨rfl, rfl⟩ hS_X6_throwIf ⟨(Nat.le_of_ble_eq_true rfl), (Nat.le_of_ble_eq_true rfl)⟩ (r_X6_throwIf (A := A) e_z7) rfl rfl (Nat.le_of_ble_eq_true rfl) dX6_closest_14 ?_
    refine v_aload_n C 0 dX6_closest_17 rfl rfl ?_
    obtain ⟨q8, e_q8, h⟩ := bnd h
    refine v_getf C (ci := 5) (k := 0) rfl inX6_closest_X6 (by decide) fX6_closest_10 dX6_closest_18 (gfR_e e_q8) ?_
    obtain ⟨u9, e_u9, h⟩ := bnd h
    obtain ⟨x10, e_x10, h⟩ := bnd h
    refine v_callVi C (ci := 3) (av := []) (rest := []) rfl gX6_closest_X4_closestCouple rfl ⟨rfl, rfl⟩ hV_X4_closestCouple ⟨(Nat.le_of_ble_eq_true rfl), (Nat.le_of_ble_eq_true rfl)⟩ e_u9 (r_X4_closestCouple (A := A) e_x10) rfl rfl (Nat.le_of_ble_eq_true rfl) dX6_closest_21 ?_
    refine v_istore_n C (lv' := [(2, .int x10), (0, .ref this), (1, .int a1)]) dX6_closest_24 rfl (by decide) rfl ?_
    refine v_at (pc' := 25) rfl ?_
    refine v_iload_n C 0 dX6_closest_25 rfl rfl ?_
    refine v_iconst C (v := (-1)) dX6_closest_26 (by decide) ?_
    refine v_icmp_ne C (tgt := 32) dX6_closest_27 (by decide) (fun q => ?_) (fun q => ?_)
    · have h := ite_f q h
      refine v_iload_n C 2 dX6_closest_32 rfl rfl ?_
      by_cases q11 : a1 = 0
      · have h := ite_t q11 h
        refine v_lookup C 27 60 dX6_closest_33 (by decide) (by rw [q11]; decide) (by decide) ?_
        refine v_iload_n C 0 dX6_closest_60 rfl rfl ?_
        refine v_sipush C (v := 1024) dX6_closest_61 (by decide) ?_
        refine v_idiv C dX6_closest_64 (by decide) ?_
        obtain rfl := Option.some.inj h
        exact v_iret C dX6_closest_65
      have h := ite_f q11 h
      by_cases q12 : a1 = 1
      · have h := ite_t q12 h
        refine v_lookup C 33 66 dX6_closest_33 (by decide) (by rw [q12]; decide) (by decide) ?_
        refine v_iload_n C 0 dX6_closest_66 rfl rfl ?_
        refine v_bipush C (v := 32) dX6_closest_67 (by decide) ?_
        refine v_idiv C dX6_closest_69 (by decide) ?_
        refine v_bipush C (v := 32) dX6_closest_70 (by decide) ?_
        refine v_irem C dX6_closest_72 (by decide) ?_
        obtain rfl := Option.some.inj h
        exact v_iret C dX6_closest_73
      have h := ite_f q12 h
      refine v_lookup C 41 74 dX6_closest_33 (by decide) ((lv_osw q11 rfl).trans <| (lv_osw q12 rfl).trans <| rfl) (by decide) ?_
      refine v_iload_n C 0 dX6_closest_74 rfl rfl ?_
      refine v_bipush C (v := 32) dX6_closest_75 (by decide) ?_
      refine v_irem C dX6_closest_77 (by decide) ?_
      obtain rfl := Option.some.inj h
      exact v_iret C dX6_closest_78
    · have h := ite_t q h
      refine v_iconst C (v := (-1)) dX6_closest_30 (by decide) ?_
      obtain rfl := Option.some.inj h
      exact v_iret C dX6_closest_31
theorem fX6_refusalOfByte_26 : Cond.fieldLink RX6 26 (TX6 2).1 (TX6 2).2.1 (TX6 2).2.2.1 ∈ wsX6_refusalOfByte := by decide +kernel
theorem inX6_refusalOfByte_X6 : ∀ x ∈ u_ws RX6 TX6 5, x ∈ wsX6_refusalOfByte := by decide +kernel
theorem fX6_refusalOfByte_233 : Cond.fieldLink RX6 233 (TX2 1).1 (TX2 1).2.1 (TX2 1).2.2.1 ∈ wsX6_refusalOfByte := by decide +kernel
theorem inX6_refusalOfByte_X2 : ∀ x ∈ u_ws RX2 TX2 6, x ∈ wsX6_refusalOfByte := by decide +kernel
set_option maxRecDepth 100000 in
set_option maxHeartbeats 4000000 in
theorem r_X6_refusalOfByte {l : Launch} {G : GG} {A : Nat → Prop} {n : Nat} {w : Wd} {this : Nat} {a1 : Int32} {z : Int32} (h : m_X6_refusalOfByte n w this a1 = some z) : Con l yX6_refusalOfByte wsX6_refusalOfByte { frames := 1, cells := 0, slots := 0, locals := 22 } G A [.ref this, .int a1] w (some (.int z)) w := by
  refine Con.of (own := RX6) (cc := cX6_refusalOfByte) (maxL := 2) (ret := (some .int)) rfl (by decide) rfl (Nat.le_of_ble_eq_true rfl) ?_
  intro p e s m args below meth c C
  show V p l e { frames := 1, cells := 0, slots := 0, locals := 22 } s m args below meth c G A 2 0 [(0, .ref this), (1, .int a1)] [] w (some (.int z)) w
  unfold m_X6_refusalOfByte at h
  refine v_iload_n C 1 dX6_refusalOfByte_0 rfl rfl ?_
  refine v_iconst C (v := 0) dX6_refusalOfByte_1 (by decide) ?_
  refine v_bipush C (v := 127) dX6_refusalOfByte_2 (by decide) ?_
  refine v_callSi C (av := [.int a1, .int 0, .int 127]) (rest := []) gX6_refusalOfByte_X6_inside rfl ⟨rfl, rfl⟩ hS_X6_inside ⟨(Nat.le_of_ble_eq_true rfl), (Nat.le_of_ble_eq_true rfl)⟩ (r_X6_inside (A := A) rfl) rfl rfl (Nat.le_of_ble_eq_true rfl) dX6_refusalOfByte_4 ?_
  refine v_if_ne C (tgt := 12) dX6_refusalOfByte_7 (by decide) (fun q => ?_) (fun q => ?_)
  · have h := ite_f q h
    refine v_aload_n C 0 dX6_refusalOfByte_12 rfl rfl ?_
    obtain ⟨q1, e_q1, h⟩ := bnd h
    refine v_getf C (ci := 5) (k := 2) rfl inX6_refusalOfByte_X6 (by decide) fX6_refusalOfByte_26 dX6_refusalOfByte_13 (gfR_e e_q1) ?_
    obtain ⟨x2, e_x2, h⟩ := bnd h
    refine v_getf C (ci := 2) (k := 1) rfl inX6_refusalOfByte_X2 (by decide) fX6_refusalOfByte_233 dX6_refusalOfByte_16 (gfI_e e_x2) ?_
    refine v_bipush C (v := 120) dX6_refusalOfByte_19 (by decide) ?_
    refine v_icmp_ge C (tgt := 28) dX6_refusalOfByte_21 (by decide) (fun q => ?_) (fun q => ?_)
    · have h := ite_t q h
      refine v_iconst C (v := 3) dX6_refusalOfByte_28 (by decide) ?_
      obtain rfl := Option.some.inj h
      exact v_iret C dX6_refusalOfByte_29
    · have h := ite_f q h
      refine v_iconst C (v := 0) dX6_refusalOfByte_24 (by decide) ?_
      refine v_goto C (tgt := 29) dX6_refusalOfByte_25 (by decide) ?_
      obtain rfl := Option.some.inj h
      exact v_iret C dX6_refusalOfByte_29
  · have h := ite_t q h
    refine v_iconst C (v := 2) dX6_refusalOfByte_10 (by decide) ?_
    obtain rfl := Option.some.inj h
    exact v_iret C dX6_refusalOfByte_11
theorem hV_X6_refusalOfByte : yX6_refusalOfByte.cls = RX6 ∧ yX6_refusalOfByte.cls ≠ "java/lang/invoke/MethodHandle" ∧ yX6_refusalOfByte.cls ≠ "java/lang/invoke/VarHandle" ∧ (parseMethodDescriptor yX6_refusalOfByte.desc).map (fun d => d.parameters.length) = some 1 := by decide +kernel
theorem fX6_type_26 : Cond.fieldLink RX6 26 (TX6 2).1 (TX6 2).2.1 (TX6 2).2.2.1 ∈ wsX6_type := by decide +kernel
theorem inX6_type_X6 : ∀ x ∈ u_ws RX6 TX6 5, x ∈ wsX6_type := by decide +kernel
theorem hV_X2_append : yX2_append.cls = RX2 ∧ yX2_append.cls ≠ "java/lang/invoke/MethodHandle" ∧ yX2_append.cls ≠ "java/lang/invoke/VarHandle" ∧ (parseMethodDescriptor yX2_append.desc).map (fun d => d.parameters.length) = some 1 := by decide +kernel
theorem fX6_type_233 : Cond.fieldLink RX6 233 (TX2 1).1 (TX2 1).2.1 (TX2 1).2.2.1 ∈ wsX6_type := by decide +kernel
theorem inX6_type_X2 : ∀ x ∈ u_ws RX2 TX2 6, x ∈ wsX6_type := by decide +kernel
set_option maxRecDepth 100000 in
set_option maxHeartbeats 4000000 in
theorem r_X6_type {l : Launch} {G : GG} {A : Nat → Prop} {n : Nat} {w : Wd} {this : Nat} {a1 : Int32} {z : (Int32 × Wd)} (h : m_X6_type n w this a1 = some z) : Con l yX6_type wsX6_type { frames := 2, cells := 0, slots := 0, locals := 43 } G A [.ref this, .int a1] w (some (.int z.1)) z.2 := by
  refine Con.of (own := RX6) (cc := cX6_type) (maxL := 2) (ret := (some .int)) rfl (by decide) rfl (Nat.le_of_ble_eq_true rfl) ?_
  intro p e s m args below meth c C
  show V p l e { frames := 2, cells := 0, slots := 0, locals := 43 } s m args below meth c G A 2 0 [(0, .ref this), (1, .int a1)] [] w (some (.int z.1)) z.2
  unfold m_X6_type at h
  refine v_aload_n C 0 dX6_type_0 rfl rfl ?_
  refine v_iload_n C 1 dX6_type_1 rfl rfl ?_
  obtain ⟨u1, e_u1, h⟩ := bnd h
  obtain ⟨x2, e_x2, h⟩ := bnd h
  refine v_callVi C (ci := 5) (av := [.int a1]) (rest := []) rfl gX6_type_X6_refusalOfByte rfl ⟨rfl, rfl⟩ hV_X6_refusalOfByte ⟨(Nat.le_of_ble_eq_true rfl), (Nat.le_of_ble_eq_true rfl)⟩ e_u1 (r_X6_refusalOfByte (A := A) e_x2) rfl rfl (Nat.le_of_ble_eq_true rfl) dX6_type_2 ?_
  obtain ⟨z3, e_z3, h⟩ := bnd h
  refine v_callSv C (av := [.int x2]) (rest := []) gX6_type_X6_throwIf rfl ⟨rfl, rfl⟩ hS_X6_throwIf ⟨(Nat.le_of_ble_eq_true rfl), (Nat.le_of_ble_eq_true rfl)⟩ (r_X6_throwIf (A := A) e_z3) rfl rfl (Nat.le_of_ble_eq_true rfl) dX6_type_5 ?_
  refine v_aload_n C 0 dX6_type_8 rfl rfl ?_
  obtain ⟨q4, e_q4, h⟩ := bnd h
  refine v_getf C (ci := 5) (k := 2) rfl inX6_type_X6 (by decide) fX6_type_26 dX6_type_9 (gfR_e e_q4) ?_
  refine v_iload_n C 1 dX6_type_12 rfl rfl ?_
  refine v_at (pc' := 13) rfl ?_
  obtain ⟨u5, e_u5, h⟩ := bnd h
  obtain ⟨z6, e_z6, h⟩ := bnd h
  refine v_callVv C (ci := 2) (av := [.int a1]) (rest := []) rfl gX6_type_X2_append rfl ⟨rfl, rfl⟩ hV_X2_append ⟨(Nat.le_of_ble_eq_true rfl), (Nat.le_of_ble_eq_true rfl)⟩ e_u5 (r_X2_append (A := A) e_z6) rfl rfl (Nat.le_of_ble_eq_true rfl) dX6_type_13 ?_
  refine v_aload_n C 0 dX6_type_16 rfl rfl ?_
  obtain ⟨q7, e_q7, h⟩ := bnd h
  refine v_getf C (ci := 5) (k := 2) rfl inX6_type_X6 (by decide) fX6_type_26 dX6_type_17 (gfR_e e_q7) ?_
  obtain ⟨x8, e_x8, h⟩ := bnd h
  refine v_getf C (ci := 2) (k := 1) rfl inX6_type_X2 (by decide) fX6_type_233 dX6_type_20 (gfI_e e_x8) ?_
  obtain rfl := Option.some.inj h
  exact v_iret C dX6_type_23
theorem fX6_clearScript_26 : Cond.fieldLink RX6 26 (TX6 2).1 (TX6 2).2.1 (TX6 2).2.2.1 ∈ wsX6_clearScript := by decide +kernel
theorem inX6_clearScript_X6 : ∀ x ∈ u_ws RX6 TX6 5, x ∈ wsX6_clearScript := by decide +kernel
theorem fX6_clearScript_233 : Cond.fieldLink RX6 233 (TX2 1).1 (TX2 1).2.1 (TX2 1).2.2.1 ∈ wsX6_clearScript := by decide +kernel
theorem inX6_clearScript_X2 : ∀ x ∈ u_ws RX2 TX2 6, x ∈ wsX6_clearScript := by decide +kernel
set_option maxRecDepth 100000 in
set_option maxHeartbeats 4000000 in
theorem r_X6_clearScript {l : Launch} {G : GG} {A : Nat → Prop} {n : Nat} {w : Wd} {this : Nat} {z : (Int32 × Wd)} (h : m_X6_clearScript n w this = some z) : Con l yX6_clearScript wsX6_clearScript { frames := 0, cells := 0, slots := 0, locals := 0 } G A [.ref this] w (some (.int z.1)) z.2 := by
  refine Con.of (own := RX6) (cc := cX6_clearScript) (maxL := 2) (ret := (some .int)) rfl (by decide) rfl (Nat.le_of_ble_eq_true rfl) ?_
  intro p e s m args below meth c C
  show V p l e { frames := 0, cells := 0, slots := 0, locals := 0 } s m args below meth c G A 2 0 [(0, .ref this)] [] w (some (.int z.1)) z.2
  unfold m_X6_clearScript at h
  refine v_aload_n C 0 dX6_clearScript_0 rfl rfl ?_
  obtain ⟨q1, e_q1, h⟩ := bnd h
  refine v_getf C (ci := 5) (k := 2) rfl inX6_clearScript_X6 (by decide) fX6_clearScript_26 dX6_clearScript_1 (gfR_e e_q1) ?_
  obtain ⟨x2, e_x2, h⟩ := bnd h
  refine v_getf C (ci := 2) (k := 1) rfl inX6_clearScript_X2 (by decide) fX6_clearScript_233 dX6_clearScript_4 (gfI_e e_x2) ?_
  refine v_istore_n C (lv' := [(1, .int x2), (0, .ref this)]) dX6_clearScript_7 rfl (by decide) rfl ?_
  refine v_aload_n C 1 dX6_clearScript_8 rfl rfl ?_
  obtain ⟨q3, e_q3, h⟩ := bnd h
  refine v_getf C (ci := 5) (k := 2) rfl inX6_clearScript_X6 (by decide) fX6_clearScript_26 dX6_clearScript_9 (gfR_e e_q3) ?_
  refine v_iconst C (v := 0) dX6_clearScript_12 (by decide) ?_
  refine v_at (pc' := 13) rfl ?_
  obtain ⟨w4, e_w4, h⟩ := bnd h
  refine v_putf C (ci := 2) (k := 1) rfl inX6_clearScript_X2 tyX2_ok nmX2 (by decide) fX6_clearScript_233 rfl (tyX2_ok 1 (by decide)) rfl rfl dX6_clearScript_13 e_w4 ?_
  refine v_iload_n C 0 dX6_clearScript_16 rfl rfl ?_
  obtain rfl := Option.some.inj h
  exact v_iret C dX6_clearScript_17
set_option maxRecDepth 100000 in
set_option maxHeartbeats 4000000 in
theorem r_X6_carryOut {l : Launch} {G : GG} {A : Nat → Prop} {n : Nat} {w : Wd} {this : Nat} {a1 : Int32} {a2 : Nat} {z : Wd} (h : m_X6_carryOut n w this a1 a2 = some z) : Con l yX6_carryOut wsX6_carryOut { frames := 5, cells := 0, slots := 0, locals := 117 } G A [.ref this, .int a1, .ref a2] w (none) z := by
  refine Con.of (own := RX6) (cc := cX6_carryOut) (maxL := 3) (ret := none) rfl (by decide) rfl (Nat.le_of_ble_eq_true rfl) ?_
  intro p e s m args below meth c C
  show V p l e { frames := 5, cells := 0, slots := 0, locals := 117 } s m args below meth c G A 3 0 [(0, .ref this), (1, .int a1), (2, .ref a2)] [] w (none) z
  unfold m_X6_carryOut at h
  refine v_iload_n C 1 dX6_carryOut_0 rfl rfl ?_
  by_cases q1 : a1 = 0
  · have h := ite_t q1 h
    refine v_tabIn C 0 31 32 dX6_carryOut_1 q1 (by decide) (by decide) rfl (by decide) ?_
    refine v_aload_n C 0 dX6_carryOut_32 rfl rfl ?_
    refine v_aload_n C 2 dX6_carryOut_33 rfl rfl ?_
    refine v_iconst C (v := 0) dX6_carryOut_34 (by decide) ?_
    obtain ⟨x2, e_x2, h⟩ := bnd h
    refine v_iald C dX6_carryOut_35 e_x2 ?_
    refine v_aload_n C 2 dX6_carryOut_36 rfl rfl ?_
    refine v_iconst C (v := 1) dX6_carryOut_37 (by decide) ?_
    obtain ⟨x3, e_x3, h⟩ := bnd h
    refine v_iald C dX6_carryOut_38 e_x3 ?_
    refine v_at (pc' := 39) rfl ?_
    refine v_aload_n C 2 dX6_carryOut_39 rfl rfl ?_
    refine v_iconst C (v := 2) dX6_carryOut_40 (by decide) ?_
    obtain ⟨x4, e_x4, h⟩ := bnd h
    refine v_iald C dX6_carryOut_41 e_x4 ?_
    obtain ⟨u5, e_u5, h⟩ := bnd h
    obtain ⟨z6, e_z6, h⟩ := bnd h
    refine v_callVi C (ci := 5) (av := [.int x2, .int x3, .int x4]) (rest := []) rfl gX6_carryOut_X6_place rfl ⟨rfl, rfl⟩ hV_X6_place ⟨(Nat.le_of_ble_eq_true rfl), (Nat.le_of_ble_eq_true rfl)⟩ e_u5 (r_X6_place (A := A) e_z6) rfl rfl (Nat.le_of_ble_eq_true rfl) dX6_carryOut_42 ?_
    refine v_pop C dX6_carryOut_45 rfl ?_
    refine v_goto C (tgt := 84) dX6_carryOut_46 (by decide) ?_
    obtain rfl := Option.some.inj h
    exact v_vret C dX6_carryOut_84
  have h := ite_f q1 h
  by_cases q7 : a1 = 1
  · have h := ite_t q7 h
    refine v_tabIn C 1 31 32 dX6_carryOut_1 q7 (by decide) (by decide) rfl (by decide) ?_
    refine v_aload_n C 0 dX6_carryOut_32 rfl rfl ?_
    refine v_aload_n C 2 dX6_carryOut_33 rfl rfl ?_
    refine v_iconst C (v := 0) dX6_carryOut_34 (by decide) ?_
    obtain ⟨x8, e_x8, h⟩ := bnd h
    refine v_iald C dX6_carryOut_35 e_x8 ?_
    refine v_aload_n C 2 dX6_carryOut_36 rfl rfl ?_
    refine v_iconst C (v := 1) dX6_carryOut_37 (by decide) ?_
    obtain ⟨x9, e_x9, h⟩ := bnd h
    refine v_iald C dX6_carryOut_38 e_x9 ?_
    refine v_at (pc' := 39) rfl ?_
    refine v_aload_n C 2 dX6_carryOut_39 rfl rfl ?_
    refine v_iconst C (v := 2) dX6_carryOut_40 (by decide) ?_
    obtain ⟨x10, e_x10, h⟩ := bnd h
    refine v_iald C dX6_carryOut_41 e_x10 ?_
    obtain ⟨u11, e_u11, h⟩ := bnd h
    obtain ⟨z12, e_z12, h⟩ := bnd h
    refine v_callVi C (ci := 5) (av := [.int x8, .int x9, .int x10]) (rest := []) rfl gX6_carryOut_X6_place rfl ⟨rfl, rfl⟩ hV_X6_place ⟨(Nat.le_of_ble_eq_true rfl), (Nat.le_of_ble_eq_true rfl)⟩ e_u11 (r_X6_place (A := A) e_z12) rfl rfl (Nat.le_of_ble_eq_true rfl) dX6_carryOut_42 ?_
    refine v_pop C dX6_carryOut_45 rfl ?_
    refine v_goto C (tgt := 84) dX6_carryOut_46 (by decide) ?_
    obtain rfl := Option.some.inj h
    exact v_vret C dX6_carryOut_84
  have h := ite_f q7 h
  by_cases q13 : a1 = 2
  · have h := ite_t q13 h
    refine v_tabIn C 2 48 49 dX6_carryOut_1 q13 (by decide) (by decide) rfl (by decide) ?_
    refine v_aload_n C 0 dX6_carryOut_49 rfl rfl ?_
    refine v_aload_n C 2 dX6_carryOut_50 rfl rfl ?_
    refine v_iconst C (v := 0) dX6_carryOut_51 (by decide) ?_
    obtain ⟨x14, e_x14, h⟩ := bnd h
    refine v_iald C dX6_carryOut_52 e_x14 ?_
    obtain ⟨u15, e_u15, h⟩ := bnd h
    obtain ⟨z16, e_z16, h⟩ := bnd h
    refine v_callVi C (ci := 5) (av := [.int x14]) (rest := []) rfl gX6_carryOut_X6_takeOut rfl ⟨rfl, rfl⟩ hV_X6_takeOut ⟨(Nat.le_of_ble_eq_true rfl), (Nat.le_of_ble_eq_true rfl)⟩ e_u15 (r_X6_takeOut (A := A) e_z16) rfl rfl (Nat.le_of_ble_eq_true rfl) dX6_carryOut_53 ?_
    refine v_pop C dX6_carryOut_56 rfl ?_
    refine v_goto C (tgt := 84) dX6_carryOut_57 (by decide) ?_
    refine v_at (pc' := 84) rfl ?_
    obtain rfl := Option.some.inj h
    exact v_vret C dX6_carryOut_84
  have h := ite_f q13 h
  by_cases q17 : a1 = 3
  · have h := ite_t q17 h
    refine v_tabIn C 3 59 60 dX6_carryOut_1 q17 (by decide) (by decide) rfl (by decide) ?_
    refine v_aload_n C 0 dX6_carryOut_60 rfl rfl ?_
    refine v_aload_n C 2 dX6_carryOut_61 rfl rfl ?_
    refine v_iconst C (v := 0) dX6_carryOut_62 (by decide) ?_
    obtain ⟨x18, e_x18, h⟩ := bnd h
    refine v_iald C dX6_carryOut_63 e_x18 ?_
    refine v_aload_n C 2 dX6_carryOut_64 rfl rfl ?_
    refine v_iconst C (v := 1) dX6_carryOut_65 (by decide) ?_
    obtain ⟨x19, e_x19, h⟩ := bnd h
    refine v_iald C dX6_carryOut_66 e_x19 ?_
    refine v_at (pc' := 67) rfl ?_
    refine v_aload_n C 2 dX6_carryOut_67 rfl rfl ?_
    refine v_iconst C (v := 2) dX6_carryOut_68 (by decide) ?_
    obtain ⟨x20, e_x20, h⟩ := bnd h
    refine v_iald C dX6_carryOut_69 e_x20 ?_
    obtain ⟨u21, e_u21, h⟩ := bnd h
    obtain ⟨z22, e_z22, h⟩ := bnd h
    refine v_callVv C (ci := 5) (av := [.int x18, .int x19, .int x20]) (rest := []) rfl gX6_carryOut_X6_setSpeed rfl ⟨rfl, rfl⟩ hV_X6_setSpeed ⟨(Nat.le_of_ble_eq_true rfl), (Nat.le_of_ble_eq_true rfl)⟩ e_u21 (r_X6_setSpeed (A := A) e_z22) rfl rfl (Nat.le_of_ble_eq_true rfl) dX6_carryOut_70 ?_
    refine v_goto C (tgt := 84) dX6_carryOut_73 (by decide) ?_
    obtain rfl := Option.some.inj h
    exact v_vret C dX6_carryOut_84
  have h := ite_f q17 h
  have g_q1 := lv_neT q1 (a := 0) rfl
  have g_q7 := lv_neT q7 (a := 1) rfl
  have g_q13 := lv_neT q13 (a := 2) rfl
  have g_q17 := lv_neT q17 (a := 3) rfl
  refine v_tabOut C 76 dX6_carryOut_1 (by omega) (by decide) ?_
  refine v_aload_n C 0 dX6_carryOut_76 rfl rfl ?_
  refine v_aload_n C 2 dX6_carryOut_77 rfl rfl ?_
  refine v_iconst C (v := 0) dX6_carryOut_78 (by decide) ?_
  obtain ⟨x23, e_x23, h⟩ := bnd h
  refine v_iald C dX6_carryOut_79 e_x23 ?_
  obtain ⟨u24, e_u24, h⟩ := bnd h
  obtain ⟨z25, e_z25, h⟩ := bnd h
  refine v_callVi C (ci := 5) (av := [.int x23]) (rest := []) rfl gX6_carryOut_X6_letPass rfl ⟨rfl, rfl⟩ hV_X6_letPass ⟨(Nat.le_of_ble_eq_true rfl), (Nat.le_of_ble_eq_true rfl)⟩ e_u24 (r_X6_letPass (A := A) e_z25) rfl rfl (Nat.le_of_ble_eq_true rfl) dX6_carryOut_80 ?_
  refine v_pop C dX6_carryOut_83 rfl ?_
  obtain rfl := Option.some.inj h
  exact v_vret C dX6_carryOut_84
set_option maxRecDepth 100000 in
set_option maxHeartbeats 4000000 in
theorem r_X6_refusalOfCommand {l : Launch} {G : GG} {A : Nat → Prop} {n : Nat} {w : Wd} {this : Nat} {a1 : Int32} {a2 : Nat} {z : Int32} (h : m_X6_refusalOfCommand n w this a1 a2 = some z) : Con l yX6_refusalOfCommand wsX6_refusalOfCommand { frames := 3, cells := 0, slots := 0, locals := 67 } G A [.ref this, .int a1, .ref a2] w (some (.int z)) w := by
  refine Con.of (own := RX6) (cc := cX6_refusalOfCommand) (maxL := 3) (ret := (some .int)) rfl (by decide) rfl (Nat.le_of_ble_eq_true rfl) ?_
  intro p e s m args below meth c C
  show V p l e { frames := 3, cells := 0, slots := 0, locals := 67 } s m args below meth c G A 3 0 [(0, .ref this), (1, .int a1), (2, .ref a2)] [] w (some (.int z)) w
  unfold m_X6_refusalOfCommand at h
  refine v_iload_n C 1 dX6_refusalOfCommand_0 rfl rfl ?_
  by_cases q1 : a1 = 0
  · have h := ite_t q1 h
    refine v_tabIn C 0 31 32 dX6_refusalOfCommand_1 q1 (by decide) (by decide) rfl (by decide) ?_
    refine v_aload_n C 0 dX6_refusalOfCommand_32 rfl rfl ?_
    refine v_aload_n C 2 dX6_refusalOfCommand_33 rfl rfl ?_
    refine v_iconst C (v := 0) dX6_refusalOfCommand_34 (by decide) ?_
    obtain ⟨x2, e_x2, h⟩ := bnd h
    refine v_iald C dX6_refusalOfCommand_35 e_x2 ?_
    refine v_aload_n C 2 dX6_refusalOfCommand_36 rfl rfl ?_
    refine v_iconst C (v := 1) dX6_refusalOfCommand_37 (by decide) ?_
    obtain ⟨x3, e_x3, h⟩ := bnd h
    refine v_iald C dX6_refusalOfCommand_38 e_x3 ?_
    refine v_at (pc' := 39) rfl ?_
    refine v_aload_n C 2 dX6_refusalOfCommand_39 rfl rfl ?_
    refine v_iconst C (v := 2) dX6_refusalOfCommand_40 (by decide) ?_
    obtain ⟨x4, e_x4, h⟩ := bnd h
    refine v_iald C dX6_refusalOfCommand_41 e_x4 ?_
    refine v_iconst C (v := 0) dX6_refusalOfCommand_42 (by decide) ?_
    obtain ⟨u5, e_u5, h⟩ := bnd h
    obtain ⟨x6, e_x6, h⟩ := bnd h
    refine v_callVi C (ci := 5) (av := [.int x2, .int x3, .int x4, .int 0]) (rest := []) rfl gX6_refusalOfCommand_X6_refusalOfPlace rfl ⟨rfl, rfl⟩ hV_X6_refusalOfPlace ⟨(Nat.le_of_ble_eq_true rfl), (Nat.le_of_ble_eq_true rfl)⟩ e_u5 (r_X6_refusalOfPlace (A := A) e_x6) rfl rfl (Nat.le_of_ble_eq_true rfl) dX6_refusalOfCommand_43 ?_
    obtain rfl := Option.some.inj h
    exact v_iret C dX6_refusalOfCommand_46
  have h := ite_f q1 h
  by_cases q7 : a1 = 1
  · have h := ite_t q7 h
    refine v_tabIn C 1 46 47 dX6_refusalOfCommand_1 q7 (by decide) (by decide) rfl (by decide) ?_
    refine v_aload_n C 0 dX6_refusalOfCommand_47 rfl rfl ?_
    refine v_aload_n C 2 dX6_refusalOfCommand_48 rfl rfl ?_
    refine v_iconst C (v := 0) dX6_refusalOfCommand_49 (by decide) ?_
    obtain ⟨x8, e_x8, h⟩ := bnd h
    refine v_iald C dX6_refusalOfCommand_50 e_x8 ?_
    refine v_aload_n C 2 dX6_refusalOfCommand_51 rfl rfl ?_
    refine v_iconst C (v := 1) dX6_refusalOfCommand_52 (by decide) ?_
    obtain ⟨x9, e_x9, h⟩ := bnd h
    refine v_iald C dX6_refusalOfCommand_53 e_x9 ?_
    refine v_at (pc' := 54) rfl ?_
    refine v_aload_n C 2 dX6_refusalOfCommand_54 rfl rfl ?_
    refine v_iconst C (v := 2) dX6_refusalOfCommand_55 (by decide) ?_
    obtain ⟨x10, e_x10, h⟩ := bnd h
    refine v_iald C dX6_refusalOfCommand_56 e_x10 ?_
    refine v_iconst C (v := 1) dX6_refusalOfCommand_57 (by decide) ?_
    obtain ⟨u11, e_u11, h⟩ := bnd h
    obtain ⟨x12, e_x12, h⟩ := bnd h
    refine v_callVi C (ci := 5) (av := [.int x8, .int x9, .int x10, .int 1]) (rest := []) rfl gX6_refusalOfCommand_X6_refusalOfPlace rfl ⟨rfl, rfl⟩ hV_X6_refusalOfPlace ⟨(Nat.le_of_ble_eq_true rfl), (Nat.le_of_ble_eq_true rfl)⟩ e_u11 (r_X6_refusalOfPlace (A := A) e_x12) rfl rfl (Nat.le_of_ble_eq_true rfl) dX6_refusalOfCommand_58 ?_
    obtain rfl := Option.some.inj h
    exact v_iret C dX6_refusalOfCommand_61
  have h := ite_f q7 h
  by_cases q13 : a1 = 2
  · have h := ite_t q13 h
    refine v_tabIn C 2 61 62 dX6_refusalOfCommand_1 q13 (by decide) (by decide) rfl (by decide) ?_
    refine v_aload_n C 0 dX6_refusalOfCommand_62 rfl rfl ?_
    refine v_aload_n C 2 dX6_refusalOfCommand_63 rfl rfl ?_
    refine v_iconst C (v := 0) dX6_refusalOfCommand_64 (by decide) ?_
    obtain ⟨x14, e_x14, h⟩ := bnd h
    refine v_iald C dX6_refusalOfCommand_65 e_x14 ?_
    obtain ⟨u15, e_u15, h⟩ := bnd h
    obtain ⟨x16, e_x16, h⟩ := bnd h
    refine v_callVi C (ci := 5) (av := [.int x14]) (rest := []) rfl gX6_refusalOfCommand_X6_refusalOfDrop rfl ⟨rfl, rfl⟩ hV_X6_refusalOfDrop ⟨(Nat.le_of_ble_eq_true rfl), (Nat.le_of_ble_eq_true rfl)⟩ e_u15 (r_X6_refusalOfDrop (A := A) e_x16) rfl rfl (Nat.le_of_ble_eq_true rfl) dX6_refusalOfCommand_66 ?_
    obtain rfl := Option.some.inj h
    exact v_iret C dX6_refusalOfCommand_69
  have h := ite_f q13 h
  by_cases q17 : a1 = 3
  · have h := ite_t q17 h
    refine v_tabIn C 3 69 70 dX6_refusalOfCommand_1 q17 (by decide) (by decide) rfl (by decide) ?_
    refine v_aload_n C 0 dX6_refusalOfCommand_70 rfl rfl ?_
    refine v_aload_n C 2 dX6_refusalOfCommand_71 rfl rfl ?_
    refine v_iconst C (v := 0) dX6_refusalOfCommand_72 (by decide) ?_
    obtain ⟨x18, e_x18, h⟩ := bnd h
    refine v_iald C dX6_refusalOfCommand_73 e_x18 ?_
    refine v_aload_n C 2 dX6_refusalOfCommand_74 rfl rfl ?_
    refine v_iconst C (v := 1) dX6_refusalOfCommand_75 (by decide) ?_
    obtain ⟨x19, e_x19, h⟩ := bnd h
    refine v_iald C dX6_refusalOfCommand_76 e_x19 ?_
    refine v_at (pc' := 77) rfl ?_
    refine v_aload_n C 2 dX6_refusalOfCommand_77 rfl rfl ?_
    refine v_iconst C (v := 2) dX6_refusalOfCommand_78 (by decide) ?_
    obtain ⟨x20, e_x20, h⟩ := bnd h
    refine v_iald C dX6_refusalOfCommand_79 e_x20 ?_
    obtain ⟨u21, e_u21, h⟩ := bnd h
    obtain ⟨x22, e_x22, h⟩ := bnd h
    refine v_callVi C (ci := 5) (av := [.int x18, .int x19, .int x20]) (rest := []) rfl gX6_refusalOfCommand_X6_refusalOfSpeed rfl ⟨rfl, rfl⟩ hV_X6_refusalOfSpeed ⟨(Nat.le_of_ble_eq_true rfl), (Nat.le_of_ble_eq_true rfl)⟩ e_u21 (r_X6_refusalOfSpeed (A := A) e_x22) rfl rfl (Nat.le_of_ble_eq_true rfl) dX6_refusalOfCommand_80 ?_
    obtain rfl := Option.some.inj h
    exact v_iret C dX6_refusalOfCommand_83
  have h := ite_f q17 h
  have g_q1 := lv_neT q1 (a := 0) rfl
  have g_q7 := lv_neT q7 (a := 1) rfl
  have g_q13 := lv_neT q13 (a := 2) rfl
  have g_q17 := lv_neT q17 (a := 3) rfl
  refine v_tabOut C 84 dX6_refusalOfCommand_1 (by omega) (by decide) ?_
  refine v_aload_n C 2 dX6_refusalOfCommand_84 rfl rfl ?_
  refine v_iconst C (v := 0) dX6_refusalOfCommand_85 (by decide) ?_
  obtain ⟨x23, e_x23, h⟩ := bnd h
  refine v_iald C dX6_refusalOfCommand_86 e_x23 ?_
  refine v_callSi C (av := [.int x23]) (rest := []) gX6_refusalOfCommand_X6_refusalOfTicks rfl ⟨rfl, rfl⟩ hS_X6_refusalOfTicks ⟨(Nat.le_of_ble_eq_true rfl), (Nat.le_of_ble_eq_true rfl)⟩ (r_X6_refusalOfTicks (A := A) rfl) rfl rfl (Nat.le_of_ble_eq_true rfl) dX6_refusalOfCommand_87 ?_
  obtain rfl := Option.some.inj h
  exact v_iret C dX6_refusalOfCommand_90
theorem fX6_run_26 : Cond.fieldLink RX6 26 (TX6 2).1 (TX6 2).2.1 (TX6 2).2.2.1 ∈ wsX6_run := by decide +kernel
theorem inX6_run_X6 : ∀ x ∈ u_ws RX6 TX6 5, x ∈ wsX6_run := by decide +kernel
theorem fX6_run_246 : Cond.fieldLink RX6 246 (TX2 2).1 (TX2 2).2.1 (TX2 2).2.2.1 ∈ wsX6_run := by decide +kernel
theorem inX6_run_X2 : ∀ x ∈ u_ws RX2 TX2 6, x ∈ wsX6_run := by decide +kernel
theorem fX6_run_249 : Cond.fieldLink RX6 249 (TX2 3).1 (TX2 3).2.1 (TX2 3).2.2.1 ∈ wsX6_run := by decide +kernel
theorem hV_X6_refusalOfCommand : yX6_refusalOfCommand.cls = RX6 ∧ yX6_refusalOfCommand.cls ≠ "java/lang/invoke/MethodHandle" ∧ yX6_refusalOfCommand.cls ≠ "java/lang/invoke/VarHandle" ∧ (parseMethodDescriptor yX6_refusalOfCommand.desc).map (fun d => d.parameters.length) = some 2 := by decide +kernel
theorem hV_X6_carryOut : yX6_carryOut.cls = RX6 ∧ yX6_carryOut.cls ≠ "java/lang/invoke/MethodHandle" ∧ yX6_carryOut.cls ≠ "java/lang/invoke/VarHandle" ∧ (parseMethodDescriptor yX6_carryOut.desc).map (fun d => d.parameters.length) = some 2 := by decide +kernel
theorem hV_X2_findFault : yX2_findFault.cls = RX2 ∧ yX2_findFault.cls ≠ "java/lang/invoke/MethodHandle" ∧ yX2_findFault.cls ≠ "java/lang/invoke/VarHandle" ∧ (parseMethodDescriptor yX2_findFault.desc).map (fun d => d.parameters.length) = some 0 := by decide +kernel
theorem fX6_run_19 : Cond.fieldLink RX6 19 (TX6 1).1 (TX6 1).2.1 (TX6 1).2.2.1 ∈ wsX6_run := by decide +kernel
theorem fX6_run_10 : Cond.fieldLink RX6 10 (TX6 0).1 (TX6 0).2.1 (TX6 0).2.2.1 ∈ wsX6_run := by decide +kernel
set_option maxRecDepth 100000 in
set_option maxHeartbeats 4000000 in
theorem r_X6_run_p38 {p : Program} {l : Launch} {e : Env} {s : State} {m : MethodId} {args : Array Value} {below : List Frame} {meth : Method} {c : Code} {G : GG} {A : Nat → Prop} (C : Cx p s m args meth c G A cX6_run 3 RX6 wsX6_run (some .int)) (n : Nat) {z : (Int32 × Wd)} : ∀ (t : Nat), ∀ (w : Wd) (a0 : Nat) (a2 : Int32), m_X6_run_p38 G.2.2.1 n t w a0 a2 = some z → V p l e { frames := 10, cells := 0, slots := 0, locals := 219 } s m args below meth c G A 3 38 [(0, .ref a0), (2, .int a2)] [] w (some (.int z.1)) z.2 := by
  intro t
  induction t with
  | zero =>
    intro w a0 a2 h
    rw [m_X6_run_p38] at h
    cases h
  | succ t ih =>
    intro w a0 a2 h
    rw [m_X6_run_p38] at h
    refine v_iload_n C 1 dX6_run_38 rfl rfl ?_
    refine v_bipush C (v := 120) dX6_run_39 (by decide) ?_
    refine v_icmp_ge C (tgt := 99) dX6_run_41 (by decide) (fun q => ?_) (fun q => ?_)
    · have h := ite_t q h
      refine v_iload_n C 1 dX6_run_99 rfl rfl ?_
      obtain rfl := Option.some.inj h
      exact v_iret C dX6_run_100
    · have h := ite_f q h
      refine v_aload_n C 0 dX6_run_44 rfl rfl ?_
      obtain ⟨q1, e_q1, h⟩ := bnd h
      refine v_getf C (ci := 5) (k := 2) rfl inX6_run_X6 (by decide) fX6_run_26 dX6_run_45 (gfR_e e_q1) ?_
      obtain ⟨u2, e_u2, h⟩ := bnd h
      obtain ⟨z3, e_z3, h⟩ := bnd h
      refine v_callVi C (ci := 2) (av := []) (rest := []) rfl gX6_run_X2_readCommand rfl ⟨rfl, rfl⟩ hV_X2_readCommand ⟨(Nat.le_of_ble_eq_true rfl), (Nat.le_of_ble_eq_true rfl)⟩ e_u2 (r_X2_readCommand (A := A) e_z3) rfl rfl (Nat.le_of_ble_eq_true rfl) dX6_run_48 ?_
      refine v_if_eq C (tgt := 99) dX6_run_51 (by decide) (fun q => ?_) (fun q => ?_)
      · have h := ite_t q h
        refine v_iload_n C 1 dX6_run_99 rfl rfl ?_
        obtain rfl := Option.some.inj h
        exact v_iret C dX6_run_100
      · have h := ite_f q h
        refine v_aload_n C 0 dX6_run_54 rfl rfl ?_
        refine v_aload_n C 0 dX6_run_55 rfl rfl ?_
        obtain ⟨q4, e_q4, h⟩ := bnd h
        refine v_getf C (ci := 5) (k := 2) rfl inX6_run_X6 (by decide) fX6_run_26 dX6_run_56 (gfR_e e_q4) ?_
        obtain ⟨x5, e_x5, h⟩ := bnd h
        refine v_getf C (ci := 2) (k := 2) rfl inX6_run_X2 (by decide) fX6_run_246 dX6_run_59 (gfI_e e_x5) ?_
        refine v_aload_n C 0 dX6_run_62 rfl rfl ?_
        obtain ⟨q6, e_q6, h⟩ := bnd h
        refine v_getf C (ci := 5) (k := 2) rfl inX6_run_X6 (by decide) fX6_run_26 dX6_run_63 (gfR_e e_q6) ?_
        obtain ⟨q7, e_q7, h⟩ := bnd h
        refine v_getf C (ci := 2) (k := 3) rfl inX6_run_X2 (by decide) fX6_run_249 dX6_run_66 (gfR_e e_q7) ?_
        refine v_at (pc' := 69) rfl ?_
        obtain ⟨u8, e_u8, h⟩ := bnd h
        obtain ⟨x9, e_x9, h⟩ := bnd h
        refine v_callVi C (ci := 5) (av := [.int x5, .ref q7]) (rest := []) rfl gX6_run_X6_refusalOfCommand rfl ⟨rfl, rfl⟩ hV_X6_refusalOfCommand ⟨(Nat.le_of_ble_eq_true rfl), (Nat.le_of_ble_eq_true rfl)⟩ e_u8 (r_X6_refusalOfCommand (A := A) e_x9) rfl rfl (Nat.le_of_ble_eq_true rfl) dX6_run_69 ?_
        refine v_if_ne C (tgt := 99) dX6_run_72 (by decide) (fun q => ?_) (fun q => ?_)
        · have h := ite_f q h
          refine v_iload_n C 1 dX6_run_99 rfl rfl ?_
          obtain rfl := Option.some.inj h
          exact v_iret C dX6_run_100
        · have h := ite_t q h
          refine v_aload_n C 0 dX6_run_75 rfl rfl ?_
          refine v_aload_n C 0 dX6_run_76 rfl rfl ?_
          obtain ⟨q10, e_q10, h⟩ := bnd h
          refine v_getf C (ci := 5) (k := 2) rfl inX6_run_X6 (by decide) fX6_run_26 dX6_run_77 (gfR_e e_q10) ?_
          obtain ⟨x11, e_x11, h⟩ := bnd h
          refine v_getf C (ci := 2) (k := 2) rfl inX6_run_X2 (by decide) fX6_run_246 dX6_run_80 (gfI_e e_x11) ?_
          refine v_aload_n C 0 dX6_run_83 rfl rfl ?_
          obtain ⟨q12, e_q12, h⟩ := bnd h
          refine v_getf C (ci := 5) (k := 2) rfl inX6_run_X6 (by decide) fX6_run_26 dX6_run_84 (gfR_e e_q12) ?_
          obtain ⟨q13, e_q13, h⟩ := bnd h
          refine v_getf C (ci := 2) (k := 3) rfl inX6_run_X2 (by decide) fX6_run_249 dX6_run_87 (gfR_e e_q13) ?_
          refine v_at (pc' := 90) rfl ?_
          obtain ⟨u14, e_u14, h⟩ := bnd h
          obtain ⟨z15, e_z15, h⟩ := bnd h
          refine v_callVv C (ci := 5) (av := [.int x11, .ref q13]) (rest := []) rfl gX6_run_X6_carryOut rfl ⟨rfl, rfl⟩ hV_X6_carryOut ⟨(Nat.le_of_ble_eq_true rfl), (Nat.le_of_ble_eq_true rfl)⟩ e_u14 (r_X6_carryOut (A := A) e_z15) rfl rfl (Nat.le_of_ble_eq_true rfl) dX6_run_90 ?_
          refine v_iinc C (k := 1) (v := (a2 + 1)) (lv' := [(2, .int (a2 + 1)), (0, .ref a0)]) dX6_run_93 rfl rfl (by decide) rfl ?_
          refine v_goto C (tgt := 38) dX6_run_96 (by decide) ?_
          refine v_sub [1, 0] rfl ?_
          exact ih _ _ _ h
set_option maxRecDepth 100000 in
set_option maxHeartbeats 4000000 in
theorem r_X6_run {l : Launch} {G : GG} {A : Nat → Prop} {n : Nat} {w : Wd} {this : Nat} {z : (Int32 × Wd)} (h : m_X6_run G.2.2.1 n w this = some z) : Con l yX6_run wsX6_run { frames := 10, cells := 0, slots := 0, locals := 219 } G A [.ref this] w (some (.int z.1)) z.2 := by
  refine Con.of (own := RX6) (cc := cX6_run) (maxL := 3) (ret := (some .int)) rfl (by decide) rfl (Nat.le_of_ble_eq_true rfl) ?_
  intro p e s m args below meth c C
  show V p l e { frames := 10, cells := 0, slots := 0, locals := 219 } s m args below meth c G A 3 0 [(0, .ref this)] [] w (some (.int z.1)) z.2
  unfold m_X6_run at h
  refine v_aload_n C 0 dX6_run_0 rfl rfl ?_
  obtain ⟨q1, e_q1, h⟩ := bnd h
  refine v_getf C (ci := 5) (k := 2) rfl inX6_run_X6 (by decide) fX6_run_26 dX6_run_1 (gfR_e e_q1) ?_
  obtain ⟨u2, e_u2, h⟩ := bnd h
  obtain ⟨z3, e_z3, h⟩ := bnd h
  refine v_callVi C (ci := 2) (av := []) (rest := []) rfl gX6_run_X2_findFault rfl ⟨rfl, rfl⟩ hV_X2_findFault ⟨(Nat.le_of_ble_eq_true rfl), (Nat.le_of_ble_eq_true rfl)⟩ e_u2 (r_X2_findFault (A := A) e_z3) rfl rfl (Nat.le_of_ble_eq_true rfl) dX6_run_4 ?_
  refine v_istore_n C (lv' := [(1, .int z3.1), (0, .ref this)]) dX6_run_7 rfl (by decide) rfl ?_
  refine v_iload_n C 0 dX6_run_8 rfl rfl ?_
  refine v_iconst C (v := (-1)) dX6_run_9 (by decide) ?_
  refine v_icmp_eq C (tgt := 18) dX6_run_10 (by decide) (fun q => ?_) (fun q => ?_)
  · have h := ite_t q h
    refine v_aload_n C 1 dX6_run_18 rfl rfl ?_
    obtain ⟨q4, e_q4, h⟩ := bnd h
    refine v_getf C (ci := 5) (k := 1) rfl inX6_run_X6 (by decide) fX6_run_19 dX6_run_19 (gfR_e e_q4) ?_
    refine v_aload_n C 1 dX6_run_22 rfl rfl ?_
    obtain ⟨q5, e_q5, h⟩ := bnd h
    refine v_getf C (ci := 5) (k := 0) rfl inX6_run_X6 (by decide) fX6_run_10 dX6_run_23 (gfR_e e_q5) ?_
    obtain ⟨u6, e_u6, h⟩ := bnd h
    obtain ⟨z7, e_z7, h⟩ := bnd h
    refine v_callVv C (ci := 4) (av := [.ref q5]) (rest := []) rfl gX6_run_X5_push rfl ⟨rfl, rfl⟩ hV_X5_push ⟨(Nat.le_of_ble_eq_true rfl), (Nat.le_of_ble_eq_true rfl)⟩ e_u6 (r_X5_push (A := A) e_z7) rfl rfl (Nat.le_of_ble_eq_true rfl) dX6_run_26 ?_
    refine v_aload_n C 1 dX6_run_29 rfl rfl ?_
    obtain ⟨q8, e_q8, h⟩ := bnd h
    refine v_getf C (ci := 5) (k := 2) rfl inX6_run_X6 (by decide) fX6_run_26 dX6_run_30 (gfR_e e_q8) ?_
    refine v_at (pc' := 33) rfl ?_
    obtain ⟨u9, e_u9, h⟩ := bnd h
    obtain ⟨z10, e_z10, h⟩ := bnd h
    refine v_callVv C (ci := 2) (av := []) (rest := []) rfl gX6_run_X2_rewind rfl ⟨rfl, rfl⟩ hV_X2_rewind ⟨(Nat.le_of_ble_eq_true rfl), (Nat.le_of_ble_eq_true rfl)⟩ e_u9 (r_X2_rewind (A := A) e_z10) rfl rfl (Nat.le_of_ble_eq_true rfl) dX6_run_33 ?_
    refine v_iconst C (v := 0) dX6_run_36 (by decide) ?_
    refine v_istore_n C (lv' := [(2, .int 0), (1, .int z3.1), (0, .ref this)]) dX6_run_37 rfl (by decide) rfl ?_
    refine v_sub [2, 0] rfl ?_
    exact r_X6_run_p38 C n n _ _ _ h
  · have h := ite_f q h
    refine v_bipush C (v := (-10)) dX6_run_13 (by decide) ?_
    refine v_iload_n C 0 dX6_run_15 rfl rfl ?_
    refine v_isub C dX6_run_16 ?_
    obtain rfl := Option.some.inj h
    exact v_iret C dX6_run_17
theorem fX6_time_10 : Cond.fieldLink RX6 10 (TX6 0).1 (TX6 0).2.1 (TX6 0).2.2.1 ∈ wsX6_time := by decide +kernel
theorem inX6_time_X6 : ∀ x ∈ u_ws RX6 TX6 5, x ∈ wsX6_time := by decide +kernel
theorem fX6_time_260 : Cond.fieldLink RX6 260 (TX4 8).1 (TX4 8).2.1 (TX4 8).2.2.1 ∈ wsX6_time := by decide +kernel
theorem inX6_time_X4 : ∀ x ∈ u_ws RX4 TX4 9, x ∈ wsX6_time := by decide +kernel
set_option maxRecDepth 100000 in
set_option maxHeartbeats 4000000 in
theorem r_X6_time {l : Launch} {G : GG} {A : Nat → Prop} {n : Nat} {w : Wd} {this : Nat} {z : Int32} (h : m_X6_time n w this = some z) : Con l yX6_time wsX6_time { frames := 0, cells := 0, slots := 0, locals := 0 } G A [.ref this] w (some (.int z)) w := by
  refine Con.of (own := RX6) (cc := cX6_time) (maxL := 1) (ret := (some .int)) rfl (by decide) rfl (Nat.le_of_ble_eq_true rfl) ?_
  intro p e s m args below meth c C
  show V p l e { frames := 0, cells := 0, slots := 0, locals := 0 } s m args below meth c G A 1 0 [(0, .ref this)] [] w (some (.int z)) w
  unfold m_X6_time at h
  refine v_aload_n C 0 dX6_time_0 rfl rfl ?_
  obtain ⟨q1, e_q1, h⟩ := bnd h
  refine v_getf C (ci := 5) (k := 0) rfl inX6_time_X6 (by decide) fX6_time_10 dX6_time_1 (gfR_e e_q1) ?_
  obtain ⟨x2, e_x2, h⟩ := bnd h
  refine v_getf C (ci := 3) (k := 8) rfl inX6_time_X4 (by decide) fX6_time_260 dX6_time_4 (gfI_e e_x2) ?_
  obtain rfl := Option.some.inj h
  exact v_iret C dX6_time_7
theorem fX6_undo_19 : Cond.fieldLink RX6 19 (TX6 1).1 (TX6 1).2.1 (TX6 1).2.2.1 ∈ wsX6_undo := by decide +kernel
theorem inX6_undo_X6 : ∀ x ∈ u_ws RX6 TX6 5, x ∈ wsX6_undo := by decide +kernel
theorem fX6_undo_263 : Cond.fieldLink RX6 263 (TX5 2).1 (TX5 2).2.1 (TX5 2).2.2.1 ∈ wsX6_undo := by decide +kernel
theorem inX6_undo_X5 : ∀ x ∈ u_ws RX5 TX5 3, x ∈ wsX6_undo := by decide +kernel
theorem fX6_undo_10 : Cond.fieldLink RX6 10 (TX6 0).1 (TX6 0).2.1 (TX6 0).2.2.1 ∈ wsX6_undo := by decide +kernel
theorem hV_X5_pop : yX5_pop.cls = RX5 ∧ yX5_pop.cls ≠ "java/lang/invoke/MethodHandle" ∧ yX5_pop.cls ≠ "java/lang/invoke/VarHandle" ∧ (parseMethodDescriptor yX5_pop.desc).map (fun d => d.parameters.length) = some 1 := by decide +kernel
theorem fX6_undo_33 : Cond.fieldLink RX6 33 (TX6 3).1 (TX6 3).2.1 (TX6 3).2.2.1 ∈ wsX6_undo := by decide +kernel
set_option maxRecDepth 100000 in
set_option maxHeartbeats 4000000 in
theorem r_X6_undo {l : Launch} {G : GG} {A : Nat → Prop} {n : Nat} {w : Wd} {this : Nat} {z : (Int32 × Wd)} (h : m_X6_undo n w this = some z) : Con l yX6_undo wsX6_undo { frames := 3, cells := 0, slots := 0, locals := 72 } G A [.ref this] w (some (.int z.1)) z.2 := by
  refine Con.of (own := RX6) (cc := cX6_undo) (maxL := 1) (ret := (some .int)) rfl (by decide) rfl (Nat.le_of_ble_eq_true rfl) ?_
  intro p e s m args below meth c C
  show V p l e { frames := 3, cells := 0, slots := 0, locals := 72 } s m args below meth c G A 1 0 [(0, .ref this)] [] w (some (.int z.1)) z.2
  unfold m_X6_undo at h
  refine v_aload_n C 0 dX6_undo_0 rfl rfl ?_
  obtain ⟨q1, e_q1, h⟩ := bnd h
  refine v_getf C (ci := 5) (k := 1) rfl inX6_undo_X6 (by decide) fX6_undo_19 dX6_undo_1 (gfR_e e_q1) ?_
  obtain ⟨x2, e_x2, h⟩ := bnd h
  refine v_getf C (ci := 4) (k := 2) rfl inX6_undo_X5 (by decide) fX6_undo_263 dX6_undo_4 (gfI_e e_x2) ?_
  refine v_if_le C (tgt := 14) dX6_undo_7 (by decide) (fun q => ?_) (fun q => ?_)
  · have h := ite_t q h
    refine v_iconst C (v := 3) dX6_undo_14 (by decide) ?_
    obtain ⟨z3, e_z3, h⟩ := bnd h
    refine v_callSv C (av := [.int 3]) (rest := []) gX6_undo_X6_throwIf rfl ⟨rfl, rfl⟩ hS_X6_throwIf ⟨(Nat.le_of_ble_eq_true rfl), (Nat.le_of_ble_eq_true rfl)⟩ (r_X6_throwIf (A := A) e_z3) rfl rfl (Nat.le_of_ble_eq_true rfl) dX6_undo_15 ?_
    refine v_aload_n C 0 dX6_undo_18 rfl rfl ?_
    obtain ⟨q4, e_q4, h⟩ := bnd h
    refine v_getf C (ci := 5) (k := 1) rfl inX6_undo_X6 (by decide) fX6_undo_19 dX6_undo_19 (gfR_e e_q4) ?_
    refine v_aload_n C 0 dX6_undo_22 rfl rfl ?_
    obtain ⟨q5, e_q5, h⟩ := bnd h
    refine v_getf C (ci := 5) (k := 0) rfl inX6_undo_X6 (by decide) fX6_undo_10 dX6_undo_23 (gfR_e e_q5) ?_
    obtain ⟨u6, e_u6, h⟩ := bnd h
    obtain ⟨z7, e_z7, h⟩ := bnd h
    refine v_callVv C (ci := 4) (av := [.ref q5]) (rest := []) rfl gX6_undo_X5_pop rfl ⟨rfl, rfl⟩ hV_X5_pop ⟨(Nat.le_of_ble_eq_true rfl), (Nat.le_of_ble_eq_true rfl)⟩ e_u6 (r_X5_pop (A := A) e_z7) rfl rfl (Nat.le_of_ble_eq_true rfl) dX6_undo_26 ?_
    refine v_at (pc' := 29) rfl ?_
    refine v_aload_n C 0 dX6_undo_29 rfl rfl ?_
    obtain ⟨q8, e_q8, h⟩ := bnd h
    refine v_getf C (ci := 5) (k := 3) rfl inX6_undo_X6 (by decide) fX6_undo_33 dX6_undo_30 (gfR_e e_q8) ?_
    refine v_aload_n C 0 dX6_undo_33 rfl rfl ?_
    obtain ⟨q9, e_q9, h⟩ := bnd h
    refine v_getf C (ci := 5) (k := 0) rfl inX6_undo_X6 (by decide) fX6_undo_10 dX6_undo_34 (gfR_e e_q9) ?_
    obtain ⟨u10, e_u10, h⟩ := bnd h
    obtain ⟨z11, e_z11, h⟩ := bnd h
    refine v_callVv C (ci := 0) (av := [.ref q9]) (rest := []) rfl gX6_undo_X0_plant rfl ⟨rfl, rfl⟩ hV_X0_plant ⟨(Nat.le_of_ble_eq_true rfl), (Nat.le_of_ble_eq_true rfl)⟩ e_u10 (r_X0_plant (A := A) e_z11) rfl rfl (Nat.le_of_ble_eq_true rfl) dX6_undo_37 ?_
    refine v_aload_n C 0 dX6_undo_40 rfl rfl ?_
    obtain ⟨q12, e_q12, h⟩ := bnd h
    refine v_getf C (ci := 5) (k := 1) rfl inX6_undo_X6 (by decide) fX6_undo_19 dX6_undo_41 (gfR_e e_q12) ?_
    obtain ⟨x13, e_x13, h⟩ := bnd h
    refine v_getf C (ci := 4) (k := 2) rfl inX6_undo_X5 (by decide) fX6_undo_263 dX6_undo_44 (gfI_e e_x13) ?_
    refine v_at (pc' := 47) rfl ?_
    obtain rfl := Option.some.inj h
    exact v_iret C dX6_undo_47
  · have h := ite_f q h
    refine v_iconst C (v := 0) dX6_undo_10 (by decide) ?_
    refine v_goto C (tgt := 15) dX6_undo_11 (by decide) ?_
    obtain ⟨z14, e_z14, h⟩ := bnd h
    refine v_callSv C (av := [.int 0]) (rest := []) gX6_undo_X6_throwIf rfl ⟨rfl, rfl⟩ hS_X6_throwIf ⟨(Nat.le_of_ble_eq_true rfl), (Nat.le_of_ble_eq_true rfl)⟩ (r_X6_throwIf (A := A) e_z14) rfl rfl (Nat.le_of_ble_eq_true rfl) dX6_undo_15 ?_
    refine v_aload_n C 0 dX6_undo_18 rfl rfl ?_
    obtain ⟨q15, e_q15, h⟩ := bnd h
    refine v_getf C (ci := 5) (k := 1) rfl inX6_undo_X6 (by decide) fX6_undo_19 dX6_undo_19 (gfR_e e_q15) ?_
    refine v_aload_n C 0 dX6_undo_22 rfl rfl ?_
    obtain ⟨q16, e_q16, h⟩ := bnd h
    refine v_getf C (ci := 5) (k := 0) rfl inX6_undo_X6 (by decide) fX6_undo_10 dX6_undo_23 (gfR_e e_q16) ?_
    refine v_at (pc' := 26) rfl ?_
    obtain ⟨u17, e_u17, h⟩ := bnd h
    obtain ⟨z18, e_z18, h⟩ := bnd h
    refine v_callVv C (ci := 4) (av := [.ref q16]) (rest := []) rfl gX6_undo_X5_pop rfl ⟨rfl, rfl⟩ hV_X5_pop ⟨(Nat.le_of_ble_eq_true rfl), (Nat.le_of_ble_eq_true rfl)⟩ e_u17 (r_X5_pop (A := A) e_z18) rfl rfl (Nat.le_of_ble_eq_true rfl) dX6_undo_26 ?_
    refine v_aload_n C 0 dX6_undo_29 rfl rfl ?_
    obtain ⟨q19, e_q19, h⟩ := bnd h
    refine v_getf C (ci := 5) (k := 3) rfl inX6_undo_X6 (by decide) fX6_undo_33 dX6_undo_30 (gfR_e e_q19) ?_
    refine v_aload_n C 0 dX6_undo_33 rfl rfl ?_
    obtain ⟨q20, e_q20, h⟩ := bnd h
    refine v_getf C (ci := 5) (k := 0) rfl inX6_undo_X6 (by decide) fX6_undo_10 dX6_undo_34 (gfR_e e_q20) ?_
    obtain ⟨u21, e_u21, h⟩ := bnd h
    obtain ⟨z22, e_z22, h⟩ := bnd h
    refine v_callVv C (ci := 0) (av := [.ref q20]) (rest := []) rfl gX6_undo_X0_plant rfl ⟨rfl, rfl⟩ hV_X0_plant ⟨(Nat.le_of_ble_eq_true rfl), (Nat.le_of_ble_eq_true rfl)⟩ e_u21 (r_X0_plant (A := A) e_z22) rfl rfl (Nat.le_of_ble_eq_true rfl) dX6_undo_37 ?_
    refine v_aload_n C 0 dX6_undo_40 rfl rfl ?_
    obtain ⟨q23, e_q23, h⟩ := bnd h
    refine v_getf C (ci := 5) (k := 1) rfl inX6_undo_X6 (by decide) fX6_undo_19 dX6_undo_41 (gfR_e e_q23) ?_
    refine v_at (pc' := 44) rfl ?_
    obtain ⟨x24, e_x24, h⟩ := bnd h
    refine v_getf C (ci := 4) (k := 2) rfl inX6_undo_X5 (by decide) fX6_undo_263 dX6_undo_44 (gfI_e e_x24) ?_
    obtain rfl := Option.some.inj h
    exact v_iret C dX6_undo_47
theorem cX6_mixCursors_270 : Cond.constantLong RX6 270 (31) ∈ wsX6_mixCursors := by decide +kernel
theorem hV_X6_cursor : yX6_cursor.cls = RX6 ∧ yX6_cursor.cls ≠ "java/lang/invoke/MethodHandle" ∧ yX6_cursor.cls ≠ "java/lang/invoke/VarHandle" ∧ (parseMethodDescriptor yX6_cursor.desc).map (fun d => d.parameters.length) = some 2 := by decide +kernel
set_option maxRecDepth 100000 in
set_option maxHeartbeats 4000000 in
theorem r_X6_mixCursors_p14 {p : Program} {l : Launch} {e : Env} {s : State} {m : MethodId} {args : Array Value} {below : List Frame} {meth : Method} {c : Code} {G : GG} {A : Nat → Prop} (C : Cx p s m args meth c G A cX6_mixCursors 7 RX6 wsX6_mixCursors (some .long)) (n : Nat) {k5 : Wd → Nat → Int64 → Int32 → Option Int64} {z : Int64} (H5 : ∀ (w : Wd) (b0 : Nat) (b3 : Int64) (b5 : Int32), k5 w b0 b3 b5 = some z → V p l e { frames := 5, cells := 0, slots := 0, locals := 118 } s m args below meth c G A 7 5 [(0, .ref b0), (3, .long b3), (5, .int b5)] [] w (some (.long z)) w) : ∀ (t : Nat), ∀ (w : Wd) (a0 : Nat) (a3 : Int64) (a5 : Int32) (a6 : Int32), m_X6_mixCursors_p14 n k5 t w a0 a3 a5 a6 = some z → V p l e { frames := 5, cells := 0, slots := 0, locals := 118 } s m args below meth c G A 7 14 [(0, .ref a0), (3, .long a3), (5, .int a5), (6, .int a6)] [] w (some (.long z)) w := by
  intro t
  induction t with
  | zero =>
    intro w a0 a3 a5 a6 h
    rw [m_X6_mixCursors_p14] at h
    cases h
  | succ t ih =>
    intro w a0 a3 a5 a6 h
    rw [m_X6_mixCursors_p14] at h
    refine v_iload C 3 dX6_mixCursors_14 rfl ?_
    refine v_iconst C (v := 5) dX6_mixCursors_16 (by decide) ?_
    refine v_icmp_gt C (tgt := 42) dX6_mixCursors_17 (by decide) (fun q => ?_) (fun q => ?_)
    · have h := ite_t q h
      refine v_iinc C (k := 2) (v := (a5 + 1)) (lv' := [(5, .int (a5 + 1)), (0, .ref a0), (3, .long a3), (6, .int a6)]) dX6_mixCursors_42 rfl rfl (by decide) rfl ?_
      refine v_goto C (tgt := 5) dX6_mixCursors_45 (by decide) ?_
      refine v_sub [1, 2, 0] rfl ?_
      exact H5 _ _ _ _ h
    · have h := ite_f q h
      refine v_ldc2 C dX6_mixCursors_20 cX6_mixCursors_270 ?_
      refine v_lload_n C 1 dX6_mixCursors_23 rfl rfl ?_
      refine v_lmul C dX6_mixCursors_24 ?_
      refine v_aload_n C 0 dX6_mixCursors_25 rfl rfl ?_
      refine v_iload C 2 dX6_mixCursors_26 rfl ?_
      refine v_iload C 3 dX6_mixCursors_28 rfl ?_
      obtain ⟨u1, e_u1, h⟩ := bnd h
      obtain ⟨x2, e_x2, h⟩ := bnd h
      refine v_callVi C (ci := 5) (av := [.int a5, .int a6]) (rest := [.long (31 * a3)]) rfl gX6_mixCursors_X6_cursor rfl ⟨rfl, rfl⟩ hV_X6_cursor ⟨(Nat.le_of_ble_eq_true rfl), (Nat.le_of_ble_eq_true rfl)⟩ e_u1 (r_X6_cursor (A := A) e_x2) rfl rfl (Nat.le_of_ble_eq_true rfl) dX6_mixCursors_30 ?_
      refine v_at (pc' := 33) rfl ?_
      refine v_i2l C dX6_mixCursors_33 ?_
      refine v_ladd C dX6_mixCursors_34 ?_
      refine v_lstore_n C (lv' := [(3, .long ((31 * a3) + (Int32.toInt64 x2))), (0, .ref a0), (5, .int a5), (6, .int a6)]) dX6_mixCursors_35 rfl (by decide) rfl ?_
      refine v_iinc C (k := 3) (v := (a6 + 1)) (lv' := [(6, .int (a6 + 1)), (3, .long ((31 * a3) + (Int32.toInt64 x2))), (0, .ref a0), (5, .int a5)]) dX6_mixCursors_36 rfl rfl (by decide) rfl ?_
      refine v_goto C (tgt := 14) dX6_mixCursors_39 (by decide) ?_
      refine v_sub [2, 1, 3, 0] rfl ?_
      exact ih _ _ _ _ _ h
set_option maxRecDepth 100000 in
set_option maxHeartbeats 4000000 in
theorem r_X6_mixCursors_p5 {p : Program} {l : Launch} {e : Env} {s : State} {m : MethodId} {args : Array Value} {below : List Frame} {meth : Method} {c : Code} {G : GG} {A : Nat → Prop} (C : Cx p s m args meth c G A cX6_mixCursors 7 RX6 wsX6_mixCursors (some .long)) (n : Nat) {z : Int64} : ∀ (t : Nat), ∀ (w : Wd) (a0 : Nat) (a3 : Int64) (a5 : Int32), m_X6_mixCursors_p5 n t w a0 a3 a5 = some z → V p l e { frames := 5, cells := 0, slots := 0, locals := 118 } s m args below meth c G A 7 5 [(0, .ref a0), (3, .long a3), (5, .int a5)] [] w (some (.long z)) w := by
  intro t
  induction t with
  | zero =>
    intro w a0 a3 a5 h
    rw [m_X6_mixCursors_p5] at h
    cases h
  | succ t ih =>
    intro w a0 a3 a5 h
    rw [m_X6_mixCursors_p5] at h
    refine v_iload C 2 dX6_mixCursors_5 rfl ?_
    refine v_iconst C (v := 4) dX6_mixCursors_7 (by decide) ?_
    refine v_icmp_ge C (tgt := 48) dX6_mixCursors_8 (by decide) (fun q => ?_) (fun q => ?_)
    · have h := ite_t q h
      refine v_lload_n C 1 dX6_mixCursors_48 rfl rfl ?_
      obtain rfl := Option.some.inj h
      exact v_lret C dX6_mixCursors_49
    · have h := ite_f q h
      refine v_iconst C (v := 0) dX6_mixCursors_11 (by decide) ?_
      refine v_istore C (lv' := [(6, .int 0), (0, .ref a0), (3, .long a3), (5, .int a5)]) dX6_mixCursors_12 (by decide) rfl ?_
      refine v_sub [1, 2, 3, 0] rfl ?_
      exact r_X6_mixCursors_p14 C n ih n _ _ _ _ _ h
set_option maxRecDepth 100000 in
set_option maxHeartbeats 4000000 in
theorem r_X6_mixCursors {l : Launch} {G : GG} {A : Nat → Prop} {n : Nat} {w : Wd} {this : Nat} {a1 : Int64} {z : Int64} (h : m_X6_mixCursors n w this a1 = some z) : Con l yX6_mixCursors wsX6_mixCursors { frames := 5, cells := 0, slots := 0, locals := 118 } G A [.ref this, .long a1] w (some (.long z)) w := by
  refine Con.of (own := RX6) (cc := cX6_mixCursors) (maxL := 7) (ret := (some .long)) rfl (by decide) rfl (Nat.le_of_ble_eq_true rfl) ?_
  intro p e s m args below meth c C
  show V p l e { frames := 5, cells := 0, slots := 0, locals := 118 } s m args below meth c G A 7 0 [(0, .ref this), (1, .long a1)] [] w (some (.long z)) w
  unfold m_X6_mixCursors at h
  refine v_lload_n C 1 dX6_mixCursors_0 rfl rfl ?_
  refine v_lstore_n C (lv' := [(3, .long a1), (0, .ref this), (1, .long a1)]) dX6_mixCursors_1 rfl (by decide) rfl ?_
  refine v_iconst C (v := 0) dX6_mixCursors_2 (by decide) ?_
  refine v_istore C (lv' := [(5, .int 0), (3, .long a1), (0, .ref this), (1, .long a1)]) dX6_mixCursors_3 (by decide) rfl ?_
  refine v_sub [2, 1, 0] rfl ?_
  exact r_X6_mixCursors_p5 C n n _ _ _ _ h
theorem cX6_mixLevel_270 : Cond.constantLong RX6 270 (31) ∈ wsX6_mixLevel := by decide +kernel
theorem hV_X6_child : yX6_child.cls = RX6 ∧ yX6_child.cls ≠ "java/lang/invoke/MethodHandle" ∧ yX6_child.cls ≠ "java/lang/invoke/VarHandle" ∧ (parseMethodDescriptor yX6_child.desc).map (fun d => d.parameters.length) = some 3 := by decide +kernel
theorem hV_X6_node : yX6_node.cls = RX6 ∧ yX6_node.cls ≠ "java/lang/invoke/MethodHandle" ∧ yX6_node.cls ≠ "java/lang/invoke/VarHandle" ∧ (parseMethodDescriptor yX6_node.desc).map (fun d => d.parameters.length) = some 3 := by decide +kernel
theorem fX6_mixLevel_33 : Cond.fieldLink RX6 33 (TX6 3).1 (TX6 3).2.1 (TX6 3).2.2.1 ∈ wsX6_mixLevel := by decide +kernel
theorem inX6_mixLevel_X6 : ∀ x ∈ u_ws RX6 TX6 5, x ∈ wsX6_mixLevel := by decide +kernel
theorem fX6_mixLevel_126 : Cond.fieldLink RX6 126 (TX0 0).1 (TX0 0).2.1 (TX0 0).2.2.1 ∈ wsX6_mixLevel := by decide +kernel
theorem inX6_mixLevel_X0 : ∀ x ∈ u_ws RX0 TX0 2, x ∈ wsX6_mixLevel := by decide +kernel
theorem fX6_mixLevel_136 : Cond.fieldLink RX6 136 (TX1 3).1 (TX1 3).2.1 (TX1 3).2.2.1 ∈ wsX6_mixLevel := by decide +kernel
theorem inX6_mixLevel_X1 : ∀ x ∈ u_ws RX1 TX1 4, x ∈ wsX6_mixLevel := by decide +kernel
theorem hV_X6_level : yX6_level.cls = RX6 ∧ yX6_level.cls ≠ "java/lang/invoke/MethodHandle" ∧ yX6_level.cls ≠ "java/lang/invoke/VarHandle" ∧ (parseMethodDescriptor yX6_level.desc).map (fun d => d.parameters.length) = some 2 := by decide +kernel
set_option maxRecDepth 100000 in
set_option maxHeartbeats 4000000 in
theorem r_X6_mixLevel_p92 {p : Program} {l : Launch} {e : Env} {s : State} {m : MethodId} {args : Array Value} {below : List Frame} {meth : Method} {c : Code} {G : GG} {A : Nat → Prop} (C : Cx p s m args meth c G A cX6_mixLevel 8 RX6 wsX6_mixLevel (some .long)) (n : Nat) {k38 : Wd → Nat → Int32 → Int64 → Int32 → Option Int64} {z : Int64} (H38 : ∀ (w : Wd) (b0 : Nat) (b3 : Int32) (b4 : Int64) (b6 : Int32), k38 w b0 b3 b4 b6 = some z → V p l e { frames := 6, cells := 0, slots := 0, locals := 136 } s m args below meth c G A 8 38 [(0, .ref b0), (3, .int b3), (4, .long b4), (6, .int b6)] [] w (some (.long z)) w) : ∀ (t : Nat), ∀ (w : Wd) (a0 : Nat) (a3 : Int32) (a4 : Int64) (a6 : Int32) (a7 : Int32), m_X6_mixLevel_p92 n k38 t w a0 a3 a4 a6 a7 = some z → V p l e { frames := 6, cells := 0, slots := 0, locals := 136 } s m args below meth c G A 8 92 [(0, .ref a0), (3, .int a3), (4, .long a4), (6, .int a6), (7, .int a7)] [] w (some (.long z)) w := by
  intro t
  induction t with
  | zero =>
    intro w a0 a3 a4 a6 a7 h
    rw [m_X6_mixLevel_p92] at h
    cases h
  | succ t ih =>
    intro w a0 a3 a4 a6 a7 h
    rw [m_X6_mixLevel_p92] at h
    refine v_iload C 4 dX6_mixLevel_92 rfl ?_
    refine v_iconst C (v := 4) dX6_mixLevel_94 (by decide) ?_
    refine v_icmp_ge C (tgt := 123) dX6_mixLevel_95 (by decide) (fun q => ?_) (fun q => ?_)
    · have h := ite_t q h
      refine v_iinc C (k := 3) (v := (a6 + 1)) (lv' := [(6, .int (a6 + 1)), (0, .ref a0), (3, .int a3), (4, .long a4), (7, .int a7)]) dX6_mixLevel_123 rfl rfl (by decide) rfl ?_
      refine v_goto C (tgt := 38) dX6_mixLevel_126 (by decide) ?_
      refine v_sub [1, 2, 3, 0] rfl ?_
      exact H38 _ _ _ _ _ h
    · have h := ite_f q h
      refine v_ldc2 C dX6_mixLevel_98 cX6_mixLevel_270 ?_
      refine v_lload C 2 dX6_mixLevel_101 rfl ?_
      refine v_lmul C dX6_mixLevel_103 ?_
      refine v_aload_n C 0 dX6_mixLevel_104 rfl rfl ?_
      refine v_iload_n C 1 dX6_mixLevel_105 rfl rfl ?_
      refine v_iload C 3 dX6_mixLevel_106 rfl ?_
      refine v_iload C 4 dX6_mixLevel_108 rfl ?_
      refine v_at (pc' := 110) rfl ?_
      obtain ⟨u1, e_u1, h⟩ := bnd h
      obtain ⟨x2, e_x2, h⟩ := bnd h
      refine v_callVi C (ci := 5) (av := [.int a3, .int a6, .int a7]) (rest := [.long (31 * a4)]) rfl gX6_mixLevel_X6_child rfl ⟨rfl, rfl⟩ hV_X6_child ⟨(Nat.le_of_ble_eq_true rfl), (Nat.le_of_ble_eq_true rfl)⟩ e_u1 (r_X6_child (A := A) e_x2) rfl rfl (Nat.le_of_ble_eq_true rfl) dX6_mixLevel_110 ?_
      refine v_i2l C dX6_mixLevel_113 ?_
      refine v_ladd C dX6_mixLevel_114 ?_
      refine v_lstore C (lv' := [(4, .long ((31 * a4) + (Int32.toInt64 x2))), (0, .ref a0), (3, .int a3), (6, .int a6), (7, .int a7)]) dX6_mixLevel_115 (by decide) rfl ?_
      refine v_iinc C (k := 4) (v := (a7 + 1)) (lv' := [(7, .int (a7 + 1)), (4, .long ((31 * a4) + (Int32.toInt64 x2))), (0, .ref a0), (3, .int a3), (6, .int a6)]) dX6_mixLevel_117 rfl rfl (by decide) rfl ?_
      refine v_goto C (tgt := 92) dX6_mixLevel_120 (by decide) ?_
      refine v_sub [2, 3, 1, 4, 0] rfl ?_
      exact ih _ _ _ _ _ _ h
set_option maxRecDepth 100000 in
set_option maxHeartbeats 4000000 in
theorem r_X6_mixLevel_p89 {p : Program} {l : Launch} {e : Env} {s : State} {m : MethodId} {args : Array Value} {below : List Frame} {meth : Method} {c : Code} {G : GG} {A : Nat → Prop} (C : Cx p s m args meth c G A cX6_mixLevel 8 RX6 wsX6_mixLevel (some .long)) (n : Nat) {k38 : Wd → Nat → Int32 → Int64 → Int32 → Option Int64} {z : Int64} (H38 : ∀ (w : Wd) (b0 : Nat) (b3 : Int32) (b4 : Int64) (b6 : Int32), k38 w b0 b3 b4 b6 = some z → V p l e { frames := 6, cells := 0, slots := 0, locals := 136 } s m args below meth c G A 8 38 [(0, .ref b0), (3, .int b3), (4, .long b4), (6, .int b6)] [] w (some (.long z)) w) : ∀ (w : Wd) (a0 : Nat) (a3 : Int32) (a4 : Int64) (a6 : Int32), m_X6_mixLevel_p89 n k38 w a0 a3 a4 a6 = some z → V p l e { frames := 6, cells := 0, slots := 0, locals := 136 } s m args below meth c G A 8 89 [(0, .ref a0), (3, .int a3), (4, .long a4), (6, .int a6)] [] w (some (.long z)) w := by
  intro w a0 a3 a4 a6 h
  unfold m_X6_mixLevel_p89 at h
  refine v_iconst C (v := 0) dX6_mixLevel_89 (by decide) ?_
  refine v_istore C (lv' := [(7, .int 0), (0, .ref a0), (3, .int a3), (4, .long a4), (6, .int a6)]) dX6_mixLevel_90 (by decide) rfl ?_
  refine v_sub [1, 2, 3, 4, 0] rfl ?_
  exact r_X6_mixLevel_p92 C n H38 n _ _ _ _ _ _ h
set_option maxRecDepth 100000 in
set_option maxHeartbeats 4000000 in
theorem r_X6_mixLevel_p58 {p : Program} {l : Launch} {e : Env} {s : State} {m : MethodId} {args : Array Value} {below : List Frame} {meth : Method} {c : Code} {G : GG} {A : Nat → Prop} (C : Cx p s m args meth c G A cX6_mixLevel 8 RX6 wsX6_mixLevel (some .long)) (n : Nat) {k38 : Wd → Nat → Int32 → Int64 → Int32 → Option Int64} {z : Int64} (H38 : ∀ (w : Wd) (b0 : Nat) (b3 : Int32) (b4 : Int64) (b6 : Int32), k38 w b0 b3 b4 b6 = some z → V p l e { frames := 6, cells := 0, slots := 0, locals := 136 } s m args below meth c G A 8 38 [(0, .ref b0), (3, .int b3), (4, .long b4), (6, .int b6)] [] w (some (.long z)) w) : ∀ (t : Nat), ∀ (w : Wd) (a0 : Nat) (a3 : Int32) (a4 : Int64) (a6 : Int32) (a7 : Int32), m_X6_mixLevel_p58 n k38 t w a0 a3 a4 a6 a7 = some z → V p l e { frames := 6, cells := 0, slots := 0, locals := 136 } s m args below meth c G A 8 58 [(0, .ref a0), (3, .int a3), (4, .long a4), (6, .int a6), (7, .int a7)] [] w (some (.long z)) w := by
  intro t
  induction t with
  | zero =>
    intro w a0 a3 a4 a6 a7 h
    rw [m_X6_mixLevel_p58] at h
    cases h
  | succ t ih =>
    intro w a0 a3 a4 a6 a7 h
    rw [m_X6_mixLevel_p58] at h
    refine v_iload C 4 dX6_mixLevel_58 rfl ?_
    refine v_iconst C (v := 5) dX6_mixLevel_60 (by decide) ?_
    refine v_icmp_gt C (tgt := 89) dX6_mixLevel_61 (by decide) (fun q => ?_) (fun q => ?_)
    · have h := ite_t q h
      refine v_sub [0, 1, 2, 3] rfl ?_
      exact r_X6_mixLevel_p89 C n H38 _ _ _ _ _ h
    · have h := ite_f q h
      refine v_ldc2 C dX6_mixLevel_64 cX6_mixLevel_270 ?_
      refine v_lload C 2 dX6_mixLevel_67 rfl ?_
      refine v_lmul C dX6_mixLevel_69 ?_
      refine v_aload_n C 0 dX6_mixLevel_70 rfl rfl ?_
      refine v_iload_n C 1 dX6_mixLevel_71 rfl rfl ?_
      refine v_iload C 3 dX6_mixLevel_72 rfl ?_
      refine v_iload C 4 dX6_mixLevel_74 rfl ?_
      refine v_at (pc' := 76) rfl ?_
      obtain ⟨u1, e_u1, h⟩ := bnd h
      obtain ⟨x2, e_x2, h⟩ := bnd h
      refine v_callVi C (ci := 5) (av := [.int a3, .int a6, .int a7]) (rest := [.long (31 * a4)]) rfl gX6_mixLevel_X6_node rfl ⟨rfl, rfl⟩ hV_X6_node ⟨(Nat.le_of_ble_eq_true rfl), (Nat.le_of_ble_eq_true rfl)⟩ e_u1 (r_X6_node (A := A) e_x2) rfl rfl (Nat.le_of_ble_eq_true rfl) dX6_mixLevel_76 ?_
      refine v_i2l C dX6_mixLevel_79 ?_
      refine v_ladd C dX6_mixLevel_80 ?_
      refine v_lstore C (lv' := [(4, .long ((31 * a4) + (Int32.toInt64 x2))), (0, .ref a0), (3, .int a3), (6, .int a6), (7, .int a7)]) dX6_mixLevel_81 (by decide) rfl ?_
      refine v_iinc C (k := 4) (v := (a7 + 1)) (lv' := [(7, .int (a7 + 1)), (4, .long ((31 * a4) + (Int32.toInt64 x2))), (0, .ref a0), (3, .int a3), (6, .int a6)]) dX6_mixLevel_83 rfl rfl (by decide) rfl ?_
      refine v_goto C (tgt := 58) dX6_mixLevel_86 (by decide) ?_
      refine v_sub [2, 3, 1, 4, 0] rfl ?_
      exact ih _ _ _ _ _ _ h
set_option maxRecDepth 100000 in
set_option maxHeartbeats 4000000 in
theorem r_X6_mixLevel_p38 {p : Program} {l : Launch} {e : Env} {s : State} {m : MethodId} {args : Array Value} {below : List Frame} {meth : Method} {c : Code} {G : GG} {A : Nat → Prop} (C : Cx p s m args meth c G A cX6_mixLevel 8 RX6 wsX6_mixLevel (some .long)) (n : Nat) {z : Int64} : ∀ (t : Nat), ∀ (w : Wd) (a0 : Nat) (a3 : Int32) (a4 : Int64) (a6 : Int32), m_X6_mixLevel_p38 n t w a0 a3 a4 a6 = some z → V p l e { frames := 6, cells := 0, slots := 0, locals := 136 } s m args below meth c G A 8 38 [(0, .ref a0), (3, .int a3), (4, .long a4), (6, .int a6)] [] w (some (.long z)) w := by
  intro t
  induction t with
  | zero =>
    intro w a0 a3 a4 a6 h
    rw [m_X6_mixLevel_p38] at h
    cases h
  | succ t ih =>
    intro w a0 a3 a4 a6 h
    rw [m_X6_mixLevel_p38] at h
    refine v_iload C 3 dX6_mixLevel_38 rfl ?_
    refine v_aload_n C 0 dX6_mixLevel_40 rfl rfl ?_
    obtain ⟨q1, e_q1, h⟩ := bnd h
    refine v_getf C (ci := 5) (k := 3) rfl inX6_mixLevel_X6 (by decide) fX6_mixLevel_33 dX6_mixLevel_41 (gfR_e e_q1) ?_
    obtain ⟨q2, e_q2, h⟩ := bnd h
    refine v_getf C (ci := 0) (k := 0) rfl inX6_mixLevel_X0 (by decide) fX6_mixLevel_126 dX6_mixLevel_44 (gfR_e e_q2) ?_
    refine v_iload_n C 1 dX6_mixLevel_47 rfl rfl ?_
    obtain ⟨q3, e_q3, h⟩ := bnd h
    refine v_aald3 C dX6_mixLevel_48 e_q3 ?_
    obtain ⟨x4, e_x4, h⟩ := bnd h
    refine v_getf C (ci := 1) (k := 3) rfl inX6_mixLevel_X1 (by decide) fX6_mixLevel_136 dX6_mixLevel_49 (gfI_e e_x4) ?_
    refine v_at (pc' := 52) rfl ?_
    refine v_icmp_ge C (tgt := 129) dX6_mixLevel_52 (by decide) (fun q => ?_) (fun q => ?_)
    · have h := ite_t q h
      refine v_lload C 2 dX6_mixLevel_129 rfl ?_
      obtain rfl := Option.some.inj h
      exact v_lret C dX6_mixLevel_131
    · have h := ite_f q h
      refine v_iconst C (v := 0) dX6_mixLevel_55 (by decide) ?_
      refine v_istore C (lv' := [(7, .int 0), (0, .ref a0), (3, .int a3), (4, .long a4), (6, .int a6)]) dX6_mixLevel_56 (by decide) rfl ?_
      refine v_sub [1, 2, 3, 4, 0] rfl ?_
      exact r_X6_mixLevel_p58 C n ih n _ _ _ _ _ _ h
set_option maxRecDepth 100000 in
set_option maxHeartbeats 4000000 in
theorem r_X6_mixLevel_p35 {p : Program} {l : Launch} {e : Env} {s : State} {m : MethodId} {args : Array Value} {below : List Frame} {meth : Method} {c : Code} {G : GG} {A : Nat → Prop} (C : Cx p s m args meth c G A cX6_mixLevel 8 RX6 wsX6_mixLevel (some .long)) (n : Nat) {z : Int64} : ∀ (w : Wd) (a0 : Nat) (a3 : Int32) (a4 : Int64), m_X6_mixLevel_p35 n w a0 a3 a4 = some z → V p l e { frames := 6, cells := 0, slots := 0, locals := 136 } s m args below meth c G A 8 35 [(0, .ref a0), (3, .int a3), (4, .long a4)] [] w (some (.long z)) w := by
  intro w a0 a3 a4 h
  unfold m_X6_mixLevel_p35 at h
  refine v_iconst C (v := 0) dX6_mixLevel_35 (by decide) ?_
  refine v_istore C (lv' := [(6, .int 0), (0, .ref a0), (3, .int a3), (4, .long a4)]) dX6_mixLevel_36 (by decide) rfl ?_
  refine v_sub [1, 2, 3, 0] rfl ?_
  exact r_X6_mixLevel_p38 C n n _ _ _ _ _ h
set_option maxRecDepth 100000 in
set_option maxHeartbeats 4000000 in
theorem r_X6_mixLevel_p6 {p : Program} {l : Launch} {e : Env} {s : State} {m : MethodId} {args : Array Value} {below : List Frame} {meth : Method} {c : Code} {G : GG} {A : Nat → Prop} (C : Cx p s m args meth c G A cX6_mixLevel 8 RX6 wsX6_mixLevel (some .long)) (n : Nat) {z : Int64} : ∀ (t : Nat), ∀ (w : Wd) (a0 : Nat) (a3 : Int32) (a4 : Int64) (a6 : Int32), m_X6_mixLevel_p6 n t w a0 a3 a4 a6 = some z → V p l e { frames := 6, cells := 0, slots := 0, locals := 136 } s m args below meth c G A 8 6 [(0, .ref a0), (3, .int a3), (4, .long a4), (6, .int a6)] [] w (some (.long z)) w := by
  intro t
  induction t with
  | zero =>
    intro w a0 a3 a4 a6 h
    rw [m_X6_mixLevel_p6] at h
    cases h
  | succ t ih =>
    intro w a0 a3 a4 a6 h
    rw [m_X6_mixLevel_p6] at h
    refine v_iload C 3 dX6_mixLevel_6 rfl ?_
    refine v_iconst C (v := 4) dX6_mixLevel_8 (by decide) ?_
    refine v_icmp_gt C (tgt := 35) dX6_mixLevel_9 (by decide) (fun q => ?_) (fun q => ?_)
    · have h := ite_t q h
      refine v_sub [0, 1, 2] rfl ?_
      exact r_X6_mixLevel_p35 C n _ _ _ _ h
    · have h := ite_f q h
      refine v_ldc2 C dX6_mixLevel_12 cX6_mixLevel_270 ?_
      refine v_lload C 2 dX6_mixLevel_15 rfl ?_
      refine v_lmul C dX6_mixLevel_17 ?_
      refine v_aload_n C 0 dX6_mixLevel_18 rfl rfl ?_
      refine v_iload_n C 1 dX6_mixLevel_19 rfl rfl ?_
      refine v_iload C 3 dX6_mixLevel_20 rfl ?_
      obtain ⟨u1, e_u1, h⟩ := bnd h
      obtain ⟨x2, e_x2, h⟩ := bnd h
      refine v_callVi C (ci := 5) (av := [.int a3, .int a6]) (rest := [.long (31 * a4)]) rfl gX6_mixLevel_X6_level rfl ⟨rfl, rfl⟩ hV_X6_level ⟨(Nat.le_of_ble_eq_true rfl), (Nat.le_of_ble_eq_true rfl)⟩ e_u1 (r_X6_level (A := A) e_x2) rfl rfl (Nat.le_of_ble_eq_true rfl) dX6_mixLevel_22 ?_
      refine v_at (pc' := 25) rfl ?_
      refine v_i2l C dX6_mixLevel_25 ?_
      refine v_ladd C dX6_mixLevel_26 ?_
      refine v_lstore C (lv' := [(4, .long ((31 * a4) + (Int32.toInt64 x2))), (0, .ref a0), (3, .int a3), (6, .int a6)]) dX6_mixLevel_27 (by decide) rfl ?_
      refine v_iinc C (k := 3) (v := (a6 + 1)) (lv' := [(6, .int (a6 + 1)), (4, .long ((31 * a4) + (Int32.toInt64 x2))), (0, .ref a0), (3, .int a3)]) dX6_mixLevel_29 rfl rfl (by decide) rfl ?_
      refine v_goto C (tgt := 6) dX6_mixLevel_32 (by decide) ?_
      refine v_sub [2, 3, 1, 0] rfl ?_
      exact ih _ _ _ _ _ h
set_option maxRecDepth 100000 in
set_option maxHeartbeats 4000000 in
theorem r_X6_mixLevel {l : Launch} {G : GG} {A : Nat → Prop} {n : Nat} {w : Wd} {this : Nat} {a1 : Int64} {a3 : Int32} {z : Int64} (h : m_X6_mixLevel n w this a1 a3 = some z) : Con l yX6_mixLevel wsX6_mixLevel { frames := 6, cells := 0, slots := 0, locals := 136 } G A [.ref this, .long a1, .int a3] w (some (.long z)) w := by
  refine Con.of (own := RX6) (cc := cX6_mixLevel) (maxL := 8) (ret := (some .long)) rfl (by decide) rfl (Nat.le_of_ble_eq_true rfl) ?_
  intro p e s m args below meth c C
  show V p l e { frames := 6, cells := 0, slots := 0, locals := 136 } s m args below meth c G A 8 0 [(0, .ref this), (1, .long a1), (3, .int a3)] [] w (some (.long z)) w
  unfold m_X6_mixLevel at h
  refine v_lload_n C 1 dX6_mixLevel_0 rfl rfl ?_
  refine v_lstore C (lv' := [(4, .long a1), (0, .ref this), (1, .long a1), (3, .int a3)]) dX6_mixLevel_1 (by decide) rfl ?_
  refine v_iconst C (v := 0) dX6_mixLevel_3 (by decide) ?_
  refine v_istore C (lv' := [(6, .int 0), (4, .long a1), (0, .ref this), (1, .long a1), (3, .int a3)]) dX6_mixLevel_4 (by decide) rfl ?_
  refine v_sub [2, 4, 1, 0] rfl ?_
  exact r_X6_mixLevel_p6 C n n _ _ _ _ _ h
theorem cX6_mixPoints_270 : Cond.constantLong RX6 270 (31) ∈ wsX6_mixPoints := by decide +kernel
theorem hV_X6_point : yX6_point.cls = RX6 ∧ yX6_point.cls ≠ "java/lang/invoke/MethodHandle" ∧ yX6_point.cls ≠ "java/lang/invoke/VarHandle" ∧ (parseMethodDescriptor yX6_point.desc).map (fun d => d.parameters.length) = some 2 := by decide +kernel
set_option maxRecDepth 100000 in
set_option maxHeartbeats 4000000 in
theorem r_X6_mixPoints_p15 {p : Program} {l : Launch} {e : Env} {s : State} {m : MethodId} {args : Array Value} {below : List Frame} {meth : Method} {c : Code} {G : GG} {A : Nat → Prop} (C : Cx p s m args meth c G A cX6_mixPoints 7 RX6 wsX6_mixPoints (some .long)) (n : Nat) {k5 : Wd → Nat → Int64 → Int32 → Option Int64} {z : Int64} (H5 : ∀ (w : Wd) (b0 : Nat) (b3 : Int64) (b5 : Int32), k5 w b0 b3 b5 = some z → V p l e { frames := 3, cells := 0, slots := 0, locals := 67 } s m args below meth c G A 7 5 [(0, .ref b0), (3, .long b3), (5, .int b5)] [] w (some (.long z)) w) : ∀ (t : Nat), ∀ (w : Wd) (a0 : Nat) (a3 : Int64) (a5 : Int32) (a6 : Int32), m_X6_mixPoints_p15 n k5 t w a0 a3 a5 a6 = some z → V p l e { frames := 3, cells := 0, slots := 0, locals := 67 } s m args below meth c G A 7 15 [(0, .ref a0), (3, .long a3), (5, .int a5), (6, .int a6)] [] w (some (.long z)) w := by
  intro t
  induction t with
  | zero =>
    intro w a0 a3 a5 a6 h
    rw [m_X6_mixPoints_p15] at h
    cases h
  | succ t ih =>
    intro w a0 a3 a5 a6 h
    rw [m_X6_mixPoints_p15] at h
    refine v_iload C 3 dX6_mixPoints_15 rfl ?_
    refine v_iconst C (v := 5) dX6_mixPoints_17 (by decide) ?_
    refine v_icmp_gt C (tgt := 43) dX6_mixPoints_18 (by decide) (fun q => ?_) (fun q => ?_)
    · have h := ite_t q h
      refine v_iinc C (k := 2) (v := (a5 + 1)) (lv' := [(5, .int (a5 + 1)), (0, .ref a0), (3, .long a3), (6, .int a6)]) dX6_mixPoints_43 rfl rfl (by decide) rfl ?_
      refine v_goto C (tgt := 5) dX6_mixPoints_46 (by decide) ?_
      refine v_sub [1, 2, 0] rfl ?_
      exact H5 _ _ _ _ h
    · have h := ite_f q h
      refine v_ldc2 C dX6_mixPoints_21 cX6_mixPoints_270 ?_
      refine v_lload_n C 1 dX6_mixPoints_24 rfl rfl ?_
      refine v_lmul C dX6_mixPoints_25 ?_
      refine v_aload_n C 0 dX6_mixPoints_26 rfl rfl ?_
      refine v_iload C 2 dX6_mixPoints_27 rfl ?_
      refine v_iload C 3 dX6_mixPoints_29 rfl ?_
      obtain ⟨u1, e_u1, h⟩ := bnd h
      obtain ⟨x2, e_x2, h⟩ := bnd h
      refine v_callVi C (ci := 5) (av := [.int a5, .int a6]) (rest := [.long (31 * a3)]) rfl gX6_mixPoints_X6_point rfl ⟨rfl, rfl⟩ hV_X6_point ⟨(Nat.le_of_ble_eq_true rfl), (Nat.le_of_ble_eq_true rfl)⟩ e_u1 (r_X6_point (A := A) e_x2) rfl rfl (Nat.le_of_ble_eq_true rfl) dX6_mixPoints_31 ?_
      refine v_at (pc' := 34) rfl ?_
      refine v_i2l C dX6_mixPoints_34 ?_
      refine v_ladd C dX6_mixPoints_35 ?_
      refine v_lstore_n C (lv' := [(3, .long ((31 * a3) + (Int32.toInt64 x2))), (0, .ref a0), (5, .int a5), (6, .int a6)]) dX6_mixPoints_36 rfl (by decide) rfl ?_
      refine v_iinc C (k := 3) (v := (a6 + 1)) (lv' := [(6, .int (a6 + 1)), (3, .long ((31 * a3) + (Int32.toInt64 x2))), (0, .ref a0), (5, .int a5)]) dX6_mixPoints_37 rfl rfl (by decide) rfl ?_
      refine v_goto C (tgt := 15) dX6_mixPoints_40 (by decide) ?_
      refine v_sub [2, 1, 3, 0] rfl ?_
      exact ih _ _ _ _ _ h
set_option maxRecDepth 100000 in
set_option maxHeartbeats 4000000 in
theorem r_X6_mixPoints_p5 {p : Program} {l : Launch} {e : Env} {s : State} {m : MethodId} {args : Array Value} {below : List Frame} {meth : Method} {c : Code} {G : GG} {A : Nat → Prop} (C : Cx p s m args meth c G A cX6_mixPoints 7 RX6 wsX6_mixPoints (some .long)) (n : Nat) {z : Int64} : ∀ (t : Nat), ∀ (w : Wd) (a0 : Nat) (a3 : Int64) (a5 : Int32), m_X6_mixPoints_p5 n t w a0 a3 a5 = some z → V p l e { frames := 3, cells := 0, slots := 0, locals := 67 } s m args below meth c G A 7 5 [(0, .ref a0), (3, .long a3), (5, .int a5)] [] w (some (.long z)) w := by
  intro t
  induction t with
  | zero =>
    intro w a0 a3 a5 h
    rw [m_X6_mixPoints_p5] at h
    cases h
  | succ t ih =>
    intro w a0 a3 a5 h
    rw [m_X6_mixPoints_p5] at h
    refine v_iload C 2 dX6_mixPoints_5 rfl ?_
    refine v_bipush C (v := 24) dX6_mixPoints_7 (by decide) ?_
    refine v_icmp_ge C (tgt := 49) dX6_mixPoints_9 (by decide) (fun q => ?_) (fun q => ?_)
    · have h := ite_t q h
      refine v_lload_n C 1 dX6_mixPoints_49 rfl rfl ?_
      obtain rfl := Option.some.inj h
      exact v_lret C dX6_mixPoints_50
    · have h := ite_f q h
      refine v_iconst C (v := 0) dX6_mixPoints_12 (by decide) ?_
      refine v_istore C (lv' := [(6, .int 0), (0, .ref a0), (3, .long a3), (5, .int a5)]) dX6_mixPoints_13 (by decide) rfl ?_
      refine v_sub [1, 2, 3, 0] rfl ?_
      exact r_X6_mixPoints_p15 C n ih n _ _ _ _ _ h
set_option maxRecDepth 100000 in
set_option maxHeartbeats 4000000 in
theorem r_X6_mixPoints {l : Launch} {G : GG} {A : Nat → Prop} {n : Nat} {w : Wd} {this : Nat} {a1 : Int64} {z : Int64} (h : m_X6_mixPoints n w this a1 = some z) : Con l yX6_mixPoints wsX6_mixPoints { frames := 3, cells := 0, slots := 0, locals := 67 } G A [.ref this, .long a1] w (some (.long z)) w := by
  refine Con.of (own := RX6) (cc := cX6_mixPoints) (maxL := 7) (ret := (some .long)) rfl (by decide) rfl (Nat.le_of_ble_eq_true rfl) ?_
  intro p e s m args below meth c C
  show V p l e { frames := 3, cells := 0, slots := 0, locals := 67 } s m args below meth c G A 7 0 [(0, .ref this), (1, .long a1)] [] w (some (.long z)) w
  unfold m_X6_mixPoints at h
  refine v_lload_n C 1 dX6_mixPoints_0 rfl rfl ?_
  refine v_lstore_n C (lv' := [(3, .long a1), (0, .ref this), (1, .long a1)]) dX6_mixPoints_1 rfl (by decide) rfl ?_
  refine v_iconst C (v := 0) dX6_mixPoints_2 (by decide) ?_
  refine v_istore C (lv' := [(5, .int 0), (3, .long a1), (0, .ref this), (1, .long a1)]) dX6_mixPoints_3 (by decide) rfl ?_
  refine v_sub [2, 1, 0] rfl ?_
  exact r_X6_mixPoints_p5 C n n _ _ _ _ h
theorem cX6_digest_270 : Cond.constantLong RX6 270 (31) ∈ wsX6_digest := by decide +kernel
theorem hV_X6_closest : yX6_closest.cls = RX6 ∧ yX6_closest.cls ≠ "java/lang/invoke/MethodHandle" ∧ yX6_closest.cls ≠ "java/lang/invoke/VarHandle" ∧ (parseMethodDescriptor yX6_closest.desc).map (fun d => d.parameters.length) = some 1 := by decide +kernel
theorem hV_X6_worst : yX6_worst.cls = RX6 ∧ yX6_worst.cls ≠ "java/lang/invoke/MethodHandle" ∧ yX6_worst.cls ≠ "java/lang/invoke/VarHandle" ∧ (parseMethodDescriptor yX6_worst.desc).map (fun d => d.parameters.length) = some 1 := by decide +kernel
theorem hV_X6_mixCursors : yX6_mixCursors.cls = RX6 ∧ yX6_mixCursors.cls ≠ "java/lang/invoke/MethodHandle" ∧ yX6_mixCursors.cls ≠ "java/lang/invoke/VarHandle" ∧ (parseMethodDescriptor yX6_mixCursors.desc).map (fun d => d.parameters.length) = some 1 := by decide +kernel
theorem hV_X6_mixLevel : yX6_mixLevel.cls = RX6 ∧ yX6_mixLevel.cls ≠ "java/lang/invoke/MethodHandle" ∧ yX6_mixLevel.cls ≠ "java/lang/invoke/VarHandle" ∧ (parseMethodDescriptor yX6_mixLevel.desc).map (fun d => d.parameters.length) = some 2 := by decide +kernel
theorem cX6_digest_268 : Cond.constantLong RX6 268 (19606) ∈ wsX6_digest := by decide +kernel
theorem fX6_digest_19 : Cond.fieldLink RX6 19 (TX6 1).1 (TX6 1).2.1 (TX6 1).2.2.1 ∈ wsX6_digest := by decide +kernel
theorem inX6_digest_X6 : ∀ x ∈ u_ws RX6 TX6 5, x ∈ wsX6_digest := by decide +kernel
theorem fX6_digest_263 : Cond.fieldLink RX6 263 (TX5 2).1 (TX5 2).2.1 (TX5 2).2.2.1 ∈ wsX6_digest := by decide +kernel
theorem inX6_digest_X5 : ∀ x ∈ u_ws RX5 TX5 3, x ∈ wsX6_digest := by decide +kernel
theorem fX6_digest_26 : Cond.fieldLink RX6 26 (TX6 2).1 (TX6 2).2.1 (TX6 2).2.2.1 ∈ wsX6_digest := by decide +kernel
theorem fX6_digest_233 : Cond.fieldLink RX6 233 (TX2 1).1 (TX2 1).2.1 (TX2 1).2.2.1 ∈ wsX6_digest := by decide +kernel
theorem inX6_digest_X2 : ∀ x ∈ u_ws RX2 TX2 6, x ∈ wsX6_digest := by decide +kernel
theorem hV_X6_time : yX6_time.cls = RX6 ∧ yX6_time.cls ≠ "java/lang/invoke/MethodHandle" ∧ yX6_time.cls ≠ "java/lang/invoke/VarHandle" ∧ (parseMethodDescriptor yX6_time.desc).map (fun d => d.parameters.length) = some 0 := by decide +kernel
theorem hV_X6_mixPoints : yX6_mixPoints.cls = RX6 ∧ yX6_mixPoints.cls ≠ "java/lang/invoke/MethodHandle" ∧ yX6_mixPoints.cls ≠ "java/lang/invoke/VarHandle" ∧ (parseMethodDescriptor yX6_mixPoints.desc).map (fun d => d.parameters.length) = some 1 := by decide +kernel
set_option maxRecDepth 100000 in
set_option maxHeartbeats 4000000 in
theorem r_X6_digest_p106 {p : Program} {l : Launch} {e : Env} {s : State} {m : MethodId} {args : Array Value} {below : List Frame} {meth : Method} {c : Code} {G : GG} {A : Nat → Prop} (C : Cx p s m args meth c G A cX6_digest 4 RX6 wsX6_digest (some .long)) (n : Nat) {z : Int64} : ∀ (t : Nat), ∀ (w : Wd) (a0 : Nat) (a1 : Int64) (a3 : Int32), m_X6_digest_p106 n t w a0 a1 a3 = some z → V p l e { frames := 7, cells := 0, slots := 0, locals := 166 } s m args below meth c G A 4 106 [(0, .ref a0), (1, .long a1), (3, .int a3)] [] w (some (.long z)) w := by
  intro t
  induction t with
  | zero =>
    intro w a0 a1 a3 h
    rw [m_X6_digest_p106] at h
    cases h
  | succ t ih =>
    intro w a0 a1 a3 h
    rw [m_X6_digest_p106] at h
    refine v_iload_n C 2 dX6_digest_106 rfl rfl ?_
    refine v_iconst C (v := 2) dX6_digest_107 (by decide) ?_
    refine v_icmp_gt C (tgt := 130) dX6_digest_108 (by decide) (fun q => ?_) (fun q => ?_)
    · have h := ite_t q h
      refine v_lload_n C 1 dX6_digest_130 rfl rfl ?_
      obtain rfl := Option.some.inj h
      exact v_lret C dX6_digest_131
    · have h := ite_f q h
      refine v_ldc2 C dX6_digest_111 cX6_digest_270 ?_
      refine v_lload_n C 1 dX6_digest_114 rfl rfl ?_
      refine v_lmul C dX6_digest_115 ?_
      refine v_aload_n C 0 dX6_digest_116 rfl rfl ?_
      refine v_iload_n C 2 dX6_digest_117 rfl rfl ?_
      obtain ⟨u1, e_u1, h⟩ := bnd h
      obtain ⟨x2, e_x2, h⟩ := bnd h
      refine v_callVi C (ci := 5) (av := [.int a3]) (rest := [.long (31 * a1)]) rfl gX6_digest_X6_closest rfl ⟨rfl, rfl⟩ hV_X6_closest ⟨(Nat.le_of_ble_eq_true rfl), (Nat.le_of_ble_eq_true rfl)⟩ e_u1 (r_X6_closest (A := A) e_x2) rfl rfl (Nat.le_of_ble_eq_true rfl) dX6_digest_118 ?_
      refine v_i2l C dX6_digest_121 ?_
      refine v_at (pc' := 122) rfl ?_
      refine v_ladd C dX6_digest_122 ?_
      refine v_lstore_n C (lv' := [(1, .long ((31 * a1) + (Int32.toInt64 x2))), (0, .ref a0), (3, .int a3)]) dX6_digest_123 rfl (by decide) rfl ?_
      refine v_iinc C (k := 2) (v := (a3 + 1)) (lv' := [(3, .int (a3 + 1)), (1, .long ((31 * a1) + (Int32.toInt64 x2))), (0, .ref a0)]) dX6_digest_124 rfl rfl (by decide) rfl ?_
      refine v_goto C (tgt := 106) dX6_digest_127 (by decide) ?_
      refine v_sub [2, 1, 0] rfl ?_
      exact ih _ _ _ _ h
set_option maxRecDepth 100000 in
set_option maxHeartbeats 4000000 in
theorem r_X6_digest_p72 {p : Program} {l : Launch} {e : Env} {s : State} {m : MethodId} {args : Array Value} {below : List Frame} {meth : Method} {c : Code} {G : GG} {A : Nat → Prop} (C : Cx p s m args meth c G A cX6_digest 4 RX6 wsX6_digest (some .long)) (n : Nat) {z : Int64} : ∀ (w : Wd) (a0 : Nat) (a1 : Int64), m_X6_digest_p72 n w a0 a1 = some z → V p l e { frames := 7, cells := 0, slots := 0, locals := 166 } s m args below meth c G A 4 72 [(0, .ref a0), (1, .long a1)] [] w (some (.long z)) w := by
  intro w a0 a1 h
  unfold m_X6_digest_p72 at h
  refine v_ldc2 C dX6_digest_72 cX6_digest_270 ?_
  refine v_lload_n C 1 dX6_digest_75 rfl rfl ?_
  refine v_lmul C dX6_digest_76 ?_
  refine v_aload_n C 0 dX6_digest_77 rfl rfl ?_
  refine v_iconst C (v := 1) dX6_digest_78 (by decide) ?_
  obtain ⟨u1, e_u1, h⟩ := bnd h
  obtain ⟨x2, e_x2, h⟩ := bnd h
  refine v_callVi C (ci := 5) (av := [.int 1]) (rest := [.long (31 * a1)]) rfl gX6_digest_X6_worst rfl ⟨rfl, rfl⟩ hV_X6_worst ⟨(Nat.le_of_ble_eq_true rfl), (Nat.le_of_ble_eq_true rfl)⟩ e_u1 (r_X6_worst (A := A) e_x2) rfl rfl (Nat.le_of_ble_eq_true rfl) dX6_digest_79 ?_
  refine v_i2l C dX6_digest_82 ?_
  refine v_at (pc' := 83) rfl ?_
  refine v_ladd C dX6_digest_83 ?_
  refine v_lstore_n C (lv' := [(1, .long ((31 * a1) + (Int32.toInt64 x2))), (0, .ref a0)]) dX6_digest_84 rfl (by decide) rfl ?_
  refine v_ldc2 C dX6_digest_85 cX6_digest_270 ?_
  refine v_lload_n C 0 dX6_digest_88 rfl rfl ?_
  refine v_lmul C dX6_digest_89 ?_
  refine v_aload_n C 1 dX6_digest_90 rfl rfl ?_
  refine v_iconst C (v := 0) dX6_digest_91 (by decide) ?_
  obtain ⟨u3, e_u3, h⟩ := bnd h
  obtain ⟨x4, e_x4, h⟩ := bnd h
  refine v_callVi C (ci := 5) (av := [.int 0]) (rest := [.long (31 * ((31 * a1) + (Int32.toInt64 x2)))]) rfl gX6_digest_X6_worst rfl ⟨rfl, rfl⟩ hV_X6_worst ⟨(Nat.le_of_ble_eq_true rfl), (Nat.le_of_ble_eq_true rfl)⟩ e_u3 (r_X6_worst (A := A) e_x4) rfl rfl (Nat.le_of_ble_eq_true rfl) dX6_digest_92 ?_
  refine v_at (pc' := 95) rfl ?_
  refine v_i2l C dX6_digest_95 ?_
  refine v_ladd C dX6_digest_96 ?_
  refine v_lstore_n C (lv' := [(1, .long ((31 * ((31 * a1) + (Int32.toInt64 x2))) + (Int32.toInt64 x4))), (0, .ref a0)]) dX6_digest_97 rfl (by decide) rfl ?_
  refine v_aload_n C 1 dX6_digest_98 rfl rfl ?_
  refine v_lload_n C 0 dX6_digest_99 rfl rfl ?_
  obtain ⟨u5, e_u5, h⟩ := bnd h
  obtain ⟨z6, e_z6, h⟩ := bnd h
  refine v_callVJ C (ci := 5) (av := [.long ((31 * ((31 * a1) + (Int32.toInt64 x2))) + (Int32.toInt64 x4))]) (rest := []) rfl gX6_digest_X6_mixCursors rfl ⟨rfl, rfl⟩ hV_X6_mixCursors ⟨(Nat.le_of_ble_eq_true rfl), (Nat.le_of_ble_eq_true rfl)⟩ e_u5 (r_X6_mixCursors (A := A) e_z6) rfl rfl (Nat.le_of_ble_eq_true rfl) dX6_digest_100 ?_
  refine v_lstore_n C (lv' := [(1, .long z6), (0, .ref a0)]) dX6_digest_103 rfl (by decide) rfl ?_
  refine v_iconst C (v := 0) dX6_digest_104 (by decide) ?_
  refine v_at (pc' := 105) rfl ?_
  refine v_istore_n C (lv' := [(3, .int 0), (1, .long z6), (0, .ref a0)]) dX6_digest_105 rfl (by decide) rfl ?_
  refine v_sub [2, 1, 0] rfl ?_
  exact r_X6_digest_p106 C n n _ _ _ _ h
set_option maxRecDepth 100000 in
set_option maxHeartbeats 4000000 in
theorem r_X6_digest_p54 {p : Program} {l : Launch} {e : Env} {s : State} {m : MethodId} {args : Array Value} {below : List Frame} {meth : Method} {c : Code} {G : GG} {A : Nat → Prop} (C : Cx p s m args meth c G A cX6_digest 4 RX6 wsX6_digest (some .long)) (n : Nat) {z : Int64} : ∀ (t : Nat), ∀ (w : Wd) (a0 : Nat) (a1 : Int64) (a3 : Int32), m_X6_digest_p54 n t w a0 a1 a3 = some z → V p l e { frames := 7, cells := 0, slots := 0, locals := 166 } s m args below meth c G A 4 54 [(0, .ref a0), (1, .long a1), (3, .int a3)] [] w (some (.long z)) w := by
  intro t
  induction t with
  | zero =>
    intro w a0 a1 a3 h
    rw [m_X6_digest_p54] at h
    cases h
  | succ t ih =>
    intro w a0 a1 a3 h
    rw [m_X6_digest_p54] at h
    refine v_iload_n C 2 dX6_digest_54 rfl rfl ?_
    refine v_iconst C (v := 5) dX6_digest_55 (by decide) ?_
    refine v_icmp_ge C (tgt := 72) dX6_digest_56 (by decide) (fun q => ?_) (fun q => ?_)
    · have h := ite_t q h
      refine v_sub [0, 1] rfl ?_
      exact r_X6_digest_p72 C n _ _ _ h
    · have h := ite_f q h
      refine v_aload_n C 0 dX6_digest_59 rfl rfl ?_
      refine v_lload_n C 1 dX6_digest_60 rfl rfl ?_
      refine v_iload_n C 2 dX6_digest_61 rfl rfl ?_
      obtain ⟨u1, e_u1, h⟩ := bnd h
      obtain ⟨z2, e_z2, h⟩ := bnd h
      refine v_callVJ C (ci := 5) (av := [.long a1, .int a3]) (rest := []) rfl gX6_digest_X6_mixLevel rfl ⟨rfl, rfl⟩ hV_X6_mixLevel ⟨(Nat.le_of_ble_eq_true rfl), (Nat.le_of_ble_eq_true rfl)⟩ e_u1 (r_X6_mixLevel (A := A) e_z2) rfl rfl (Nat.le_of_ble_eq_true rfl) dX6_digest_62 ?_
      refine v_lstore_n C (lv' := [(1, .long z2), (0, .ref a0), (3, .int a3)]) dX6_digest_65 rfl (by decide) rfl ?_
      refine v_iinc C (k := 2) (v := (a3 + 1)) (lv' := [(3, .int (a3 + 1)), (1, .long z2), (0, .ref a0)]) dX6_digest_66 rfl rfl (by decide) rfl ?_
      refine v_goto C (tgt := 54) dX6_digest_69 (by decide) ?_
      refine v_sub [2, 1, 0] rfl ?_
      exact ih _ _ _ _ h
set_option maxRecDepth 100000 in
set_option maxHeartbeats 4000000 in
theorem r_X6_digest {l : Launch} {G : GG} {A : Nat → Prop} {n : Nat} {w : Wd} {this : Nat} {z : Int64} (h : m_X6_digest n w this = some z) : Con l yX6_digest wsX6_digest { frames := 7, cells := 0, slots := 0, locals := 166 } G A [.ref this] w (some (.long z)) w := by
  refine Con.of (own := RX6) (cc := cX6_digest) (maxL := 4) (ret := (some .long)) rfl (by decide) rfl (Nat.le_of_ble_eq_true rfl) ?_
  intro p e s m args below meth c C
  show V p l e { frames := 7, cells := 0, slots := 0, locals := 166 } s m args below meth c G A 4 0 [(0, .ref this)] [] w (some (.long z)) w
  unfold m_X6_digest at h
  refine v_ldc2 C dX6_digest_0 cX6_digest_268 ?_
  refine v_lstore_n C (lv' := [(1, .long 19606), (0, .ref this)]) dX6_digest_3 rfl (by decide) rfl ?_
  refine v_ldc2 C dX6_digest_4 cX6_digest_270 ?_
  refine v_lload_n C 0 dX6_digest_7 rfl rfl ?_
  refine v_lmul C dX6_digest_8 ?_
  refine v_aload_n C 1 dX6_digest_9 rfl rfl ?_
  obtain ⟨q1, e_q1, h⟩ := bnd h
  refine v_getf C (ci := 5) (k := 1) rfl inX6_digest_X6 (by decide) fX6_digest_19 dX6_digest_10 (gfR_e e_q1) ?_
  refine v_at (pc' := 13) rfl ?_
  obtain ⟨x2, e_x2, h⟩ := bnd h
  refine v_getf C (ci := 4) (k := 2) rfl inX6_digest_X5 (by decide) fX6_digest_263 dX6_digest_13 (gfI_e e_x2) ?_
  refine v_i2l C dX6_digest_16 ?_
  refine v_ladd C dX6_digest_17 ?_
  refine v_lstore_n C (lv' := [(1, .long ((31 * 19606) + (Int32.toInt64 x2))), (0, .ref this)]) dX6_digest_18 rfl (by decide) rfl ?_
  refine v_ldc2 C dX6_digest_19 cX6_digest_270 ?_
  refine v_lload_n C 0 dX6_digest_22 rfl rfl ?_
  refine v_lmul C dX6_digest_23 ?_
  refine v_aload_n C 1 dX6_digest_24 rfl rfl ?_
  refine v_at (pc' := 25) rfl ?_
  obtain ⟨q3, e_q3, h⟩ := bnd h
  refine v_getf C (ci := 5) (k := 2) rfl inX6_digest_X6 (by decide) fX6_digest_26 dX6_digest_25 (gfR_e e_q3) ?_
  obtain ⟨x4, e_x4, h⟩ := bnd h
  refine v_getf C (ci := 2) (k := 1) rfl inX6_digest_X2 (by decide) fX6_digest_233 dX6_digest_28 (gfI_e e_x4) ?_
  refine v_i2l C dX6_digest_31 ?_
  refine v_ladd C dX6_digest_32 ?_
  refine v_lstore_n C (lv' := [(1, .long ((31 * ((31 * 19606) + (Int32.toInt64 x2))) + (Int32.toInt64 x4))), (0, .ref this)]) dX6_digest_33 rfl (by decide) rfl ?_
  refine v_ldc2 C dX6_digest_34 cX6_digest_270 ?_
  refine v_lload_n C 0 dX6_digest_37 rfl rfl ?_
  refine v_lmul C dX6_digest_38 ?_
  refine v_at (pc' := 39) rfl ?_
  refine v_aload_n C 1 dX6_digest_39 rfl rfl ?_
  obtain ⟨u5, e_u5, h⟩ := bnd h
  obtain ⟨x6, e_x6, h⟩ := bnd h
  refine v_callVi C (ci := 5) (av := []) (rest := [.long (31 * ((31 * ((31 * 19606) + (Int32.toInt64 x2))) + (Int32.toInt64 x4)))]) rfl gX6_digest_X6_time rfl ⟨rfl, rfl⟩ hV_X6_time ⟨(Nat.le_of_ble_eq_true rfl), (Nat.le_of_ble_eq_true rfl)⟩ e_u5 (r_X6_time (A := A) e_x6) rfl rfl (Nat.le_of_ble_eq_true rfl) dX6_digest_40 ?_
  refine v_i2l C dX6_digest_43 ?_
  refine v_ladd C dX6_digest_44 ?_
  obtain ⟨y7, e_y7, h⟩ := nmb h
  refine v_topJ e_y7 ?_
  refine v_lstore_n C (lv' := [(1, .long y7), (0, .ref this)]) dX6_digest_45 rfl (by decide) rfl ?_
  refine v_aload_n C 1 dX6_digest_46 rfl rfl ?_
  refine v_lload_n C 0 dX6_digest_47 rfl rfl ?_
  obtain ⟨u8, e_u8, h⟩ := bnd h
  obtain ⟨z9, e_z9, h⟩ := bnd h
  refine v_callVJ C (ci := 5) (av := [.long y7]) (rest := []) rfl gX6_digest_X6_mixPoints rfl ⟨rfl, rfl⟩ hV_X6_mixPoints ⟨(Nat.le_of_ble_eq_true rfl), (Nat.le_of_ble_eq_true rfl)⟩ e_u8 (r_X6_mixPoints (A := A) e_z9) rfl rfl (Nat.le_of_ble_eq_true rfl) dX6_digest_48 ?_
  refine v_at (pc' := 51) rfl ?_
  refine v_lstore_n C (lv' := [(1, .long z9), (0, .ref this)]) dX6_digest_51 rfl (by decide) rfl ?_
  refine v_iconst C (v := 0) dX6_digest_52 (by decide) ?_
  refine v_istore_n C (lv' := [(3, .int 0), (1, .long z9), (0, .ref this)]) dX6_digest_53 rfl (by decide) rfl ?_
  refine v_sub [2, 1, 0] rfl ?_
  exact r_X6_digest_p54 C n n _ _ _ _ h
theorem fX7_thrown_37 : Cond.fieldLink RX7 37 (TX7 4).1 (TX7 4).2.1 (TX7 4).2.2.1 ∈ wsX7_thrown := by decide +kernel
theorem inX7_thrown_X7 : ∀ x ∈ u_ws RX7 TX7 20, x ∈ wsX7_thrown := by decide +kernel
set_option maxRecDepth 100000 in
set_option maxHeartbeats 4000000 in
theorem r_X7_thrown {l : Launch} {G : GG} {A : Nat → Prop} {n : Nat} {w : Wd} {this : Nat} {z : Int32} (h : m_X7_thrown n w this = some z) : Con l yX7_thrown wsX7_thrown { frames := 0, cells := 0, slots := 0, locals := 0 } G A [.ref this] w (some (.int z)) w := by
  refine Con.of (own := RX7) (cc := cX7_thrown) (maxL := 1) (ret := (some .int)) rfl (by decide) rfl (Nat.le_of_ble_eq_true rfl) ?_
  intro p e s m args below meth c C
  show V p l e { frames := 0, cells := 0, slots := 0, locals := 0 } s m args below meth c G A 1 0 [(0, .ref this)] [] w (some (.int z)) w
  unfold m_X7_thrown at h
  refine v_aload_n C 0 dX7_thrown_0 rfl rfl ?_
  obtain ⟨x1, e_x1, h⟩ := bnd h
  refine v_getf C (ci := 6) (k := 4) rfl inX7_thrown_X7 (by decide) fX7_thrown_37 dX7_thrown_1 (gfI_e e_x1) ?_
  obtain rfl := Option.some.inj h
  exact v_iret C dX7_thrown_4
theorem fX7_refused_37 : Cond.fieldLink RX7 37 (TX7 4).1 (TX7 4).2.1 (TX7 4).2.2.1 ∈ wsX7_refused := by decide +kernel
theorem inX7_refused_X7 : ∀ x ∈ u_ws RX7 TX7 20, x ∈ wsX7_refused := by decide +kernel
set_option maxRecDepth 100000 in
set_option maxHeartbeats 4000000 in
theorem r_X7_refused {l : Launch} {G : GG} {A : Nat → Prop} {n : Nat} {w : Wd} {this : Nat} {a1 : Int32} {z : (Int32 × Wd)} (h : m_X7_refused n w this a1 = some z) : Con l yX7_refused wsX7_refused { frames := 0, cells := 0, slots := 0, locals := 0 } G A [.ref this, .int a1] w (some (.int z.1)) z.2 := by
  refine Con.of (own := RX7) (cc := cX7_refused) (maxL := 2) (ret := (some .boolean)) rfl (by decide) rfl (Nat.le_of_ble_eq_true rfl) ?_
  intro p e s m args below meth c C
  show V p l e { frames := 0, cells := 0, slots := 0, locals := 0 } s m args below meth c G A 2 0 [(0, .ref this), (1, .int a1)] [] w (some (.int z.1)) z.2
  unfold m_X7_refused at h
  refine v_aload_n C 0 dX7_refused_0 rfl rfl ?_
  refine v_iload_n C 1 dX7_refused_1 rfl rfl ?_
  obtain ⟨w1, e_w1, h⟩ := bnd h
  refine v_putf C (ci := 6) (k := 4) rfl inX7_refused_X7 tyX7_ok nmX7 (by decide) fX7_refused_37 rfl (tyX7_ok 4 (by decide)) rfl rfl dX7_refused_2 e_w1 ?_
  refine v_iload_n C 1 dX7_refused_5 rfl rfl ?_
  refine v_if_le C (tgt := 13) dX7_refused_6 (by decide) (fun q => ?_) (fun q => ?_)
  · have h := ite_t q h
    refine v_iconst C (v := 0) dX7_refused_13 (by decide) ?_
    obtain rfl := Option.some.inj h
    exact v_zret C dX7_refused_14 bo_0
  · have h := ite_f q h
    refine v_iconst C (v := 1) dX7_refused_9 (by decide) ?_
    refine v_goto C (tgt := 14) dX7_refused_10 (by decide) ?_
    obtain rfl := Option.some.inj h
    exact v_zret C dX7_refused_14 bo_1
theorem z_X7_in (a0 : Int32) (a1 : Int32) (a2 : Int32) : bo (m_X7_in a0 a1 a2) := by
  unfold m_X7_in
  repeat' (first | (refine bo_ite ?_ ?_) | exact bo_0 | exact bo_1)
set_option maxRecDepth 100000 in
set_option maxHeartbeats 4000000 in
theorem r_X7_in {l : Launch} {G : GG} {A : Nat → Prop} {w : Wd} {a0 : Int32} {a1 : Int32} {a2 : Int32} {z : Int32} (h : m_X7_in a0 a1 a2 = z) : Con l yX7_in wsX7_in { frames := 0, cells := 0, slots := 0, locals := 0 } G A [.int a0, .int a1, .int a2] w (some (.int z)) w := by
  refine Con.of (own := RX7) (cc := cX7_in) (maxL := 3) (ret := (some .boolean)) rfl (by decide) rfl (Nat.le_of_ble_eq_true rfl) ?_
  intro p e s m args below meth c C
  show V p l e { frames := 0, cells := 0, slots := 0, locals := 0 } s m args below meth c G A 3 0 [(0, .int a0), (1, .int a1), (2, .int a2)] [] w (some (.int z)) w
  unfold m_X7_in at h
  refine v_iload_n C 0 dX7_in_0 rfl rfl ?_
  refine v_iload_n C 1 dX7_in_1 rfl rfl ?_
  refine v_icmp_lt C (tgt := 14) dX7_in_2 (by decide) (fun q => ?_) (fun q => ?_)
  · have h := ite_t q h
    refine v_iconst C (v := 0) dX7_in_14 (by decide) ?_
    subst h
    exact v_zret C dX7_in_15 bo_0
  · have h := ite_f q h
    refine v_iload_n C 0 dX7_in_5 rfl rfl ?_
    refine v_iload_n C 2 dX7_in_6 rfl rfl ?_
    refine v_icmp_gt C (tgt := 14) dX7_in_7 (by decide) (fun q => ?_) (fun q => ?_)
    · have h := ite_t q h
      refine v_iconst C (v := 0) dX7_in_14 (by decide) ?_
      subst h
      exact v_zret C dX7_in_15 bo_0
    · have h := ite_f q h
      refine v_iconst C (v := 1) dX7_in_10 (by decide) ?_
      refine v_goto C (tgt := 15) dX7_in_11 (by decide) ?_
      subst h
      exact v_zret C dX7_in_15 bo_1
theorem hS_X7_in : yX7_in.cls ≠ "java/lang/invoke/MethodHandle" ∧ yX7_in.cls ≠ "java/lang/invoke/VarHandle" ∧ (parseMethodDescriptor yX7_in.desc).map (fun d => d.parameters.length) = some 3 := by decide +kernel
theorem z_X7_isId (a0 : Int32) : bo (m_X7_isId a0) := by
  unfold m_X7_isId
  repeat' (first | (refine bo_ite ?_ ?_) | exact bo_0 | exact bo_1 | exact z_X7_in ..)
set_option maxRecDepth 100000 in
set_option maxHeartbeats 4000000 in
theorem r_X7_isId {l : Launch} {G : GG} {A : Nat → Prop} {w : Wd} {a0 : Int32} {z : Int32} (h : m_X7_isId a0 = z) : Con l yX7_isId wsX7_isId { frames := 1, cells := 0, slots := 0, locals := 22 } G A [.int a0] w (some (.int z)) w := by
  refine Con.of (own := RX7) (cc := cX7_isId) (maxL := 1) (ret := (some .boolean)) rfl (by decide) rfl (Nat.le_of_ble_eq_true rfl) ?_
  intro p e s m args below meth c C
  show V p l e { frames := 1, cells := 0, slots := 0, locals := 22 } s m args below meth c G A 1 0 [(0, .int a0)] [] w (some (.int z)) w
  unfold m_X7_isId at h
  refine v_iload_n C 0 dX7_isId_0 rfl rfl ?_
  refine v_iconst C (v := 0) dX7_isId_1 (by decide) ?_
  refine v_bipush C (v := 23) dX7_isId_2 (by decide) ?_
  refine v_callSi C (av := [.int a0, .int 0, .int 23]) (rest := []) gX7_isId_X7_in rfl ⟨rfl, rfl⟩ hS_X7_in ⟨(Nat.le_of_ble_eq_true rfl), (Nat.le_of_ble_eq_true rfl)⟩ (r_X7_in (A := A) rfl) rfl rfl (Nat.le_of_ble_eq_true rfl) dX7_isId_4 ?_
  subst h
  exact v_zret C dX7_isId_7 (z_X7_in ..)
theorem z_X7_isPlace (a0 : Int32) (a1 : Int32) : bo (m_X7_isPlace a0 a1) := by
  unfold m_X7_isPlace
  repeat' (first | (refine bo_ite ?_ ?_) | exact bo_0 | exact bo_1 | exact z_X7_in ..)
set_option maxRecDepth 100000 in
set_option maxHeartbeats 4000000 in
theorem r_X7_isPlace {l : Launch} {G : GG} {A : Nat → Prop} {w : Wd} {a0 : Int32} {a1 : Int32} {z : Int32} (h : m_X7_isPlace a0 a1 = z) : Con l yX7_isPlace wsX7_isPlace { frames := 1, cells := 0, slots := 0, locals := 22 } G A [.int a0, .int a1] w (some (.int z)) w := by
  refine Con.of (own := RX7) (cc := cX7_isPlace) (maxL := 2) (ret := (some .boolean)) rfl (by decide) rfl (Nat.le_of_ble_eq_true rfl) ?_
  intro p e s m args below meth c C
  show V p l e { frames := 1, cells := 0, slots := 0, locals := 22 } s m args below meth c G A 2 0 [(0, .int a0), (1, .int a1)] [] w (some (.int z)) w
  unfold m_X7_isPlace at h
  refine v_iload_n C 0 dX7_isPlace_0 rfl rfl ?_
  refine v_iconst C (v := 0) dX7_isPlace_1 (by decide) ?_
  refine v_bipush C (v := 63) dX7_isPlace_2 (by decide) ?_
  refine v_callSi C (av := [.int a0, .int 0, .int 63]) (rest := []) gX7_isPlace_X7_in rfl ⟨rfl, rfl⟩ hS_X7_in ⟨(Nat.le_of_ble_eq_true rfl), (Nat.le_of_ble_eq_true rfl)⟩ (r_X7_in (A := A) rfl) rfl rfl (Nat.le_of_ble_eq_true rfl) dX7_isPlace_4 ?_
  refine v_if_eq C (tgt := 24) dX7_isPlace_7 (by decide) (fun q => ?_) (fun q => ?_)
  · have h := ite_t q h
    refine v_iconst C (v := 0) dX7_isPlace_24 (by decide) ?_
    subst h
    exact v_zret C dX7_isPlace_25 bo_0
  · have h := ite_f q h
    refine v_iload_n C 1 dX7_isPlace_10 rfl rfl ?_
    refine v_iconst C (v := 0) dX7_isPlace_11 (by decide) ?_
    refine v_bipush C (v := 63) dX7_isPlace_12 (by decide) ?_
    refine v_callSi C (av := [.int a1, .int 0, .int 63]) (rest := []) gX7_isPlace_X7_in rfl ⟨rfl, rfl⟩ hS_X7_in ⟨(Nat.le_of_ble_eq_true rfl), (Nat.le_of_ble_eq_true rfl)⟩ (r_X7_in (A := A) rfl) rfl rfl (Nat.le_of_ble_eq_true rfl) dX7_isPlace_14 ?_
    refine v_if_eq C (tgt := 24) dX7_isPlace_17 (by decide) (fun q => ?_) (fun q => ?_)
    · have h := ite_t q h
      refine v_iconst C (v := 0) dX7_isPlace_24 (by decide) ?_
      subst h
      exact v_zret C dX7_isPlace_25 bo_0
    · have h := ite_f q h
      refine v_iconst C (v := 1) dX7_isPlace_20 (by decide) ?_
      refine v_goto C (tgt := 25) dX7_isPlace_21 (by decide) ?_
      subst h
      exact v_zret C dX7_isPlace_25 bo_1
theorem fX7_isThere_7 : Cond.fieldLink RX7 7 (TX7 0).1 (TX7 0).2.1 (TX7 0).2.2.1 ∈ wsX7_isThere := by decide +kernel
theorem inX7_isThere_X7 : ∀ x ∈ u_ws RX7 TX7 20, x ∈ wsX7_isThere := by decide +kernel
set_option maxRecDepth 100000 in
set_option maxHeartbeats 4000000 in
theorem r_X7_isThere {l : Launch} {G : GG} {A : Nat → Prop} {n : Nat} {w : Wd} {this : Nat} {a1 : Int32} {z : Int32} (h : m_X7_isThere n w this a1 = some z) : Con l yX7_isThere wsX7_isThere { frames := 0, cells := 0, slots := 0, locals := 0 } G A [.ref this, .int a1] w (some (.int z)) w := by
  refine Con.of (own := RX7) (cc := cX7_isThere) (maxL := 2) (ret := (some .boolean)) rfl (by decide) rfl (Nat.le_of_ble_eq_true rfl) ?_
  intro p e s m args below meth c C
  show V p l e { frames := 0, cells := 0, slots := 0, locals := 0 } s m args below meth c G A 2 0 [(0, .ref this), (1, .int a1)] [] w (some (.int z)) w
  unfold m_X7_isThere at h
  refine v_aload_n C 0 dX7_isThere_0 rfl rfl ?_
  obtain ⟨q1, e_q1, h⟩ := bnd h
  refine v_getf C (ci := 6) (k := 0) rfl inX7_isThere_X7 (by decide) fX7_isThere_7 dX7_isThere_1 (gfR_e e_q1) ?_
  refine v_iconst C (v := 5) dX7_isThere_4 (by decide) ?_
  refine v_iload_n C 1 dX7_isThere_5 rfl rfl ?_
  refine v_imul C dX7_isThere_6 ?_
  obtain ⟨x2, e_x2, h⟩ := bnd h
  refine v_iald C dX7_isThere_7 e_x2 ?_
  refine v_iconst C (v := 1) dX7_isThere_8 (by decide) ?_
  refine v_at (pc' := 9) rfl ?_
  refine v_icmp_ne C (tgt := 16) dX7_isThere_9 (by decide) (fun q => ?_) (fun q => ?_)
  · have h := ite_f q h
    refine v_iconst C (v := 0) dX7_isThere_16 (by decide) ?_
    obtain rfl := Option.some.inj h
    exact v_zret C dX7_isThere_17 bo_0
  · have h := ite_t q h
    refine v_iconst C (v := 1) dX7_isThere_12 (by decide) ?_
    refine v_goto C (tgt := 17) dX7_isThere_13 (by decide) ?_
    obtain rfl := Option.some.inj h
    exact v_zret C dX7_isThere_17 bo_1
set_option maxRecDepth 100000 in
set_option maxHeartbeats 4000000 in
theorem r_X7_heightOf_p6 {p : Program} {l : Launch} {e : Env} {s : State} {m : MethodId} {args : Array Value} {below : List Frame} {meth : Method} {c : Code} {G : GG} {A : Nat → Prop} (C : Cx p s m args meth c G A cX7_heightOf 3 RX7 wsX7_heightOf (some .int)) (n : Nat) {z : Int32} : ∀ (t : Nat), ∀ (w : Wd) (a1 : Int32) (a2 : Int32), m_X7_heightOf_p6 n t w a1 a2 = some z → V p l e { frames := 0, cells := 0, slots := 0, locals := 0 } s m args below meth c G A 3 6 [(1, .int a1), (2, .int a2)] [] w (some (.int z)) w := by
  intro t
  induction t with
  | zero =>
    intro w a1 a2 h
    rw [m_X7_heightOf_p6] at h
    cases h
  | succ t ih =>
    intro w a1 a2 h
    rw [m_X7_heightOf_p6] at h
    refine v_iload_n C 1 dX7_heightOf_6 rfl rfl ?_
    refine v_iconst C (v := 2) dX7_heightOf_7 (by decide) ?_
    refine v_irem C dX7_heightOf_8 (by decide) ?_
    refine v_if_ne C (tgt := 22) dX7_heightOf_9 (by decide) (fun q => ?_) (fun q => ?_)
    · have h := ite_f q h
      refine v_iload_n C 0 dX7_heightOf_22 rfl rfl ?_
      obtain rfl := Option.some.inj h
      exact v_iret C dX7_heightOf_23
    · have h := ite_t q h
      refine v_iload_n C 1 dX7_heightOf_12 rfl rfl ?_
      refine v_iconst C (v := 2) dX7_heightOf_13 (by decide) ?_
      refine v_idiv C dX7_heightOf_14 (by decide) ?_
      refine v_istore_n C (lv' := [(2, .int (a2 / 2)), (1, .int a1)]) dX7_heightOf_15 rfl (by decide) rfl ?_
      refine v_iinc C (k := 1) (v := (a1 + 1)) (lv' := [(1, .int (a1 + 1)), (2, .int (a2 / 2))]) dX7_heightOf_16 rfl rfl (by decide) rfl ?_
      refine v_goto C (tgt := 6) dX7_heightOf_19 (by decide) ?_
      exact ih _ _ _ h
set_option maxRecDepth 100000 in
set_option maxHeartbeats 4000000 in
theorem r_X7_heightOf {l : Launch} {G : GG} {A : Nat → Prop} {n : Nat} {w : Wd} {a0 : Int32} {z : Int32} (h : m_X7_heightOf n w a0 = some z) : Con l yX7_heightOf wsX7_heightOf { frames := 0, cells := 0, slots := 0, locals := 0 } G A [.int a0] w (some (.int z)) w := by
  refine Con.of (own := RX7) (cc := cX7_heightOf) (maxL := 3) (ret := (some .int)) rfl (by decide) rfl (Nat.le_of_ble_eq_true rfl) ?_
  intro p e s m args below meth c C
  show V p l e { frames := 0, cells := 0, slots := 0, locals := 0 } s m args below meth c G A 3 0 [(0, .int a0)] [] w (some (.int z)) w
  unfold m_X7_heightOf at h
  refine v_iconst C (v := 0) dX7_heightOf_0 (by decide) ?_
  refine v_istore_n C (lv' := [(1, .int 0), (0, .int a0)]) dX7_heightOf_1 rfl (by decide) rfl ?_
  refine v_iload_n C 1 dX7_heightOf_2 rfl rfl ?_
  refine v_iconst C (v := 1) dX7_heightOf_3 (by decide) ?_
  refine v_iadd C dX7_heightOf_4 ?_
  refine v_istore_n C (lv' := [(2, .int (a0 + 1)), (1, .int 0), (0, .int a0)]) dX7_heightOf_5 rfl (by decide) rfl ?_
  refine v_sub [1, 0] rfl ?_
  exact r_X7_heightOf_p6 C n n _ _ _ h
theorem hV_X7_isThere : yX7_isThere.cls = RX7 ∧ yX7_isThere.cls ≠ "java/lang/invoke/MethodHandle" ∧ yX7_isThere.cls ≠ "java/lang/invoke/VarHandle" ∧ (parseMethodDescriptor yX7_isThere.desc).map (fun d => d.parameters.length) = some 1 := by decide +kernel
theorem hS_X7_heightOf : yX7_heightOf.cls ≠ "java/lang/invoke/MethodHandle" ∧ yX7_heightOf.cls ≠ "java/lang/invoke/VarHandle" ∧ (parseMethodDescriptor yX7_heightOf.desc).map (fun d => d.parameters.length) = some 1 := by decide +kernel
set_option maxRecDepth 100000 in
set_option maxHeartbeats 4000000 in
theorem r_X7_isOn {l : Launch} {G : GG} {A : Nat → Prop} {n : Nat} {w : Wd} {this : Nat} {a1 : Int32} {a2 : Int32} {z : Int32} (h : m_X7_isOn n w this a1 a2 = some z) : Con l yX7_isOn wsX7_isOn { frames := 1, cells := 0, slots := 0, locals := 22 } G A [.ref this, .int a1, .int a2] w (some (.int z)) w := by
  refine Con.of (own := RX7) (cc := cX7_isOn) (maxL := 3) (ret := (some .boolean)) rfl (by decide) rfl (Nat.le_of_ble_eq_true rfl) ?_
  intro p e s m args below meth c C
  show V p l e { frames := 1, cells := 0, slots := 0, locals := 22 } s m args below meth c G A 3 0 [(0, .ref this), (1, .int a1), (2, .int a2)] [] w (some (.int z)) w
  unfold m_X7_isOn at h
  refine v_aload_n C 0 dX7_isOn_0 rfl rfl ?_
  refine v_iload_n C 1 dX7_isOn_1 rfl rfl ?_
  obtain ⟨u1, e_u1, h⟩ := bnd h
  obtain ⟨x2, e_x2, h⟩ := bnd h
  refine v_callVi C (ci := 6) (av := [.int a1]) (rest := []) rfl gX7_isOn_X7_isThere rfl ⟨rfl, rfl⟩ hV_X7_isThere ⟨(Nat.le_of_ble_eq_true rfl), (Nat.le_of_ble_eq_true rfl)⟩ e_u1 (r_X7_isThere (A := A) e_x2) rfl rfl (Nat.le_of_ble_eq_true rfl) dX7_isOn_2 ?_
  refine v_if_eq C (tgt := 20) dX7_isOn_5 (by decide) (fun q => ?_) (fun q => ?_)
  · have h := ite_t q h
    refine v_iconst C (v := 0) dX7_isOn_20 (by decide) ?_
    obtain rfl := Option.some.inj h
    exact v_zret C dX7_isOn_21 bo_0
  · have h := ite_f q h
    refine v_iload_n C 1 dX7_isOn_8 rfl rfl ?_
    obtain ⟨x3, e_x3, h⟩ := bnd h
    refine v_callSi C (av := [.int a1]) (rest := []) gX7_isOn_X7_heightOf rfl ⟨rfl, rfl⟩ hS_X7_heightOf ⟨(Nat.le_of_ble_eq_true rfl), (Nat.le_of_ble_eq_true rfl)⟩ (r_X7_heightOf (A := A) e_x3) rfl rfl (Nat.le_of_ble_eq_true rfl) dX7_isOn_9 ?_
    refine v_iload_n C 2 dX7_isOn_12 rfl rfl ?_
    refine v_icmp_lt C (tgt := 20) dX7_isOn_13 (by decide) (fun q => ?_) (fun q => ?_)
    · have h := ite_t q h
      refine v_iconst C (v := 0) dX7_isOn_20 (by decide) ?_
      obtain rfl := Option.some.inj h
      exact v_zret C dX7_isOn_21 bo_0
    · have h := ite_f q h
      refine v_iconst C (v := 1) dX7_isOn_16 (by decide) ?_
      refine v_goto C (tgt := 21) dX7_isOn_17 (by decide) ?_
      obtain rfl := Option.some.inj h
      exact v_zret C dX7_isOn_21 bo_1
theorem fX7_saves_53 : Cond.fieldLink RX7 53 (TX7 3).1 (TX7 3).2.1 (TX7 3).2.2.1 ∈ wsX7_saves := by decide +kernel
theorem inX7_saves_X7 : ∀ x ∈ u_ws RX7 TX7 20, x ∈ wsX7_saves := by decide +kernel
theorem fX7_saves_13 : Cond.fieldLink RX7 13 (TX7 1).1 (TX7 1).2.1 (TX7 1).2.2.1 ∈ wsX7_saves := by decide +kernel
theorem fX7_saves_7 : Cond.fieldLink RX7 7 (TX7 0).1 (TX7 0).2.1 (TX7 0).2.2.1 ∈ wsX7_saves := by decide +kernel
set_option maxRecDepth 100000 in
set_option maxHeartbeats 4000000 in
theorem r_X7_saves_p85 {p : Program} {l : Launch} {e : Env} {s : State} {m : MethodId} {args : Array Value} {below : List Frame} {meth : Method} {c : Code} {G : GG} {A : Nat → Prop} (C : Cx p s m args meth c G A cX7_saves 2 RX7 wsX7_saves none) (n : Nat) {z : Wd} : ∀ (w : Wd) (a0 : Nat), m_X7_saves_p85 n w a0 = some z → V p l e { frames := 0, cells := 0, slots := 0, locals := 0 } s m args below meth c G A 2 85 [(0, .ref a0)] [] w (none) z := by
  intro w a0 h
  unfold m_X7_saves_p85 at h
  refine v_aload_n C 0 dX7_saves_85 rfl rfl ?_
  refine v_dup C dX7_saves_86 rfl ?_
  obtain ⟨x1, e_x1, h⟩ := bnd h
  refine v_getf C (ci := 6) (k := 3) rfl inX7_saves_X7 (by decide) fX7_saves_53 dX7_saves_87 (gfI_e e_x1) ?_
  refine v_iconst C (v := 1) dX7_saves_90 (by decide) ?_
  refine v_iadd C dX7_saves_91 ?_
  obtain ⟨w2, e_w2, h⟩ := bnd h
  refine v_putf C (ci := 6) (k := 3) rfl inX7_saves_X7 tyX7_ok nmX7 (by decide) fX7_saves_53 rfl (tyX7_ok 3 (by decide)) rfl rfl dX7_saves_92 e_w2 ?_
  obtain rfl := Option.some.inj h
  exact v_vret C dX7_saves_95
set_option maxRecDepth 100000 in
set_option maxHeartbeats 4000000 in
theorem r_X7_saves_p51 {p : Program} {l : Launch} {e : Env} {s : State} {m : MethodId} {args : Array Value} {below : List Frame} {meth : Method} {c : Code} {G : GG} {A : Nat → Prop} (C : Cx p s m args meth c G A cX7_saves 2 RX7 wsX7_saves none) (n : Nat) {z : Wd} : ∀ (t : Nat), ∀ (w : Wd) (a0 : Nat) (a1 : Int32), m_X7_saves_p51 n t w a0 a1 = some z → V p l e { frames := 0, cells := 0, slots := 0, locals := 0 } s m args below meth c G A 2 51 [(0, .ref a0), (1, .int a1)] [] w (none) z := by
  intro t
  induction t with
  | zero =>
    intro w a0 a1 h
    rw [m_X7_saves_p51] at h
    cases h
  | succ t ih =>
    intro w a0 a1 h
    rw [m_X7_saves_p51] at h
    refine v_iload_n C 1 dX7_saves_51 rfl rfl ?_
    refine v_sipush C (v := 141) dX7_saves_52 (by decide) ?_
    refine v_icmp_ge C (tgt := 85) dX7_saves_55 (by decide) (fun q => ?_) (fun q => ?_)
    · have h := ite_t q h
      refine v_sub [0] rfl ?_
      exact r_X7_saves_p85 C n _ _ h
    · have h := ite_f q h
      refine v_aload_n C 0 dX7_saves_58 rfl rfl ?_
      obtain ⟨q1, e_q1, h⟩ := bnd h
      refine v_getf C (ci := 6) (k := 1) rfl inX7_saves_X7 (by decide) fX7_saves_13 dX7_saves_59 (gfR_e e_q1) ?_
      refine v_sipush C (v := 141) dX7_saves_62 (by decide) ?_
      refine v_aload_n C 0 dX7_saves_65 rfl rfl ?_
      obtain ⟨x2, e_x2, h⟩ := bnd h
      refine v_getf C (ci := 6) (k := 3) rfl inX7_saves_X7 (by decide) fX7_saves_53 dX7_saves_66 (gfI_e e_x2) ?_
      refine v_imul C dX7_saves_69 ?_
      refine v_iload_n C 1 dX7_saves_70 rfl rfl ?_
      refine v_at (pc' := 71) rfl ?_
      refine v_iadd C dX7_saves_71 ?_
      refine v_aload_n C 0 dX7_saves_72 rfl rfl ?_
      obtain ⟨q3, e_q3, h⟩ := bnd h
      refine v_getf C (ci := 6) (k := 0) rfl inX7_saves_X7 (by decide) fX7_saves_7 dX7_saves_73 (gfR_e e_q3) ?_
      refine v_iload_n C 1 dX7_saves_76 rfl rfl ?_
      obtain ⟨x4, e_x4, h⟩ := bnd h
      refine v_iald C dX7_saves_77 e_x4 ?_
      obtain ⟨w5, e_w5, h⟩ := bnd h
      refine v_iast C dX7_saves_78 e_w5 ?_
      refine v_iinc C (k := 1) (v := (a1 + 1)) (lv' := [(1, .int (a1 + 1)), (0, .ref a0)]) dX7_saves_79 rfl rfl (by decide) rfl ?_
      refine v_goto C (tgt := 51) dX7_saves_82 (by decide) ?_
      refine v_sub [1, 0] rfl ?_
      exact ih _ _ _ h
set_option maxRecDepth 100000 in
set_option maxHeartbeats 4000000 in
theorem r_X7_saves_p39 {p : Program} {l : Launch} {e : Env} {s : State} {m : MethodId} {args : Array Value} {below : List Frame} {meth : Method} {c : Code} {G : GG} {A : Nat → Prop} (C : Cx p s m args meth c G A cX7_saves 2 RX7 wsX7_saves none) (n : Nat) {z : Wd} : ∀ (w : Wd) (a0 : Nat), m_X7_saves_p39 n w a0 = some z → V p l e { frames := 0, cells := 0, slots := 0, locals := 0 } s m args below meth c G A 2 39 [(0, .ref a0)] [] w (none) z := by
  intro w a0 h
  unfold m_X7_saves_p39 at h
  refine v_aload_n C 0 dX7_saves_39 rfl rfl ?_
  refine v_dup C dX7_saves_40 rfl ?_
  obtain ⟨x1, e_x1, h⟩ := bnd h
  refine v_getf C (ci := 6) (k := 3) rfl inX7_saves_X7 (by decide) fX7_saves_53 dX7_saves_41 (gfI_e e_x1) ?_
  refine v_iconst C (v := 1) dX7_saves_44 (by decide) ?_
  refine v_isub C dX7_saves_45 ?_
  obtain ⟨w2, e_w2, h⟩ := bnd h
  refine v_putf C (ci := 6) (k := 3) rfl inX7_saves_X7 tyX7_ok nmX7 (by decide) fX7_saves_53 rfl (tyX7_ok 3 (by decide)) rfl rfl dX7_saves_46 e_w2 ?_
  refine v_iconst C (v := 0) dX7_saves_49 (by decide) ?_
  refine v_at (pc' := 50) rfl ?_
  refine v_istore_n C (lv' := [(1, .int 0), (0, .ref a0)]) dX7_saves_50 rfl (by decide) rfl ?_
  refine v_sub [1, 0] rfl ?_
  exact r_X7_saves_p51 C n n _ _ _ h
set_option maxRecDepth 100000 in
set_option maxHeartbeats 4000000 in
theorem r_X7_saves_p10 {p : Program} {l : Launch} {e : Env} {s : State} {m : MethodId} {args : Array Value} {below : List Frame} {meth : Method} {c : Code} {G : GG} {A : Nat → Prop} (C : Cx p s m args meth c G A cX7_saves 2 RX7 wsX7_saves none) (n : Nat) {z : Wd} : ∀ (t : Nat), ∀ (w : Wd) (a0 : Nat) (a1 : Int32), m_X7_saves_p10 n t w a0 a1 = some z → V p l e { frames := 0, cells := 0, slots := 0, locals := 0 } s m args below meth c G A 2 10 [(0, .ref a0), (1, .int a1)] [] w (none) z := by
  intro t
  induction t with
  | zero =>
    intro w a0 a1 h
    rw [m_X7_saves_p10] at h
    cases h
  | succ t ih =>
    intro w a0 a1 h
    rw [m_X7_saves_p10] at h
    refine v_iload_n C 1 dX7_saves_10 rfl rfl ?_
    refine v_sipush C (v := 423) dX7_saves_11 (by decide) ?_
    refine v_icmp_ge C (tgt := 39) dX7_saves_14 (by decide) (fun q => ?_) (fun q => ?_)
    · have h := ite_t q h
      refine v_sub [0] rfl ?_
      exact r_X7_saves_p39 C n _ _ h
    · have h := ite_f q h
      refine v_aload_n C 0 dX7_saves_17 rfl rfl ?_
      obtain ⟨q1, e_q1, h⟩ := bnd h
      refine v_getf C (ci := 6) (k := 1) rfl inX7_saves_X7 (by decide) fX7_saves_13 dX7_saves_18 (gfR_e e_q1) ?_
      refine v_iload_n C 1 dX7_saves_21 rfl rfl ?_
      refine v_aload_n C 0 dX7_saves_22 rfl rfl ?_
      obtain ⟨q2, e_q2, h⟩ := bnd h
      refine v_getf C (ci := 6) (k := 1) rfl inX7_saves_X7 (by decide) fX7_saves_13 dX7_saves_23 (gfR_e e_q2) ?_
      refine v_iload_n C 1 dX7_saves_26 rfl rfl ?_
      refine v_sipush C (v := 141) dX7_saves_27 (by decide) ?_
      refine v_at (pc' := 30) rfl ?_
      refine v_iadd C dX7_saves_30 ?_
      obtain ⟨x3, e_x3, h⟩ := bnd h
      refine v_iald C dX7_saves_31 e_x3 ?_
      obtain ⟨w4, e_w4, h⟩ := bnd h
      refine v_iast C dX7_saves_32 e_w4 ?_
      refine v_iinc C (k := 1) (v := (a1 + 1)) (lv' := [(1, .int (a1 + 1)), (0, .ref a0)]) dX7_saves_33 rfl rfl (by decide) rfl ?_
      refine v_goto C (tgt := 10) dX7_saves_36 (by decide) ?_
      refine v_sub [1, 0] rfl ?_
      exact ih _ _ _ h
set_option maxRecDepth 100000 in
set_option maxHeartbeats 4000000 in
theorem r_X7_saves {l : Launch} {G : GG} {A : Nat → Prop} {n : Nat} {w : Wd} {this : Nat} {z : Wd} (h : m_X7_saves n w this = some z) : Con l yX7_saves wsX7_saves { frames := 0, cells := 0, slots := 0, locals := 0 } G A [.ref this] w (none) z := by
  refine Con.of (own := RX7) (cc := cX7_saves) (maxL := 2) (ret := none) rfl (by decide) rfl (Nat.le_of_ble_eq_true rfl) ?_
  intro p e s m args below meth c C
  show V p l e { frames := 0, cells := 0, slots := 0, locals := 0 } s m args below meth c G A 2 0 [(0, .ref this)] [] w (none) z
  unfold m_X7_saves at h
  refine v_aload_n C 0 dX7_saves_0 rfl rfl ?_
  obtain ⟨x1, e_x1, h⟩ := bnd h
  refine v_getf C (ci := 6) (k := 3) rfl inX7_saves_X7 (by decide) fX7_saves_53 dX7_saves_1 (gfI_e e_x1) ?_
  refine v_iconst C (v := 4) dX7_saves_4 (by decide) ?_
  refine v_icmp_ne C (tgt := 49) dX7_saves_5 (by decide) (fun q => ?_) (fun q => ?_)
  · have h := ite_f q h
    refine v_iconst C (v := 0) dX7_saves_49 (by decide) ?_
    refine v_istore_n C (lv' := [(1, .int 0), (0, .ref this)]) dX7_saves_50 rfl (by decide) rfl ?_
    refine v_sub [1, 0] rfl ?_
    exact r_X7_saves_p51 C n n _ _ _ h
  · have h := ite_t q h
    refine v_iconst C (v := 0) dX7_saves_8 (by decide) ?_
    refine v_istore_n C (lv' := [(1, .int 0), (0, .ref this)]) dX7_saves_9 rfl (by decide) rfl ?_
    refine v_sub [1, 0] rfl ?_
    exact r_X7_saves_p10 C n n _ _ _ h
theorem fX7_undo_53 : Cond.fieldLink RX7 53 (TX7 3).1 (TX7 3).2.1 (TX7 3).2.2.1 ∈ wsX7_undo := by decide +kernel
theorem inX7_undo_X7 : ∀ x ∈ u_ws RX7 TX7 20, x ∈ wsX7_undo := by decide +kernel
theorem fX7_undo_7 : Cond.fieldLink RX7 7 (TX7 0).1 (TX7 0).2.1 (TX7 0).2.2.1 ∈ wsX7_undo := by decide +kernel
theorem fX7_undo_13 : Cond.fieldLink RX7 13 (TX7 1).1 (TX7 1).2.1 (TX7 1).2.2.1 ∈ wsX7_undo := by decide +kernel
theorem hV_X7_refused : yX7_refused.cls = RX7 ∧ yX7_refused.cls ≠ "java/lang/invoke/MethodHandle" ∧ yX7_refused.cls ≠ "java/lang/invoke/VarHandle" ∧ (parseMethodDescriptor yX7_refused.desc).map (fun d => d.parameters.length) = some 1 := by decide +kernel
set_option maxRecDepth 100000 in
set_option maxHeartbeats 4000000 in
theorem r_X7_undo_p33 {p : Program} {l : Launch} {e : Env} {s : State} {m : MethodId} {args : Array Value} {below : List Frame} {meth : Method} {c : Code} {G : GG} {A : Nat → Prop} (C : Cx p s m args meth c G A cX7_undo 2 RX7 wsX7_undo (some .int)) (n : Nat) {z : (Int32 × Wd)} : ∀ (t : Nat), ∀ (w : Wd) (a0 : Nat) (a1 : Int32), m_X7_undo_p33 n t w a0 a1 = some z → V p l e { frames := 1, cells := 0, slots := 0, locals := 21 } s m args below meth c G A 2 33 [(0, .ref a0), (1, .int a1)] [] w (some (.int z.1)) z.2 := by
  intro t
  induction t with
  | zero =>
    intro w a0 a1 h
    rw [m_X7_undo_p33] at h
    cases h
  | succ t ih =>
    intro w a0 a1 h
    rw [m_X7_undo_p33] at h
    refine v_iload_n C 1 dX7_undo_33 rfl rfl ?_
    refine v_sipush C (v := 141) dX7_undo_34 (by decide) ?_
    refine v_icmp_ge C (tgt := 67) dX7_undo_37 (by decide) (fun q => ?_) (fun q => ?_)
    · have h := ite_t q h
      refine v_aload_n C 0 dX7_undo_67 rfl rfl ?_
      obtain ⟨x1, e_x1, h⟩ := bnd h
      refine v_getf C (ci := 6) (k := 3) rfl inX7_undo_X7 (by decide) fX7_undo_53 dX7_undo_68 (gfI_e e_x1) ?_
      obtain rfl := Option.some.inj h
      exact v_iret C dX7_undo_71
    · have h := ite_f q h
      refine v_aload_n C 0 dX7_undo_40 rfl rfl ?_
      obtain ⟨q2, e_q2, h⟩ := bnd h
      refine v_getf C (ci := 6) (k := 0) rfl inX7_undo_X7 (by decide) fX7_undo_7 dX7_undo_41 (gfR_e e_q2) ?_
      refine v_iload_n C 1 dX7_undo_44 rfl rfl ?_
      refine v_aload_n C 0 dX7_undo_45 rfl rfl ?_
      obtain ⟨q3, e_q3, h⟩ := bnd h
      refine v_getf C (ci := 6) (k := 1) rfl inX7_undo_X7 (by decide) fX7_undo_13 dX7_undo_46 (gfR_e e_q3) ?_
      refine v_sipush C (v := 141) dX7_undo_49 (by decide) ?_
      refine v_aload_n C 0 dX7_undo_52 rfl rfl ?_
      refine v_at (pc' := 53) rfl ?_
      obtain ⟨x4, e_x4, h⟩ := bnd h
      refine v_getf C (ci := 6) (k := 3) rfl inX7_undo_X7 (by decide) fX7_undo_53 dX7_undo_53 (gfI_e e_x4) ?_
      refine v_imul C dX7_undo_56 ?_
      refine v_iload_n C 1 dX7_undo_57 rfl rfl ?_
      refine v_iadd C dX7_undo_58 ?_
      obtain ⟨x5, e_x5, h⟩ := bnd h
      refine v_iald C dX7_undo_59 e_x5 ?_
      obtain ⟨w6, e_w6, h⟩ := bnd h
      refine v_iast C dX7_undo_60 e_w6 ?_
      refine v_iinc C (k := 1) (v := (a1 + 1)) (lv' := [(1, .int (a1 + 1)), (0, .ref a0)]) dX7_undo_61 rfl rfl (by decide) rfl ?_
      refine v_goto C (tgt := 33) dX7_undo_64 (by decide) ?_
      refine v_sub [1, 0] rfl ?_
      exact ih _ _ _ h
set_option maxRecDepth 100000 in
set_option maxHeartbeats 4000000 in
theorem r_X7_undo {l : Launch} {G : GG} {A : Nat → Prop} {n : Nat} {w : Wd} {this : Nat} {z : (Int32 × Wd)} (h : m_X7_undo n w this = some z) : Con l yX7_undo wsX7_undo { frames := 1, cells := 0, slots := 0, locals := 21 } G A [.ref this] w (some (.int z.1)) z.2 := by
  refine Con.of (own := RX7) (cc := cX7_undo) (maxL := 2) (ret := (some .int)) rfl (by decide) rfl (Nat.le_of_ble_eq_true rfl) ?_
  intro p e s m args below meth c C
  show V p l e { frames := 1, cells := 0, slots := 0, locals := 21 } s m args below meth c G A 2 0 [(0, .ref this)] [] w (some (.int z.1)) z.2
  unfold m_X7_undo at h
  refine v_aload_n C 0 dX7_undo_0 rfl rfl ?_
  refine v_aload_n C 0 dX7_undo_1 rfl rfl ?_
  obtain ⟨x1, e_x1, h⟩ := bnd h
  refine v_getf C (ci := 6) (k := 3) rfl inX7_undo_X7 (by decide) fX7_undo_53 dX7_undo_2 (gfI_e e_x1) ?_
  refine v_if_ne C (tgt := 12) dX7_undo_5 (by decide) (fun q => ?_) (fun q => ?_)
  · have h := ite_f q h
    refine v_iconst C (v := 0) dX7_undo_12 (by decide) ?_
    obtain ⟨u2, e_u2, h⟩ := bnd h
    obtain ⟨z3, e_z3, h⟩ := bnd h
    refine v_callVi C (ci := 6) (av := [.int 0]) (rest := []) rfl gX7_undo_X7_refused rfl ⟨rfl, rfl⟩ hV_X7_refused ⟨(Nat.le_of_ble_eq_true rfl), (Nat.le_of_ble_eq_true rfl)⟩ e_u2 (r_X7_refused (A := A) e_z3) rfl rfl (Nat.le_of_ble_eq_true rfl) dX7_undo_13 ?_
    refine v_if_eq C (tgt := 21) dX7_undo_16 (by decide) (fun q => ?_) (fun q => ?_)
    · have h := ite_t q h
      refine v_aload_n C 0 dX7_undo_21 rfl rfl ?_
      refine v_dup C dX7_undo_22 rfl ?_
      obtain ⟨x4, e_x4, h⟩ := bnd h
      refine v_getf C (ci := 6) (k := 3) rfl inX7_undo_X7 (by decide) fX7_undo_53 dX7_undo_23 (gfI_e e_x4) ?_
      refine v_iconst C (v := 1) dX7_undo_26 (by decide) ?_
      refine v_isub C dX7_undo_27 ?_
      obtain ⟨w5, e_w5, h⟩ := bnd h
      refine v_putf C (ci := 6) (k := 3) rfl inX7_undo_X7 tyX7_ok nmX7 (by decide) fX7_undo_53 rfl (tyX7_ok 3 (by decide)) rfl rfl dX7_undo_28 e_w5 ?_
      refine v_iconst C (v := 0) dX7_undo_31 (by decide) ?_
      refine v_at (pc' := 32) rfl ?_
      refine v_istore_n C (lv' := [(1, .int 0), (0, .ref this)]) dX7_undo_32 rfl (by decide) rfl ?_
      refine v_sub [1, 0] rfl ?_
      exact r_X7_undo_p33 C n n _ _ _ h
    · have h := ite_f q h
      refine v_iconst C (v := 0) dX7_undo_19 (by decide) ?_
      obtain rfl := Option.some.inj h
      exact v_iret C dX7_undo_20
  · have h := ite_t q h
    refine v_iconst C (v := 1) dX7_undo_8 (by decide) ?_
    refine v_goto C (tgt := 13) dX7_undo_9 (by decide) ?_
    obtain ⟨u6, e_u6, h⟩ := bnd h
    obtain ⟨z7, e_z7, h⟩ := bnd h
    refine v_callVi C (ci := 6) (av := [.int 1]) (rest := []) rfl gX7_undo_X7_refused rfl ⟨rfl, rfl⟩ hV_X7_refused ⟨(Nat.le_of_ble_eq_true rfl), (Nat.le_of_ble_eq_true rfl)⟩ e_u6 (r_X7_refused (A := A) e_z7) rfl rfl (Nat.le_of_ble_eq_true rfl) dX7_undo_13 ?_
    refine v_if_eq C (tgt := 21) dX7_undo_16 (by decide) (fun q => ?_) (fun q => ?_)
    · have h := ite_t q h
      refine v_aload_n C 0 dX7_undo_21 rfl rfl ?_
      refine v_dup C dX7_undo_22 rfl ?_
      obtain ⟨x8, e_x8, h⟩ := bnd h
      refine v_getf C (ci := 6) (k := 3) rfl inX7_undo_X7 (by decide) fX7_undo_53 dX7_undo_23 (gfI_e e_x8) ?_
      refine v_iconst C (v := 1) dX7_undo_26 (by decide) ?_
      refine v_isub C dX7_undo_27 ?_
      obtain ⟨w9, e_w9, h⟩ := bnd h
      refine v_putf C (ci := 6) (k := 3) rfl inX7_undo_X7 tyX7_ok nmX7 (by decide) fX7_undo_53 rfl (tyX7_ok 3 (by decide)) rfl rfl dX7_undo_28 e_w9 ?_
      refine v_iconst C (v := 0) dX7_undo_31 (by decide) ?_
      refine v_at (pc' := 32) rfl ?_
      refine v_istore_n C (lv' := [(1, .int 0), (0, .ref this)]) dX7_undo_32 rfl (by decide) rfl ?_
      refine v_sub [1, 0] rfl ?_
      exact r_X7_undo_p33 C n n _ _ _ h
    · have h := ite_f q h
      refine v_iconst C (v := 0) dX7_undo_19 (by decide) ?_
      obtain rfl := Option.some.inj h
      exact v_iret C dX7_undo_20
set_option maxRecDepth 100000 in
set_option maxHeartbeats 4000000 in
theorem r_X7_codeOf_p4 {p : Program} {l : Launch} {e : Env} {s : State} {m : MethodId} {args : Array Value} {below : List Frame} {meth : Method} {c : Code} {G : GG} {A : Nat → Prop} (C : Cx p s m args meth c G A cX7_codeOf 4 RX7 wsX7_codeOf (some .int)) (n : Nat) {z : Int32} : ∀ (t : Nat), ∀ (w : Wd) (a0 : Int32) (a1 : Int32) (a2 : Int32) (a3 : Int32), m_X7_codeOf_p4 n t w a0 a1 a2 a3 = some z → V p l e { frames := 0, cells := 0, slots := 0, locals := 0 } s m args below meth c G A 4 4 [(0, .int a0), (1, .int a1), (2, .int a2), (3, .int a3)] [] w (some (.int z)) w := by
  intro t
  induction t with
  | zero =>
    intro w a0 a1 a2 a3 h
    rw [m_X7_codeOf_p4] at h
    cases h
  | succ t ih =>
    intro w a0 a1 a2 a3 h
    rw [m_X7_codeOf_p4] at h
    refine v_iload_n C 3 dX7_codeOf_4 rfl rfl ?_
    refine v_bipush C (v := 6) dX7_codeOf_5 (by decide) ?_
    refine v_icmp_ge C (tgt := 40) dX7_codeOf_7 (by decide) (fun q => ?_) (fun q => ?_)
    · have h := ite_t q h
      refine v_iload_n C 2 dX7_codeOf_40 rfl rfl ?_
      obtain rfl := Option.some.inj h
      exact v_iret C dX7_codeOf_41
    · have h := ite_f q h
      refine v_iload_n C 2 dX7_codeOf_10 rfl rfl ?_
      refine v_iload_n C 0 dX7_codeOf_11 rfl rfl ?_
      refine v_iload_n C 3 dX7_codeOf_12 rfl rfl ?_
      refine v_ishr C dX7_codeOf_13 ?_
      refine v_iconst C (v := 1) dX7_codeOf_14 (by decide) ?_
      refine v_iand C dX7_codeOf_15 ?_
      refine v_iconst C (v := 2) dX7_codeOf_16 (by decide) ?_
      refine v_at (pc' := 17) rfl ?_
      refine v_iload_n C 3 dX7_codeOf_17 rfl rfl ?_
      refine v_imul C dX7_codeOf_18 ?_
      refine v_ishl C dX7_codeOf_19 ?_
      refine v_iload_n C 1 dX7_codeOf_20 rfl rfl ?_
      refine v_iload_n C 3 dX7_codeOf_21 rfl rfl ?_
      refine v_ishr C dX7_codeOf_22 ?_
      refine v_iconst C (v := 1) dX7_codeOf_23 (by decide) ?_
      refine v_iand C dX7_codeOf_24 ?_
      refine v_at (pc' := 25) rfl ?_
      refine v_iconst C (v := 2) dX7_codeOf_25 (by decide) ?_
      refine v_iload_n C 3 dX7_codeOf_26 rfl rfl ?_
      refine v_imul C dX7_codeOf_27 ?_
      refine v_iconst C (v := 1) dX7_codeOf_28 (by decide) ?_
      refine v_iadd C dX7_codeOf_29 ?_
      refine v_ishl C dX7_codeOf_30 ?_
      refine v_ior C dX7_codeOf_31 ?_
      refine v_ior C dX7_codeOf_32 ?_
      refine v_at (pc' := 33) rfl ?_
      obtain ⟨y1, e_y1, h⟩ := nmb h
      refine v_topI e_y1 ?_
      refine v_istore_n C (lv' := [(2, .int y1), (0, .int a0), (1, .int a1), (3, .int a3)]) dX7_codeOf_33 rfl (by decide) rfl ?_
      refine v_iinc C (k := 3) (v := (a3 + 1)) (lv' := [(3, .int (a3 + 1)), (2, .int y1), (0, .int a0), (1, .int a1)]) dX7_codeOf_34 rfl rfl (by decide) rfl ?_
      refine v_goto C (tgt := 4) dX7_codeOf_37 (by decide) ?_
      refine v_sub [2, 3, 1, 0] rfl ?_
      exact ih _ _ _ _ _ h
set_option maxRecDepth 100000 in
set_option maxHeartbeats 4000000 in
theorem r_X7_codeOf {l : Launch} {G : GG} {A : Nat → Prop} {n : Nat} {w : Wd} {a0 : Int32} {a1 : Int32} {z : Int32} (h : m_X7_codeOf n w a0 a1 = some z) : Con l yX7_codeOf wsX7_codeOf { frames := 0, cells := 0, slots := 0, locals := 0 } G A [.int a0, .int a1] w (some (.int z)) w := by
  refine Con.of (own := RX7) (cc := cX7_codeOf) (maxL := 4) (ret := (some .int)) rfl (by decide) rfl (Nat.le_of_ble_eq_true rfl) ?_
  intro p e s m args below meth c C
  show V p l e { frames := 0, cells := 0, slots := 0, locals := 0 } s m args below meth c G A 4 0 [(0, .int a0), (1, .int a1)] [] w (some (.int z)) w
  unfold m_X7_codeOf at h
  refine v_iconst C (v := 0) dX7_codeOf_0 (by decide) ?_
  refine v_istore_n C (lv' := [(2, .int 0), (0, .int a0), (1, .int a1)]) dX7_codeOf_1 rfl (by decide) rfl ?_
  refine v_iconst C (v := 0) dX7_codeOf_2 (by decide) ?_
  refine v_istore_n C (lv' := [(3, .int 0), (2, .int 0), (0, .int a0), (1, .int a1)]) dX7_codeOf_3 rfl (by decide) rfl ?_
  refine v_sub [2, 3, 1, 0] rfl ?_
  exact r_X7_codeOf_p4 C n n _ _ _ _ _ h
set_option maxRecDepth 100000 in
set_option maxHeartbeats 4000000 in
theorem r_X7_xOf_p4 {p : Program} {l : Launch} {e : Env} {s : State} {m : MethodId} {args : Array Value} {below : List Frame} {meth : Method} {c : Code} {G : GG} {A : Nat → Prop} (C : Cx p s m args meth c G A cX7_xOf 3 RX7 wsX7_xOf (some .int)) (n : Nat) {z : Int32} : ∀ (t : Nat), ∀ (w : Wd) (a0 : Int32) (a1 : Int32) (a2 : Int32), m_X7_xOf_p4 n t w a0 a1 a2 = some z → V p l e { frames := 0, cells := 0, slots := 0, locals := 0 } s m args below meth c G A 3 4 [(0, .int a0), (1, .int a1), (2, .int a2)] [] w (some (.int z)) w := by
  intro t
  induction t with
  | zero =>
    intro w a0 a1 a2 h
    rw [m_X7_xOf_p4] at h
    cases h
  | succ t ih =>
    intro w a0 a1 a2 h
    rw [m_X7_xOf_p4] at h
    refine v_iload_n C 2 dX7_xOf_4 rfl rfl ?_
    refine v_bipush C (v := 6) dX7_xOf_5 (by decide) ?_
    refine v_icmp_ge C (tgt := 28) dX7_xOf_7 (by decide) (fun q => ?_) (fun q => ?_)
    · have h := ite_t q h
      refine v_iload_n C 1 dX7_xOf_28 rfl rfl ?_
      obtain rfl := Option.some.inj h
      exact v_iret C dX7_xOf_29
    · have h := ite_f q h
      refine v_iload_n C 1 dX7_xOf_10 rfl rfl ?_
      refine v_iload_n C 0 dX7_xOf_11 rfl rfl ?_
      refine v_iconst C (v := 2) dX7_xOf_12 (by decide) ?_
      refine v_iload_n C 2 dX7_xOf_13 rfl rfl ?_
      refine v_imul C dX7_xOf_14 ?_
      refine v_ishr C dX7_xOf_15 ?_
      refine v_iconst C (v := 1) dX7_xOf_16 (by decide) ?_
      refine v_at (pc' := 17) rfl ?_
      refine v_iand C dX7_xOf_17 ?_
      refine v_iload_n C 2 dX7_xOf_18 rfl rfl ?_
      refine v_ishl C dX7_xOf_19 ?_
      refine v_ior C dX7_xOf_20 ?_
      refine v_istore_n C (lv' := [(1, .int (a1 ||| (((a0 >>> ((2 * a2) &&& 31 : Int32)) &&& 1) <<< (a2 &&& 31 : Int32)))), (0, .int a0), (2, .int a2)]) dX7_xOf_21 rfl (by decide) rfl ?_
      refine v_iinc C (k := 2) (v := (a2 + 1)) (lv' := [(2, .int (a2 + 1)), (1, .int (a1 ||| (((a0 >>> ((2 * a2) &&& 31 : Int32)) &&& 1) <<< (a2 &&& 31 : Int32)))), (0, .int a0)]) dX7_xOf_22 rfl rfl (by decide) rfl ?_
      refine v_goto C (tgt := 4) dX7_xOf_25 (by decide) ?_
      refine v_sub [2, 1, 0] rfl ?_
      exact ih _ _ _ _ h
set_option maxRecDepth 100000 in
set_option maxHeartbeats 4000000 in
theorem r_X7_xOf {l : Launch} {G : GG} {A : Nat → Prop} {n : Nat} {w : Wd} {a0 : Int32} {z : Int32} (h : m_X7_xOf n w a0 = some z) : Con l yX7_xOf wsX7_xOf { frames := 0, cells := 0, slots := 0, locals := 0 } G A [.int a0] w (some (.int z)) w := by
  refine Con.of (own := RX7) (cc := cX7_xOf) (maxL := 3) (ret := (some .int)) rfl (by decide) rfl (Nat.le_of_ble_eq_true rfl) ?_
  intro p e s m args below meth c C
  show V p l e { frames := 0, cells := 0, slots := 0, locals := 0 } s m args below meth c G A 3 0 [(0, .int a0)] [] w (some (.int z)) w
  unfold m_X7_xOf at h
  refine v_iconst C (v := 0) dX7_xOf_0 (by decide) ?_
  refine v_istore_n C (lv' := [(1, .int 0), (0, .int a0)]) dX7_xOf_1 rfl (by decide) rfl ?_
  refine v_iconst C (v := 0) dX7_xOf_2 (by decide) ?_
  refine v_istore_n C (lv' := [(2, .int 0), (1, .int 0), (0, .int a0)]) dX7_xOf_3 rfl (by decide) rfl ?_
  refine v_sub [2, 1, 0] rfl ?_
  exact r_X7_xOf_p4 C n n _ _ _ _ h
theorem hS_X7_xOf : yX7_xOf.cls ≠ "java/lang/invoke/MethodHandle" ∧ yX7_xOf.cls ≠ "java/lang/invoke/VarHandle" ∧ (parseMethodDescriptor yX7_xOf.desc).map (fun d => d.parameters.length) = some 1 := by decide +kernel
set_option maxRecDepth 100000 in
set_option maxHeartbeats 4000000 in
theorem r_X7_yOf {l : Launch} {G : GG} {A : Nat → Prop} {n : Nat} {w : Wd} {a0 : Int32} {z : Int32} (h : m_X7_yOf n w a0 = some z) : Con l yX7_yOf wsX7_yOf { frames := 1, cells := 0, slots := 0, locals := 22 } G A [.int a0] w (some (.int z)) w := by
  refine Con.of (own := RX7) (cc := cX7_yOf) (maxL := 1) (ret := (some .int)) rfl (by decide) rfl (Nat.le_of_ble_eq_true rfl) ?_
  intro p e s m args below meth c C
  show V p l e { frames := 1, cells := 0, slots := 0, locals := 22 } s m args below meth c G A 1 0 [(0, .int a0)] [] w (some (.int z)) w
  unfold m_X7_yOf at h
  refine v_iload_n C 0 dX7_yOf_0 rfl rfl ?_
  refine v_iconst C (v := 1) dX7_yOf_1 (by decide) ?_
  refine v_ishr C dX7_yOf_2 ?_
  obtain ⟨x1, e_x1, h⟩ := bnd h
  refine v_callSi C (av := [.int (a0 >>> (1 &&& 31 : Int32))]) (rest := []) gX7_yOf_X7_xOf rfl ⟨rfl, rfl⟩ hS_X7_xOf ⟨(Nat.le_of_ble_eq_true rfl), (Nat.le_of_ble_eq_true rfl)⟩ (r_X7_xOf (A := A) e_x1) rfl rfl (Nat.le_of_ble_eq_true rfl) dX7_yOf_3 ?_
  obtain rfl := Option.some.inj h
  exact v_iret C dX7_yOf_6
theorem fX7_placeOf_7 : Cond.fieldLink RX7 7 (TX7 0).1 (TX7 0).2.1 (TX7 0).2.2.1 ∈ wsX7_placeOf := by decide +kernel
theorem inX7_placeOf_X7 : ∀ x ∈ u_ws RX7 TX7 20, x ∈ wsX7_placeOf := by decide +kernel
theorem hS_X7_codeOf : yX7_codeOf.cls ≠ "java/lang/invoke/MethodHandle" ∧ yX7_codeOf.cls ≠ "java/lang/invoke/VarHandle" ∧ (parseMethodDescriptor yX7_codeOf.desc).map (fun d => d.parameters.length) = some 2 := by decide +kernel
set_option maxRecDepth 100000 in
set_option maxHeartbeats 4000000 in
theorem r_X7_placeOf {l : Launch} {G : GG} {A : Nat → Prop} {n : Nat} {w : Wd} {this : Nat} {a1 : Int32} {z : Int32} (h : m_X7_placeOf n w this a1 = some z) : Con l yX7_placeOf wsX7_placeOf { frames := 1, cells := 0, slots := 0, locals := 23 } G A [.ref this, .int a1] w (some (.int z)) w := by
  refine Con.of (own := RX7) (cc := cX7_placeOf) (maxL := 2) (ret := (some .int)) rfl (by decide) rfl (Nat.le_of_ble_eq_true rfl) ?_
  intro p e s m args below meth c C
  show V p l e { frames := 1, cells := 0, slots := 0, locals := 23 } s m args below meth c G A 2 0 [(0, .ref this), (1, .int a1)] [] w (some (.int z)) w
  unfold m_X7_placeOf at h
  refine v_aload_n C 0 dX7_placeOf_0 rfl rfl ?_
  obtain ⟨q1, e_q1, h⟩ := bnd h
  refine v_getf C (ci := 6) (k := 0) rfl inX7_placeOf_X7 (by decide) fX7_placeOf_7 dX7_placeOf_1 (gfR_e e_q1) ?_
  refine v_iconst C (v := 5) dX7_placeOf_4 (by decide) ?_
  refine v_iload_n C 1 dX7_placeOf_5 rfl rfl ?_
  refine v_imul C dX7_placeOf_6 ?_
  refine v_iconst C (v := 1) dX7_placeOf_7 (by decide) ?_
  refine v_iadd C dX7_placeOf_8 ?_
  refine v_at (pc' := 9) rfl ?_
  obtain ⟨x2, e_x2, h⟩ := bnd h
  refine v_iald C dX7_placeOf_9 e_x2 ?_
  refine v_aload_n C 0 dX7_placeOf_10 rfl rfl ?_
  obtain ⟨q3, e_q3, h⟩ := bnd h
  refine v_getf C (ci := 6) (k := 0) rfl inX7_placeOf_X7 (by decide) fX7_placeOf_7 dX7_placeOf_11 (gfR_e e_q3) ?_
  refine v_iconst C (v := 5) dX7_placeOf_14 (by decide) ?_
  refine v_iload_n C 1 dX7_placeOf_15 rfl rfl ?_
  refine v_imul C dX7_placeOf_16 ?_
  refine v_iconst C (v := 2) dX7_placeOf_17 (by decide) ?_
  refine v_iadd C dX7_placeOf_18 ?_
  refine v_at (pc' := 19) rfl ?_
  obtain ⟨x4, e_x4, h⟩ := bnd h
  refine v_iald C dX7_placeOf_19 e_x4 ?_
  obtain ⟨x5, e_x5, h⟩ := bnd h
  refine v_callSi C (av := [.int x2, .int x4]) (rest := []) gX7_placeOf_X7_codeOf rfl ⟨rfl, rfl⟩ hS_X7_codeOf ⟨(Nat.le_of_ble_eq_true rfl), (Nat.le_of_ble_eq_true rfl)⟩ (r_X7_codeOf (A := A) e_x5) rfl rfl (Nat.le_of_ble_eq_true rfl) dX7_placeOf_20 ?_
  obtain rfl := Option.some.inj h
  exact v_iret C dX7_placeOf_23
set_option maxRecDepth 100000 in
set_option maxHeartbeats 4000000 in
theorem r_X7_spanOf_p2 {p : Program} {l : Launch} {e : Env} {s : State} {m : MethodId} {args : Array Value} {below : List Frame} {meth : Method} {c : Code} {G : GG} {A : Nat → Prop} (C : Cx p s m args meth c G A cX7_spanOf 3 RX7 wsX7_spanOf (some .int)) (n : Nat) {z : Int32} : ∀ (t : Nat), ∀ (w : Wd) (a0 : Int32) (a1 : Int32) (a2 : Int32), m_X7_spanOf_p2 n t w a0 a1 a2 = some z → V p l e { frames := 0, cells := 0, slots := 0, locals := 0 } s m args below meth c G A 3 2 [(0, .int a0), (1, .int a1), (2, .int a2)] [] w (some (.int z)) w := by
  intro t
  induction t with
  | zero =>
    intro w a0 a1 a2 h
    rw [m_X7_spanOf_p2] at h
    cases h
  | succ t ih =>
    intro w a0 a1 a2 h
    rw [m_X7_spanOf_p2] at h
    refine v_iload_n C 0 dX7_spanOf_2 rfl rfl ?_
    refine v_iconst C (v := 2) dX7_spanOf_3 (by decide) ?_
    refine v_iload_n C 2 dX7_spanOf_4 rfl rfl ?_
    refine v_imul C dX7_spanOf_5 ?_
    refine v_ishr C dX7_spanOf_6 ?_
    refine v_iload_n C 1 dX7_spanOf_7 rfl rfl ?_
    refine v_iconst C (v := 2) dX7_spanOf_8 (by decide) ?_
    refine v_at (pc' := 9) rfl ?_
    refine v_iload_n C 2 dX7_spanOf_9 rfl rfl ?_
    refine v_imul C dX7_spanOf_10 ?_
    refine v_ishr C dX7_spanOf_11 ?_
    refine v_icmp_eq C (tgt := 21) dX7_spanOf_12 (by decide) (fun q => ?_) (fun q => ?_)
    · have h := ite_t q h
      refine v_iload_n C 2 dX7_spanOf_21 rfl rfl ?_
      obtain rfl := Option.some.inj h
      exact v_iret C dX7_spanOf_22
    · have h := ite_f q h
      refine v_iinc C (k := 2) (v := (a2 + 1)) (lv' := [(2, .int (a2 + 1)), (0, .int a0), (1, .int a1)]) dX7_spanOf_15 rfl rfl (by decide) rfl ?_
      refine v_goto C (tgt := 2) dX7_spanOf_18 (by decide) ?_
      refine v_sub [1, 2, 0] rfl ?_
      exact ih _ _ _ _ h
set_option maxRecDepth 100000 in
set_option maxHeartbeats 4000000 in
theorem r_X7_spanOf {l : Launch} {G : GG} {A : Nat → Prop} {n : Nat} {w : Wd} {a0 : Int32} {a1 : Int32} {z : Int32} (h : m_X7_spanOf n w a0 a1 = some z) : Con l yX7_spanOf wsX7_spanOf { frames := 0, cells := 0, slots := 0, locals := 0 } G A [.int a0, .int a1] w (some (.int z)) w := by
  refine Con.of (own := RX7) (cc := cX7_spanOf) (maxL := 3) (ret := (some .int)) rfl (by decide) rfl (Nat.le_of_ble_eq_true rfl) ?_
  intro p e s m args below meth c C
  show V p l e { frames := 0, cells := 0, slots := 0, locals := 0 } s m args below meth c G A 3 0 [(0, .int a0), (1, .int a1)] [] w (some (.int z)) w
  unfold m_X7_spanOf at h
  refine v_iconst C (v := 0) dX7_spanOf_0 (by decide) ?_
  refine v_istore_n C (lv' := [(2, .int 0), (0, .int a0), (1, .int a1)]) dX7_spanOf_1 rfl (by decide) rfl ?_
  refine v_sub [1, 2, 0] rfl ?_
  exact r_X7_spanOf_p2 C n n _ _ _ _ h
theorem fX7_enters_22 : Cond.fieldLink RX7 22 (TX7 7).1 (TX7 7).2.1 (TX7 7).2.2.1 ∈ wsX7_enters := by decide +kernel
theorem inX7_enters_X7 : ∀ x ∈ u_ws RX7 TX7 20, x ∈ wsX7_enters := by decide +kernel
theorem fX7_enters_25 : Cond.fieldLink RX7 25 (TX7 8).1 (TX7 8).2.1 (TX7 8).2.2.1 ∈ wsX7_enters := by decide +kernel
set_option maxRecDepth 100000 in
set_option maxHeartbeats 4000000 in
theorem r_X7_enters_p95 {p : Program} {l : Launch} {e : Env} {s : State} {m : MethodId} {args : Array Value} {below : List Frame} {meth : Method} {c : Code} {G : GG} {A : Nat → Prop} (C : Cx p s m args meth c G A cX7_enters 5 RX7 wsX7_enters none) (n : Nat) {z : Wd} : ∀ (w : Wd) (a0 : Nat) (a1 : Int32) (a2 : Int32) (a3 : Int32), m_X7_enters_p95 n w a0 a1 a2 a3 = some z → V p l e { frames := 0, cells := 0, slots := 0, locals := 0 } s m args below meth c G A 5 95 [(0, .ref a0), (1, .int a1), (2, .int a2), (3, .int a3)] [] w (none) z := by
  intro w a0 a1 a2 a3 h
  unfold m_X7_enters_p95 at h
  refine v_aload_n C 0 dX7_enters_95 rfl rfl ?_
  obtain ⟨q1, e_q1, h⟩ := bnd h
  refine v_getf C (ci := 6) (k := 7) rfl inX7_enters_X7 (by decide) fX7_enters_22 dX7_enters_96 (gfR_e e_q1) ?_
  refine v_bipush C (v := 32) dX7_enters_99 (by decide) ?_
  refine v_iload_n C 1 dX7_enters_101 rfl rfl ?_
  refine v_imul C dX7_enters_102 ?_
  refine v_iload_n C 3 dX7_enters_103 rfl rfl ?_
  refine v_iadd C dX7_enters_104 ?_
  refine v_at (pc' := 105) rfl ?_
  refine v_iload_n C 2 dX7_enters_105 rfl rfl ?_
  obtain ⟨w2, e_w2, h⟩ := bnd h
  refine v_iast C dX7_enters_106 e_w2 ?_
  refine v_aload_n C 0 dX7_enters_107 rfl rfl ?_
  obtain ⟨q3, e_q3, h⟩ := bnd h
  refine v_getf C (ci := 6) (k := 8) rfl inX7_enters_X7 (by decide) fX7_enters_25 dX7_enters_108 (gfR_e e_q3) ?_
  refine v_iload_n C 1 dX7_enters_111 rfl rfl ?_
  refine v_dup2_11 C dX7_enters_112 rfl rfl ?_
  obtain ⟨x4, e_x4, h⟩ := bnd h
  refine v_iald C dX7_enters_113 e_x4 ?_
  refine v_iconst C (v := 1) dX7_enters_114 (by decide) ?_
  refine v_at (pc' := 115) rfl ?_
  refine v_iadd C dX7_enters_115 ?_
  obtain ⟨w5, e_w5, h⟩ := bnd h
  refine v_iast C dX7_enters_116 e_w5 ?_
  obtain rfl := Option.some.inj h
  exact v_vret C dX7_enters_117
set_option maxRecDepth 100000 in
set_option maxHeartbeats 4000000 in
theorem r_X7_enters_p44 {p : Program} {l : Launch} {e : Env} {s : State} {m : MethodId} {args : Array Value} {below : List Frame} {meth : Method} {c : Code} {G : GG} {A : Nat → Prop} (C : Cx p s m args meth c G A cX7_enters 5 RX7 wsX7_enters none) (n : Nat) {z : Wd} : ∀ (t : Nat), ∀ (w : Wd) (a0 : Nat) (a1 : Int32) (a2 : Int32) (a3 : Int32), m_X7_enters_p44 n t w a0 a1 a2 a3 = some z → V p l e { frames := 0, cells := 0, slots := 0, locals := 0 } s m args below meth c G A 5 44 [(0, .ref a0), (1, .int a1), (2, .int a2), (3, .int a3)] [] w (none) z := by
  intro t
  induction t with
  | zero =>
    intro w a0 a1 a2 a3 h
    rw [m_X7_enters_p44] at h
    cases h
  | succ t ih =>
    intro w a0 a1 a2 a3 h
    rw [m_X7_enters_p44] at h
    refine v_iload_n C 3 dX7_enters_44 rfl rfl ?_
    refine v_if_le C (tgt := 95) dX7_enters_45 (by decide) (fun q => ?_) (fun q => ?_)
    · have h := ite_t q h
      exact r_X7_enters_p95 C n _ _ _ _ _ h
    · have h := ite_f q h
      refine v_aload_n C 0 dX7_enters_48 rfl rfl ?_
      obtain ⟨q1, e_q1, h⟩ := bnd h
      refine v_getf C (ci := 6) (k := 7) rfl inX7_enters_X7 (by decide) fX7_enters_22 dX7_enters_49 (gfR_e e_q1) ?_
      refine v_bipush C (v := 32) dX7_enters_52 (by decide) ?_
      refine v_iload_n C 1 dX7_enters_54 rfl rfl ?_
      refine v_imul C dX7_enters_55 ?_
      refine v_iload_n C 3 dX7_enters_56 rfl rfl ?_
      refine v_iadd C dX7_enters_57 ?_
      refine v_at (pc' := 58) rfl ?_
      refine v_iconst C (v := 1) dX7_enters_58 (by decide) ?_
      refine v_isub C dX7_enters_59 ?_
      obtain ⟨x2, e_x2, h⟩ := bnd h
      refine v_iald C dX7_enters_60 e_x2 ?_
      refine v_iload_n C 2 dX7_enters_61 rfl rfl ?_
      refine v_icmp_le C (tgt := 95) dX7_enters_62 (by decide) (fun q => ?_) (fun q => ?_)
      · have h := ite_t q h
        exact r_X7_enters_p95 C n _ _ _ _ _ h
      · have h := ite_f q h
        refine v_aload_n C 0 dX7_enters_65 rfl rfl ?_
        obtain ⟨q3, e_q3, h⟩ := bnd h
        refine v_getf C (ci := 6) (k := 7) rfl inX7_enters_X7 (by decide) fX7_enters_22 dX7_enters_66 (gfR_e e_q3) ?_
        refine v_bipush C (v := 32) dX7_enters_69 (by decide) ?_
        refine v_iload_n C 1 dX7_enters_71 rfl rfl ?_
        refine v_imul C dX7_enters_72 ?_
        refine v_iload_n C 3 dX7_enters_73 rfl rfl ?_
        refine v_iadd C dX7_enters_74 ?_
        refine v_at (pc' := 75) rfl ?_
        refine v_aload_n C 0 dX7_enters_75 rfl rfl ?_
        obtain ⟨q4, e_q4, h⟩ := bnd h
        refine v_getf C (ci := 6) (k := 7) rfl inX7_enters_X7 (by decide) fX7_enters_22 dX7_enters_76 (gfR_e e_q4) ?_
        refine v_bipush C (v := 32) dX7_enters_79 (by decide) ?_
        refine v_iload_n C 1 dX7_enters_81 rfl rfl ?_
        refine v_imul C dX7_enters_82 ?_
        refine v_iload_n C 3 dX7_enters_83 rfl rfl ?_
        refine v_iadd C dX7_enters_84 ?_
        refine v_iconst C (v := 1) dX7_enters_85 (by decide) ?_
        refine v_at (pc' := 86) rfl ?_
        refine v_isub C dX7_enters_86 ?_
        obtain ⟨x5, e_x5, h⟩ := bnd h
        refine v_iald C dX7_enters_87 e_x5 ?_
        obtain ⟨w6, e_w6, h⟩ := bnd h
        refine v_iast C dX7_enters_88 e_w6 ?_
        refine v_iinc C (k := 3) (v := (a3 + (-1))) (lv' := [(3, .int (a3 + (-1))), (0, .ref a0), (1, .int a1), (2, .int a2)]) dX7_enters_89 rfl rfl (by decide) rfl ?_
        refine v_goto C (tgt := 44) dX7_enters_92 (by decide) ?_
        refine v_sub [1, 2, 3, 0] rfl ?_
        exact ih _ _ _ _ _ h
set_option maxRecDepth 100000 in
set_option maxHeartbeats 4000000 in
theorem r_X7_enters_p10 {p : Program} {l : Launch} {e : Env} {s : State} {m : MethodId} {args : Array Value} {below : List Frame} {meth : Method} {c : Code} {G : GG} {A : Nat → Prop} (C : Cx p s m args meth c G A cX7_enters 5 RX7 wsX7_enters none) (n : Nat) {z : Wd} : ∀ (t : Nat), ∀ (w : Wd) (a0 : Nat) (a1 : Int32) (a2 : Int32) (a3 : Int32) (a4 : Int32), m_X7_enters_p10 n t w a0 a1 a2 a3 a4 = some z → V p l e { frames := 0, cells := 0, slots := 0, locals := 0 } s m args below meth c G A 5 10 [(0, .ref a0), (1, .int a1), (2, .int a2), (3, .int a3), (4, .int a4)] [] w (none) z := by
  intro t
  induction t with
  | zero =>
    intro w a0 a1 a2 a3 a4 h
    rw [m_X7_enters_p10] at h
    cases h
  | succ t ih =>
    intro w a0 a1 a2 a3 a4 h
    rw [m_X7_enters_p10] at h
    refine v_iload C 4 dX7_enters_10 rfl ?_
    refine v_aload_n C 0 dX7_enters_12 rfl rfl ?_
    obtain ⟨q1, e_q1, h⟩ := bnd h
    refine v_getf C (ci := 6) (k := 8) rfl inX7_enters_X7 (by decide) fX7_enters_25 dX7_enters_13 (gfR_e e_q1) ?_
    refine v_iload_n C 1 dX7_enters_16 rfl rfl ?_
    obtain ⟨x2, e_x2, h⟩ := bnd h
    refine v_iald C dX7_enters_17 e_x2 ?_
    refine v_icmp_ge C (tgt := 44) dX7_enters_18 (by decide) (fun q => ?_) (fun q => ?_)
    · have h := ite_t q h
      refine v_sub [0, 1, 2, 3] rfl ?_
      exact r_X7_enters_p44 C n n _ _ _ _ _ h
    · have h := ite_f q h
      refine v_aload_n C 0 dX7_enters_21 rfl rfl ?_
      obtain ⟨q3, e_q3, h⟩ := bnd h
      refine v_getf C (ci := 6) (k := 7) rfl inX7_enters_X7 (by decide) fX7_enters_22 dX7_enters_22 (gfR_e e_q3) ?_
      refine v_bipush C (v := 32) dX7_enters_25 (by decide) ?_
      refine v_iload_n C 1 dX7_enters_27 rfl rfl ?_
      refine v_imul C dX7_enters_28 ?_
      refine v_iload C 4 dX7_enters_29 rfl ?_
      refine v_iadd C dX7_enters_31 ?_
      refine v_at (pc' := 32) rfl ?_
      obtain ⟨x4, e_x4, h⟩ := bnd h
      refine v_iald C dX7_enters_32 e_x4 ?_
      refine v_iload_n C 2 dX7_enters_33 rfl rfl ?_
      refine v_icmp_ne C (tgt := 38) dX7_enters_34 (by decide) (fun q => ?_) (fun q => ?_)
      · have h := ite_f q h
        refine v_iinc C (k := 4) (v := (a4 + 1)) (lv' := [(4, .int (a4 + 1)), (0, .ref a0), (1, .int a1), (2, .int a2), (3, .int a3)]) dX7_enters_38 rfl rfl (by decide) rfl ?_
        refine v_goto C (tgt := 10) dX7_enters_41 (by decide) ?_
        refine v_sub [1, 2, 3, 4, 0] rfl ?_
        exact ih _ _ _ _ _ _ h
      · have h := ite_t q h
        obtain rfl := Option.some.inj h
        exact v_vret C dX7_enters_37
set_option maxRecDepth 100000 in
set_option maxHeartbeats 4000000 in
theorem r_X7_enters {l : Launch} {G : GG} {A : Nat → Prop} {n : Nat} {w : Wd} {this : Nat} {a1 : Int32} {a2 : Int32} {z : Wd} (h : m_X7_enters n w this a1 a2 = some z) : Con l yX7_enters wsX7_enters { frames := 0, cells := 0, slots := 0, locals := 0 } G A [.ref this, .int a1, .int a2] w (none) z := by
  refine Con.of (own := RX7) (cc := cX7_enters) (maxL := 5) (ret := none) rfl (by decide) rfl (Nat.le_of_ble_eq_true rfl) ?_
  intro p e s m args below meth c C
  show V p l e { frames := 0, cells := 0, slots := 0, locals := 0 } s m args below meth c G A 5 0 [(0, .ref this), (1, .int a1), (2, .int a2)] [] w (none) z
  unfold m_X7_enters at h
  refine v_aload_n C 0 dX7_enters_0 rfl rfl ?_
  obtain ⟨q1, e_q1, h⟩ := bnd h
  refine v_getf C (ci := 6) (k := 8) rfl inX7_enters_X7 (by decide) fX7_enters_25 dX7_enters_1 (gfR_e e_q1) ?_
  refine v_iload_n C 1 dX7_enters_4 rfl rfl ?_
  obtain ⟨x2, e_x2, h⟩ := bnd h
  refine v_iald C dX7_enters_5 e_x2 ?_
  refine v_istore_n C (lv' := [(3, .int x2), (0, .ref this), (1, .int a1), (2, .int a2)]) dX7_enters_6 rfl (by decide) rfl ?_
  refine v_iconst C (v := 0) dX7_enters_7 (by decide) ?_
  refine v_istore C (lv' := [(4, .int 0), (3, .int x2), (0, .ref this), (1, .int a1), (2, .int a2)]) dX7_enters_8 (by decide) rfl ?_
  refine v_sub [2, 3, 4, 1, 0] rfl ?_
  exact r_X7_enters_p10 C n n _ _ _ _ _ _ h
set_option maxRecDepth 100000 in
set_option maxHeartbeats 4000000 in
theorem r_X7_firstOf {l : Launch} {G : GG} {A : Nat → Prop} {w : Wd} {a0 : Int32} {z : Int32} (h : m_X7_firstOf a0 = z) : Con l yX7_firstOf wsX7_firstOf { frames := 0, cells := 0, slots := 0, locals := 0 } G A [.int a0] w (some (.int z)) w := by
  refine Con.of (own := RX7) (cc := cX7_firstOf) (maxL := 1) (ret := (some .int)) rfl (by decide) rfl (Nat.le_of_ble_eq_true rfl) ?_
  intro p e s m args below meth c C
  show V p l e { frames := 0, cells := 0, slots := 0, locals := 0 } s m args below meth c G A 1 0 [(0, .int a0)] [] w (some (.int z)) w
  unfold m_X7_firstOf at h
  refine v_iload_n C 0 dX7_firstOf_0 rfl rfl ?_
  refine v_bipush C (v := 8) dX7_firstOf_1 (by decide) ?_
  refine v_idiv C dX7_firstOf_3 (by decide) ?_
  subst h
  exact v_iret C dX7_firstOf_4
set_option maxRecDepth 100000 in
set_option maxHeartbeats 4000000 in
theorem r_X7_span {l : Launch} {G : GG} {A : Nat → Prop} {w : Wd} {a0 : Int32} {z : Int32} (h : m_X7_span a0 = z) : Con l yX7_span wsX7_span { frames := 0, cells := 0, slots := 0, locals := 0 } G A [.int a0] w (some (.int z)) w := by
  refine Con.of (own := RX7) (cc := cX7_span) (maxL := 1) (ret := (some .int)) rfl (by decide) rfl (Nat.le_of_ble_eq_true rfl) ?_
  intro p e s m args below meth c C
  show V p l e { frames := 0, cells := 0, slots := 0, locals := 0 } s m args below meth c G A 1 0 [(0, .int a0)] [] w (some (.int z)) w
  unfold m_X7_span at h
  refine v_bipush C (v := 6) dX7_span_0 (by decide) ?_
  refine v_iload_n C 0 dX7_span_2 rfl rfl ?_
  refine v_bipush C (v := 8) dX7_span_3 (by decide) ?_
  refine v_irem C dX7_span_5 (by decide) ?_
  refine v_isub C dX7_span_6 ?_
  subst h
  exact v_iret C dX7_span_7
theorem hS_X7_firstOf : yX7_firstOf.cls ≠ "java/lang/invoke/MethodHandle" ∧ yX7_firstOf.cls ≠ "java/lang/invoke/VarHandle" ∧ (parseMethodDescriptor yX7_firstOf.desc).map (fun d => d.parameters.length) = some 1 := by decide +kernel
theorem hS_X7_span : yX7_span.cls ≠ "java/lang/invoke/MethodHandle" ∧ yX7_span.cls ≠ "java/lang/invoke/VarHandle" ∧ (parseMethodDescriptor yX7_span.desc).map (fun d => d.parameters.length) = some 1 := by decide +kernel
theorem z_X7_holds (a0 : Int32) (a1 : Int32) : bo (m_X7_holds a0 a1) := by
  unfold m_X7_holds
  repeat' (first | (refine bo_ite ?_ ?_) | exact bo_0 | exact bo_1 | exact z_X7_firstOf .. | exact z_X7_span ..)
set_option maxRecDepth 100000 in
set_option maxHeartbeats 4000000 in
theorem r_X7_holds {l : Launch} {G : GG} {A : Nat → Prop} {w : Wd} {a0 : Int32} {a1 : Int32} {z : Int32} (h : m_X7_holds a0 a1 = z) : Con l yX7_holds wsX7_holds { frames := 1, cells := 0, slots := 0, locals := 20 } G A [.int a0, .int a1] w (some (.int z)) w := by
  refine Con.of (own := RX7) (cc := cX7_holds) (maxL := 2) (ret := (some .boolean)) rfl (by decide) rfl (Nat.le_of_ble_eq_true rfl) ?_
  intro p e s m args below meth c C
  show V p l e { frames := 1, cells := 0, slots := 0, locals := 20 } s m args below meth c G A 2 0 [(0, .int a0), (1, .int a1)] [] w (some (.int z)) w
  unfold m_X7_holds at h
  refine v_iload_n C 0 dX7_holds_0 rfl rfl ?_
  refine v_callSi C (av := [.int a0]) (rest := []) gX7_holds_X7_firstOf rfl ⟨rfl, rfl⟩ hS_X7_firstOf ⟨(Nat.le_of_ble_eq_true rfl), (Nat.le_of_ble_eq_true rfl)⟩ (r_X7_firstOf (A := A) rfl) rfl rfl (Nat.le_of_ble_eq_true rfl) dX7_holds_1 ?_
  refine v_iconst C (v := 2) dX7_holds_4 (by decide) ?_
  refine v_iload_n C 0 dX7_holds_5 rfl rfl ?_
  refine v_callSi C (av := [.int a0]) (rest := [.int 2, .int (m_X7_firstOf a0)]) gX7_holds_X7_span rfl ⟨rfl, rfl⟩ hS_X7_span ⟨(Nat.le_of_ble_eq_true rfl), (Nat.le_of_ble_eq_true rfl)⟩ (r_X7_span (A := A) rfl) rfl rfl (Nat.le_of_ble_eq_true rfl) dX7_holds_6 ?_
  refine v_imul C dX7_holds_9 ?_
  refine v_ishr C dX7_holds_10 ?_
  refine v_at (pc' := 11) rfl ?_
  refine v_iload_n C 1 dX7_holds_11 rfl rfl ?_
  refine v_iconst C (v := 2) dX7_holds_12 (by decide) ?_
  refine v_iload_n C 0 dX7_holds_13 rfl rfl ?_
  refine v_callSi C (av := [.int a0]) (rest := [.int 2, .int a1, .int ((m_X7_firstOf a0) >>> ((2 * (m_X7_span a0)) &&& 31 : Int32))]) gX7_holds_X7_span rfl ⟨rfl, rfl⟩ hS_X7_span ⟨(Nat.le_of_ble_eq_true rfl), (Nat.le_of_ble_eq_true rfl)⟩ (r_X7_span (A := A) rfl) rfl rfl (Nat.le_of_ble_eq_true rfl) dX7_holds_14 ?_
  refine v_imul C dX7_holds_17 ?_
  refine v_ishr C dX7_holds_18 ?_
  refine v_icmp_ne C (tgt := 26) dX7_holds_19 (by decide) (fun q => ?_) (fun q => ?_)
  · have h := ite_f q h
    refine v_iconst C (v := 0) dX7_holds_26 (by decide) ?_
    subst h
    exact v_zret C dX7_holds_27 bo_0
  · have h := ite_t q h
    refine v_iconst C (v := 1) dX7_holds_22 (by decide) ?_
    refine v_goto C (tgt := 27) dX7_holds_23 (by decide) ?_
    subst h
    exact v_zret C dX7_holds_27 bo_1
theorem hV_X7_isOn : yX7_isOn.cls = RX7 ∧ yX7_isOn.cls ≠ "java/lang/invoke/MethodHandle" ∧ yX7_isOn.cls ≠ "java/lang/invoke/VarHandle" ∧ (parseMethodDescriptor yX7_isOn.desc).map (fun d => d.parameters.length) = some 2 := by decide +kernel
theorem hV_X7_placeOf : yX7_placeOf.cls = RX7 ∧ yX7_placeOf.cls ≠ "java/lang/invoke/MethodHandle" ∧ yX7_placeOf.cls ≠ "java/lang/invoke/VarHandle" ∧ (parseMethodDescriptor yX7_placeOf.desc).map (fun d => d.parameters.length) = some 1 := by decide +kernel
theorem hS_X7_spanOf : yX7_spanOf.cls ≠ "java/lang/invoke/MethodHandle" ∧ yX7_spanOf.cls ≠ "java/lang/invoke/VarHandle" ∧ (parseMethodDescriptor yX7_spanOf.desc).map (fun d => d.parameters.length) = some 2 := by decide +kernel
theorem hV_X7_enters : yX7_enters.cls = RX7 ∧ yX7_enters.cls ≠ "java/lang/invoke/MethodHandle" ∧ yX7_enters.cls ≠ "java/lang/invoke/VarHandle" ∧ (parseMethodDescriptor yX7_enters.desc).map (fun d => d.parameters.length) = some 2 := by decide +kernel
theorem fX7_lays_25 : Cond.fieldLink RX7 25 (TX7 8).1 (TX7 8).2.1 (TX7 8).2.2.1 ∈ wsX7_lays := by decide +kernel
theorem inX7_lays_X7 : ∀ x ∈ u_ws RX7 TX7 20, x ∈ wsX7_lays := by decide +kernel
set_option maxRecDepth 100000 in
set_option maxHeartbeats 4000000 in
theorem r_X7_lays_p30 {p : Program} {l : Launch} {e : Env} {s : State} {m : MethodId} {args : Array Value} {below : List Frame} {meth : Method} {c : Code} {G : GG} {A : Nat → Prop} (C : Cx p s m args meth c G A cX7_lays 7 RX7 wsX7_lays none) (n : Nat) {k2 : Wd → Nat → Int32 → Option Wd} {k22 : Wd → Nat → Int32 → Int32 → Option Wd} {z : Wd} (H2 : ∀ (w : Wd) (b0 : Nat) (b1 : Int32), k2 w b0 b1 = some z → V p l e { frames := 2, cells := 0, slots := 0, locals := 44 } s m args below meth c G A 7 2 [(0, .ref b0), (1, .int b1)] [] w (none) z) (H22 : ∀ (w : Wd) (b0 : Nat) (b1 : Int32) (b2 : Int32), k22 w b0 b1 b2 = some z → V p l e { frames := 2, cells := 0, slots := 0, locals := 44 } s m args below meth c G A 7 22 [(0, .ref b0), (1, .int b1), (2, .int b2)] [] w (none) z) : ∀ (t : Nat), ∀ (w : Wd) (a0 : Nat) (a1 : Int32) (a2 : Int32) (a3 : Int32), m_X7_lays_p30 n k2 k22 t w a0 a1 a2 a3 = some z → V p l e { frames := 2, cells := 0, slots := 0, locals := 44 } s m args below meth c G A 7 30 [(0, .ref a0), (1, .int a1), (2, .int a2), (3, .int a3)] [] w (none) z := by
  intro t
  induction t with
  | zero =>
    intro w a0 a1 a2 a3 h
    rw [m_X7_lays_p30] at h
    cases h
  | succ t ih =>
    intro w a0 a1 a2 a3 h
    rw [m_X7_lays_p30] at h
    refine v_iload_n C 3 dX7_lays_30 rfl rfl ?_
    refine v_iload_n C 2 dX7_lays_31 rfl rfl ?_
    refine v_icmp_ge C (tgt := 120) dX7_lays_32 (by decide) (fun q => ?_) (fun q => ?_)
    · have h := ite_t q h
      refine v_iinc C (k := 2) (v := (a2 + 1)) (lv' := [(2, .int (a2 + 1)), (0, .ref a0), (1, .int a1), (3, .int a3)]) dX7_lays_120 rfl rfl (by decide) rfl ?_
      refine v_goto C (tgt := 22) dX7_lays_123 (by decide) ?_
      refine v_sub [1, 2, 0] rfl ?_
      exact H22 _ _ _ _ h
    · have h := ite_f q h
      refine v_aload_n C 0 dX7_lays_35 rfl rfl ?_
      refine v_iload_n C 2 dX7_lays_36 rfl rfl ?_
      refine v_iload_n C 1 dX7_lays_37 rfl rfl ?_
      obtain ⟨u1, e_u1, h⟩ := bnd h
      obtain ⟨x2, e_x2, h⟩ := bnd h
      refine v_callVi C (ci := 6) (av := [.int a2, .int a1]) (rest := []) rfl gX7_lays_X7_isOn rfl ⟨rfl, rfl⟩ hV_X7_isOn ⟨(Nat.le_of_ble_eq_true rfl), (Nat.le_of_ble_eq_true rfl)⟩ e_u1 (r_X7_isOn (A := A) e_x2) rfl rfl (Nat.le_of_ble_eq_true rfl) dX7_lays_38 ?_
      refine v_if_eq C (tgt := 120) dX7_lays_41 (by decide) (fun q => ?_) (fun q => ?_)
      · have h := ite_t q h
        refine v_iinc C (k := 2) (v := (a2 + 1)) (lv' := [(2, .int (a2 + 1)), (0, .ref a0), (1, .int a1), (3, .int a3)]) dX7_lays_120 rfl rfl (by decide) rfl ?_
        refine v_goto C (tgt := 22) dX7_lays_123 (by decide) ?_
        refine v_sub [1, 2, 0] rfl ?_
        exact H22 _ _ _ _ h
      · have h := ite_f q h
        refine v_aload_n C 0 dX7_lays_44 rfl rfl ?_
        refine v_iload_n C 2 dX7_lays_45 rfl rfl ?_
        obtain ⟨u3, e_u3, h⟩ := bnd h
        obtain ⟨x4, e_x4, h⟩ := bnd h
        refine v_callVi C (ci := 6) (av := [.int a2]) (rest := []) rfl gX7_lays_X7_placeOf rfl ⟨rfl, rfl⟩ hV_X7_placeOf ⟨(Nat.le_of_ble_eq_true rfl), (Nat.le_of_ble_eq_true rfl)⟩ e_u3 (r_X7_placeOf (A := A) e_x4) rfl rfl (Nat.le_of_ble_eq_true rfl) dX7_lays_46 ?_
        refine v_istore C (lv' := [(4, .int x4), (0, .ref a0), (1, .int a1), (2, .int a2), (3, .int a3)]) dX7_lays_49 (by decide) rfl ?_
        refine v_aload_n C 1 dX7_lays_51 rfl rfl ?_
        refine v_iload_n C 4 dX7_lays_52 rfl rfl ?_
        refine v_iload_n C 2 dX7_lays_53 rfl rfl ?_
        refine v_at (pc' := 54) rfl ?_
        obtain ⟨u5, e_u5, h⟩ := bnd h
        obtain ⟨x6, e_x6, h⟩ := bnd h
        refine v_callVi C (ci := 6) (av := [.int a3, .int a1]) (rest := []) rfl gX7_lays_X7_isOn rfl ⟨rfl, rfl⟩ hV_X7_isOn ⟨(Nat.le_of_ble_eq_true rfl), (Nat.le_of_ble_eq_true rfl)⟩ e_u5 (r_X7_isOn (A := A) e_x6) rfl rfl (Nat.le_of_ble_eq_true rfl) dX7_lays_54 ?_
        refine v_if_eq C (tgt := 68) dX7_lays_57 (by decide) (fun q => ?_) (fun q => ?_)
        · have h := ite_t q h
          refine v_iload C 0 dX7_lays_68 rfl ?_
          refine v_istore C (lv' := [(5, .int x4), (4, .int x4), (0, .ref a0), (1, .int a1), (2, .int a2), (3, .int a3)]) dX7_lays_70 (by decide) rfl ?_
          refine v_iload C 1 dX7_lays_72 rfl ?_
          refine v_iload C 0 dX7_lays_74 rfl ?_
          refine v_icmp_eq C (tgt := 114) dX7_lays_76 (by decide) (fun q => ?_) (fun q => ?_)
          · have h := ite_t q h
            refine v_iinc C (k := 5) (v := (a3 + 1)) (lv' := [(3, .int (a3 + 1)), (5, .int x4), (4, .int x4), (0, .ref a0), (1, .int a1), (2, .int a2)]) dX7_lays_114 rfl rfl (by decide) rfl ?_
            refine v_goto C (tgt := 30) dX7_lays_117 (by decide) ?_
            refine v_sub [3, 4, 5, 0] rfl ?_
            exact ih _ _ _ _ _ h
          · have h := ite_f q h
            refine v_iload C 1 dX7_lays_79 rfl ?_
            refine v_iload C 0 dX7_lays_81 rfl ?_
            obtain ⟨x7, e_x7, h⟩ := bnd h
            refine v_callSi C (av := [.int x4, .int x4]) (rest := []) gX7_lays_X7_spanOf rfl ⟨rfl, rfl⟩ hS_X7_spanOf ⟨(Nat.le_of_ble_eq_true rfl), (Nat.le_of_ble_eq_true rfl)⟩ (r_X7_spanOf (A := A) e_x7) rfl rfl (Nat.le_of_ble_eq_true rfl) dX7_lays_83 ?_
            refine v_istore C (lv' := [(6, .int x7), (5, .int x4), (4, .int x4), (0, .ref a0), (1, .int a1), (2, .int a2), (3, .int a3)]) dX7_lays_86 (by decide) rfl ?_
            refine v_aload_n C 3 dX7_lays_88 rfl rfl ?_
            refine v_iload_n C 4 dX7_lays_89 rfl rfl ?_
            refine v_bipush C (v := 8) dX7_lays_90 (by decide) ?_
            refine v_at (pc' := 92) rfl ?_
            refine v_iload C 2 dX7_lays_92 rfl ?_
            refine v_iconst C (v := 2) dX7_lays_94 (by decide) ?_
            refine v_iload C 0 dX7_lays_95 rfl ?_
            refine v_imul C dX7_lays_97 ?_
            refine v_ishr C dX7_lays_98 ?_
            refine v_iconst C (v := 2) dX7_lays_99 (by decide) ?_
            refine v_iload C 0 dX7_lays_100 rfl ?_
            refine v_imul C dX7_lays_102 ?_
            refine v_at (pc' := 103) rfl ?_
            refine v_ishl C dX7_lays_103 ?_
            refine v_imul C dX7_lays_104 ?_
            refine v_bipush C (v := 6) dX7_lays_105 (by decide) ?_
            refine v_iadd C dX7_lays_107 ?_
            refine v_iload C 0 dX7_lays_108 rfl ?_
            refine v_isub C dX7_lays_110 ?_
            obtain ⟨u8, e_u8, h⟩ := bnd h
            obtain ⟨z9, e_z9, h⟩ := bnd h
            refine v_callVv C (ci := 6) (av := [.int a1, .int (((8 * ((x4 >>> ((2 * x7) &&& 31 : Int32)) <<< ((2 * x7) &&& 31 : Int32))) + 6) - x7)]) (rest := []) rfl gX7_lays_X7_enters rfl ⟨rfl, rfl⟩ hV_X7_enters ⟨(Nat.le_of_ble_eq_true rfl), (Nat.le_of_ble_eq_true rfl)⟩ e_u8 (r_X7_enters (A := A) e_z9) rfl rfl (Nat.le_of_ble_eq_true rfl) dX7_lays_111 ?_
            refine v_iinc C (k := 6) (v := (a3 + 1)) (lv' := [(3, .int (a3 + 1)), (6, .int x7), (5, .int x4), (4, .int x4), (0, .ref a0), (1, .int a1), (2, .int a2)]) dX7_lays_114 rfl rfl (by decide) rfl ?_
            refine v_at (pc' := 117) rfl ?_
            refine v_goto C (tgt := 30) dX7_lays_117 (by decide) ?_
            refine v_sub [4, 5, 6, 0] rfl ?_
            exact ih _ _ _ _ _ h
        · have h := ite_f q h
          refine v_aload_n C 1 dX7_lays_60 rfl rfl ?_
          refine v_iload_n C 4 dX7_lays_61 rfl rfl ?_
          obtain ⟨u10, e_u10, h⟩ := bnd h
          obtain ⟨x11, e_x11, h⟩ := bnd h
          refine v_callVi C (ci := 6) (av := [.int a3]) (rest := []) rfl gX7_lays_X7_placeOf rfl ⟨rfl, rfl⟩ hV_X7_placeOf ⟨(Nat.le_of_ble_eq_true rfl), (Nat.le_of_ble_eq_true rfl)⟩ e_u10 (r_X7_placeOf (A := A) e_x11) rfl rfl (Nat.le_of_ble_eq_true rfl) dX7_lays_62 ?_
          refine v_goto C (tgt := 70) dX7_lays_65 (by decide) ?_
          refine v_istore C (lv' := [(5, .int x11), (4, .int x4), (0, .ref a0), (1, .int a1), (2, .int a2), (3, .int a3)]) dX7_lays_70 (by decide) rfl ?_
          refine v_iload C 1 dX7_lays_72 rfl ?_
          refine v_iload C 0 dX7_lays_74 rfl ?_
          refine v_at (pc' := 76) rfl ?_
          refine v_icmp_eq C (tgt := 114) dX7_lays_76 (by decide) (fun q => ?_) (fun q => ?_)
          · have h := ite_t q h
            refine v_iinc C (k := 5) (v := (a3 + 1)) (lv' := [(3, .int (a3 + 1)), (5, .int x11), (4, .int x4), (0, .ref a0), (1, .int a1), (2, .int a2)]) dX7_lays_114 rfl rfl (by decide) rfl ?_
            refine v_goto C (tgt := 30) dX7_lays_117 (by decide) ?_
            refine v_sub [3, 4, 5, 0] rfl ?_
            exact ih _ _ _ _ _ h
          · have h := ite_f q h
            refine v_iload C 1 dX7_lays_79 rfl ?_
            refine v_iload C 0 dX7_lays_81 rfl ?_
            obtain ⟨x12, e_x12, h⟩ := bnd h
            refine v_callSi C (av := [.int x4, .int x11]) (rest := []) gX7_lays_X7_spanOf rfl ⟨rfl, rfl⟩ hS_X7_spanOf ⟨(Nat.le_of_ble_eq_true rfl), (Nat.le_of_ble_eq_true rfl)⟩ (r_X7_spanOf (A := A) e_x12) rfl rfl (Nat.le_of_ble_eq_true rfl) dX7_lays_83 ?_
            refine v_istore C (lv' := [(6, .int x12), (5, .int x11), (4, .int x4), (0, .ref a0), (1, .int a1), (2, .int a2), (3, .int a3)]) dX7_lays_86 (by decide) rfl ?_
            refine v_aload_n C 3 dX7_lays_88 rfl rfl ?_
            refine v_iload_n C 4 dX7_lays_89 rfl rfl ?_
            refine v_bipush C (v := 8) dX7_lays_90 (by decide) ?_
            refine v_at (pc' := 92) rfl ?_
            refine v_iload C 2 dX7_lays_92 rfl ?_
            refine v_iconst C (v := 2) dX7_lays_94 (by decide) ?_
            refine v_iload C 0 dX7_lays_95 rfl ?_
            refine v_imul C dX7_lays_97 ?_
            refine v_ishr C dX7_lays_98 ?_
            refine v_iconst C (v := 2) dX7_lays_99 (by decide) ?_
            refine v_iload C 0 dX7_lays_100 rfl ?_
            refine v_imul C dX7_lays_102 ?_
            refine v_at (pc' := 103) rfl ?_
            refine v_ishl C dX7_lays_103 ?_
            refine v_imul C dX7_lays_104 ?_
            refine v_bipush C (v := 6) dX7_lays_105 (by decide) ?_
            refine v_iadd C dX7_lays_107 ?_
            refine v_iload C 0 dX7_lays_108 rfl ?_
            refine v_isub C dX7_lays_110 ?_
            obtain ⟨u13, e_u13, h⟩ := bnd h
            obtain ⟨z14, e_z14, h⟩ := bnd h
            refine v_callVv C (ci := 6) (av := [.int a1, .int (((8 * ((x4 >>> ((2 * x12) &&& 31 : Int32)) <<< ((2 * x12) &&& 31 : Int32))) + 6) - x12)]) (rest := []) rfl gX7_lays_X7_enters rfl ⟨rfl, rfl⟩ hV_X7_enters ⟨(Nat.le_of_ble_eq_true rfl), (Nat.le_of_ble_eq_true rfl)⟩ e_u13 (r_X7_enters (A := A) e_z14) rfl rfl (Nat.le_of_ble_eq_true rfl) dX7_lays_111 ?_
            refine v_iinc C (k := 6) (v := (a3 + 1)) (lv' := [(3, .int (a3 + 1)), (6, .int x12), (5, .int x11), (4, .int x4), (0, .ref a0), (1, .int a1), (2, .int a2)]) dX7_lays_114 rfl rfl (by decide) rfl ?_
            refine v_at (pc' := 117) rfl ?_
            refine v_goto C (tgt := 30) dX7_lays_117 (by decide) ?_
            refine v_sub [4, 5, 6, 0] rfl ?_
            exact ih _ _ _ _ _ h
set_option maxRecDepth 100000 in
set_option maxHeartbeats 4000000 in
theorem r_X7_lays_p22 {p : Program} {l : Launch} {e : Env} {s : State} {m : MethodId} {args : Array Value} {below : List Frame} {meth : Method} {c : Code} {G : GG} {A : Nat → Prop} (C : Cx p s m args meth c G A cX7_lays 7 RX7 wsX7_lays none) (n : Nat) {k2 : Wd → Nat → Int32 → Option Wd} {z : Wd} (H2 : ∀ (w : Wd) (b0 : Nat) (b1 : Int32), k2 w b0 b1 = some z → V p l e { frames := 2, cells := 0, slots := 0, locals := 44 } s m args below meth c G A 7 2 [(0, .ref b0), (1, .int b1)] [] w (none) z) : ∀ (t : Nat), ∀ (w : Wd) (a0 : Nat) (a1 : Int32) (a2 : Int32), m_X7_lays_p22 n k2 t w a0 a1 a2 = some z → V p l e { frames := 2, cells := 0, slots := 0, locals := 44 } s m args below meth c G A 7 22 [(0, .ref a0), (1, .int a1), (2, .int a2)] [] w (none) z := by
  intro t
  induction t with
  | zero =>
    intro w a0 a1 a2 h
    rw [m_X7_lays_p22] at h
    cases h
  | succ t ih =>
    intro w a0 a1 a2 h
    rw [m_X7_lays_p22] at h
    refine v_iload_n C 2 dX7_lays_22 rfl rfl ?_
    refine v_bipush C (v := 24) dX7_lays_23 (by decide) ?_
    refine v_icmp_ge C (tgt := 126) dX7_lays_25 (by decide) (fun q => ?_) (fun q => ?_)
    · have h := ite_t q h
      refine v_iinc C (k := 1) (v := (a1 + 1)) (lv' := [(1, .int (a1 + 1)), (0, .ref a0), (2, .int a2)]) dX7_lays_126 rfl rfl (by decide) rfl ?_
      refine v_goto C (tgt := 2) dX7_lays_129 (by decide) ?_
      refine v_sub [1, 0] rfl ?_
      exact H2 _ _ _ h
    · have h := ite_f q h
      refine v_iconst C (v := 0) dX7_lays_28 (by decide) ?_
      refine v_istore_n C (lv' := [(3, .int 0), (0, .ref a0), (1, .int a1), (2, .int a2)]) dX7_lays_29 rfl (by decide) rfl ?_
      refine v_sub [1, 2, 3, 0] rfl ?_
      exact r_X7_lays_p30 C n H2 ih n _ _ _ _ _ h
set_option maxRecDepth 100000 in
set_option maxHeartbeats 4000000 in
theorem r_X7_lays_p2 {p : Program} {l : Launch} {e : Env} {s : State} {m : MethodId} {args : Array Value} {below : List Frame} {meth : Method} {c : Code} {G : GG} {A : Nat → Prop} (C : Cx p s m args meth c G A cX7_lays 7 RX7 wsX7_lays none) (n : Nat) {z : Wd} : ∀ (t : Nat), ∀ (w : Wd) (a0 : Nat) (a1 : Int32), m_X7_lays_p2 n t w a0 a1 = some z → V p l e { frames := 2, cells := 0, slots := 0, locals := 44 } s m args below meth c G A 7 2 [(0, .ref a0), (1, .int a1)] [] w (none) z := by
  intro t
  induction t with
  | zero =>
    intro w a0 a1 h
    rw [m_X7_lays_p2] at h
    cases h
  | succ t ih =>
    intro w a0 a1 h
    rw [m_X7_lays_p2] at h
    refine v_iload_n C 1 dX7_lays_2 rfl rfl ?_
    refine v_iconst C (v := 5) dX7_lays_3 (by decide) ?_
    refine v_icmp_ge C (tgt := 132) dX7_lays_4 (by decide) (fun q => ?_) (fun q => ?_)
    · have h := ite_t q h
      obtain rfl := Option.some.inj h
      exact v_vret C dX7_lays_132
    · have h := ite_f q h
      refine v_aload_n C 0 dX7_lays_7 rfl rfl ?_
      obtain ⟨q1, e_q1, h⟩ := bnd h
      refine v_getf C (ci := 6) (k := 8) rfl inX7_lays_X7 (by decide) fX7_lays_25 dX7_lays_8 (gfR_e e_q1) ?_
      refine v_iload_n C 1 dX7_lays_11 rfl rfl ?_
      refine v_iconst C (v := 0) dX7_lays_12 (by decide) ?_
      obtain ⟨w2, e_w2, h⟩ := bnd h
      refine v_iast C dX7_lays_13 e_w2 ?_
      refine v_aload_n C 0 dX7_lays_14 rfl rfl ?_
      refine v_iload_n C 1 dX7_lays_15 rfl rfl ?_
      refine v_at (pc' := 16) rfl ?_
      refine v_iconst C (v := 0) dX7_lays_16 (by decide) ?_
      obtain ⟨u3, e_u3, h⟩ := bnd h
      obtain ⟨z4, e_z4, h⟩ := bnd h
      refine v_callVv C (ci := 6) (av := [.int a1, .int 0]) (rest := []) rfl gX7_lays_X7_enters rfl ⟨rfl, rfl⟩ hV_X7_enters ⟨(Nat.le_of_ble_eq_true rfl), (Nat.le_of_ble_eq_true rfl)⟩ e_u3 (r_X7_enters (A := A) e_z4) rfl rfl (Nat.le_of_ble_eq_true rfl) dX7_lays_17 ?_
      refine v_iconst C (v := 0) dX7_lays_20 (by decide) ?_
      refine v_istore_n C (lv' := [(2, .int 0), (0, .ref a0), (1, .int a1)]) dX7_lays_21 rfl (by decide) rfl ?_
      refine v_sub [1, 2, 0] rfl ?_
      exact r_X7_lays_p22 C n ih n _ _ _ _ h
set_option maxRecDepth 100000 in
set_option maxHeartbeats 4000000 in
theorem r_X7_lays {l : Launch} {G : GG} {A : Nat → Prop} {n : Nat} {w : Wd} {this : Nat} {z : Wd} (h : m_X7_lays n w this = some z) : Con l yX7_lays wsX7_lays { frames := 2, cells := 0, slots := 0, locals := 44 } G A [.ref this] w (none) z := by
  refine Con.of (own := RX7) (cc := cX7_lays) (maxL := 7) (ret := none) rfl (by decide) rfl (Nat.le_of_ble_eq_true rfl) ?_
  intro p e s m args below meth c C
  show V p l e { frames := 2, cells := 0, slots := 0, locals := 44 } s m args below meth c G A 7 0 [(0, .ref this)] [] w (none) z
  unfold m_X7_lays at h
  refine v_iconst C (v := 0) dX7_lays_0 (by decide) ?_
  refine v_istore_n C (lv' := [(1, .int 0), (0, .ref this)]) dX7_lays_1 rfl (by decide) rfl ?_
  refine v_sub [1, 0] rfl ?_
  exact r_X7_lays_p2 C n n _ _ _ h
theorem fX7_nodeAt_22 : Cond.fieldLink RX7 22 (TX7 7).1 (TX7 7).2.1 (TX7 7).2.2.1 ∈ wsX7_nodeAt := by decide +kernel
theorem inX7_nodeAt_X7 : ∀ x ∈ u_ws RX7 TX7 20, x ∈ wsX7_nodeAt := by decide +kernel
set_option maxRecDepth 100000 in
set_option maxHeartbeats 4000000 in
theorem r_X7_nodeAt {l : Launch} {G : GG} {A : Nat → Prop} {n : Nat} {w : Wd} {this : Nat} {a1 : Int32} {a2 : Int32} {z : Int32} (h : m_X7_nodeAt n w this a1 a2 = some z) : Con l yX7_nodeAt wsX7_nodeAt { frames := 0, cells := 0, slots := 0, locals := 0 } G A [.ref this, .int a1, .int a2] w (some (.int z)) w := by
  refine Con.of (own := RX7) (cc := cX7_nodeAt) (maxL := 3) (ret := (some .int)) rfl (by decide) rfl (Nat.le_of_ble_eq_true rfl) ?_
  intro p e s m args below meth c C
  show V p l e { frames := 0, cells := 0, slots := 0, locals := 0 } s m args below meth c G A 3 0 [(0, .ref this), (1, .int a1), (2, .int a2)] [] w (some (.int z)) w
  unfold m_X7_nodeAt at h
  refine v_aload_n C 0 dX7_nodeAt_0 rfl rfl ?_
  obtain ⟨q1, e_q1, h⟩ := bnd h
  refine v_getf C (ci := 6) (k := 7) rfl inX7_nodeAt_X7 (by decide) fX7_nodeAt_22 dX7_nodeAt_1 (gfR_e e_q1) ?_
  refine v_bipush C (v := 32) dX7_nodeAt_4 (by decide) ?_
  refine v_iload_n C 1 dX7_nodeAt_6 rfl rfl ?_
  refine v_imul C dX7_nodeAt_7 ?_
  refine v_iload_n C 2 dX7_nodeAt_8 rfl rfl ?_
  refine v_iadd C dX7_nodeAt_9 ?_
  refine v_at (pc' := 10) rfl ?_
  obtain ⟨x2, e_x2, h⟩ := bnd h
  refine v_iald C dX7_nodeAt_10 e_x2 ?_
  obtain rfl := Option.some.inj h
  exact v_iret C dX7_nodeAt_11
theorem hV_X7_nodeAt : yX7_nodeAt.cls = RX7 ∧ yX7_nodeAt.cls ≠ "java/lang/invoke/MethodHandle" ∧ yX7_nodeAt.cls ≠ "java/lang/invoke/VarHandle" ∧ (parseMethodDescriptor yX7_nodeAt.desc).map (fun d => d.parameters.length) = some 2 := by decide +kernel
set_option maxRecDepth 100000 in
set_option maxHeartbeats 4000000 in
theorem r_X7_indexOf_p2 {p : Program} {l : Launch} {e : Env} {s : State} {m : MethodId} {args : Array Value} {below : List Frame} {meth : Method} {c : Code} {G : GG} {A : Nat → Prop} (C : Cx p s m args meth c G A cX7_indexOf 4 RX7 wsX7_indexOf (some .int)) (n : Nat) {z : Int32} : ∀ (t : Nat), ∀ (w : Wd) (a0 : Nat) (a1 : Int32) (a2 : Int32) (a3 : Int32), m_X7_indexOf_p2 n t w a0 a1 a2 a3 = some z → V p l e { frames := 1, cells := 0, slots := 0, locals := 22 } s m args below meth c G A 4 2 [(0, .ref a0), (1, .int a1), (2, .int a2), (3, .int a3)] [] w (some (.int z)) w := by
  intro t
  induction t with
  | zero =>
    intro w a0 a1 a2 a3 h
    rw [m_X7_indexOf_p2] at h
    cases h
  | succ t ih =>
    intro w a0 a1 a2 a3 h
    rw [m_X7_indexOf_p2] at h
    refine v_aload_n C 0 dX7_indexOf_2 rfl rfl ?_
    refine v_iload_n C 1 dX7_indexOf_3 rfl rfl ?_
    refine v_iload_n C 3 dX7_indexOf_4 rfl rfl ?_
    obtain ⟨u1, e_u1, h⟩ := bnd h
    obtain ⟨x2, e_x2, h⟩ := bnd h
    refine v_callVi C (ci := 6) (av := [.int a1, .int a3]) (rest := []) rfl gX7_indexOf_X7_nodeAt rfl ⟨rfl, rfl⟩ hV_X7_nodeAt ⟨(Nat.le_of_ble_eq_true rfl), (Nat.le_of_ble_eq_true rfl)⟩ e_u1 (r_X7_nodeAt (A := A) e_x2) rfl rfl (Nat.le_of_ble_eq_true rfl) dX7_indexOf_5 ?_
    refine v_iload_n C 2 dX7_indexOf_8 rfl rfl ?_
    refine v_icmp_eq C (tgt := 18) dX7_indexOf_9 (by decide) (fun q => ?_) (fun q => ?_)
    · have h := ite_t q h
      refine v_iload_n C 3 dX7_indexOf_18 rfl rfl ?_
      obtain rfl := Option.some.inj h
      exact v_iret C dX7_indexOf_19
    · have h := ite_f q h
      refine v_iinc C (k := 3) (v := (a3 + 1)) (lv' := [(3, .int (a3 + 1)), (0, .ref a0), (1, .int a1), (2, .int a2)]) dX7_indexOf_12 rfl rfl (by decide) rfl ?_
      refine v_goto C (tgt := 2) dX7_indexOf_15 (by decide) ?_
      refine v_sub [1, 2, 3, 0] rfl ?_
      exact ih _ _ _ _ _ h
set_option maxRecDepth 100000 in
set_option maxHeartbeats 4000000 in
theorem r_X7_indexOf {l : Launch} {G : GG} {A : Nat → Prop} {n : Nat} {w : Wd} {this : Nat} {a1 : Int32} {a2 : Int32} {z : Int32} (h : m_X7_indexOf n w this a1 a2 = some z) : Con l yX7_indexOf wsX7_indexOf { frames := 1, cells := 0, slots := 0, locals := 22 } G A [.ref this, .int a1, .int a2] w (some (.int z)) w := by
  refine Con.of (own := RX7) (cc := cX7_indexOf) (maxL := 4) (ret := (some .int)) rfl (by decide) rfl (Nat.le_of_ble_eq_true rfl) ?_
  intro p e s m args below meth c C
  show V p l e { frames := 1, cells := 0, slots := 0, locals := 22 } s m args below meth c G A 4 0 [(0, .ref this), (1, .int a1), (2, .int a2)] [] w (some (.int z)) w
  unfold m_X7_indexOf at h
  refine v_iconst C (v := 0) dX7_indexOf_0 (by decide) ?_
  refine v_istore_n C (lv' := [(3, .int 0), (0, .ref this), (1, .int a1), (2, .int a2)]) dX7_indexOf_1 rfl (by decide) rfl ?_
  refine v_sub [1, 2, 3, 0] rfl ?_
  exact r_X7_indexOf_p2 C n n _ _ _ _ _ h
theorem fX7_isNode_25 : Cond.fieldLink RX7 25 (TX7 8).1 (TX7 8).2.1 (TX7 8).2.2.1 ∈ wsX7_isNode := by decide +kernel
theorem inX7_isNode_X7 : ∀ x ∈ u_ws RX7 TX7 20, x ∈ wsX7_isNode := by decide +kernel
set_option maxRecDepth 100000 in
set_option maxHeartbeats 4000000 in
theorem r_X7_isNode_p5 {p : Program} {l : Launch} {e : Env} {s : State} {m : MethodId} {args : Array Value} {below : List Frame} {meth : Method} {c : Code} {G : GG} {A : Nat → Prop} (C : Cx p s m args meth c G A cX7_isNode 5 RX7 wsX7_isNode (some .boolean)) (n : Nat) {z : Int32} : ∀ (t : Nat), ∀ (w : Wd) (a0 : Nat) (a1 : Int32) (a2 : Int32) (a3 : Int32) (a4 : Int32), m_X7_isNode_p5 n t w a0 a1 a2 a3 a4 = some z → V p l e { frames := 1, cells := 0, slots := 0, locals := 22 } s m args below meth c G A 5 5 [(0, .ref a0), (1, .int a1), (2, .int a2), (3, .int a3), (4, .int a4)] [] w (some (.int z)) w := by
  intro t
  induction t with
  | zero =>
    intro w a0 a1 a2 a3 a4 h
    rw [m_X7_isNode_p5] at h
    cases h
  | succ t ih =>
    intro w a0 a1 a2 a3 a4 h
    rw [m_X7_isNode_p5] at h
    refine v_iload C 4 dX7_isNode_5 rfl ?_
    refine v_aload_n C 0 dX7_isNode_7 rfl rfl ?_
    obtain ⟨q1, e_q1, h⟩ := bnd h
    refine v_getf C (ci := 6) (k := 8) rfl inX7_isNode_X7 (by decide) fX7_isNode_25 dX7_isNode_8 (gfR_e e_q1) ?_
    refine v_iload_n C 1 dX7_isNode_11 rfl rfl ?_
    obtain ⟨x2, e_x2, h⟩ := bnd h
    refine v_iald C dX7_isNode_12 e_x2 ?_
    refine v_icmp_ge C (tgt := 43) dX7_isNode_13 (by decide) (fun q => ?_) (fun q => ?_)
    · have h := ite_t q h
      refine v_iload_n C 3 dX7_isNode_43 rfl rfl ?_
      obtain ⟨u3, e_u3, h⟩ := bnd h
      obtain rfl := Option.some.inj h
      exact v_zret C dX7_isNode_44 (bck_e e_u3)
    · have h := ite_f q h
      refine v_iload_n C 3 dX7_isNode_16 rfl rfl ?_
      refine v_if_ne C (tgt := 31) dX7_isNode_17 (by decide) (fun q => ?_) (fun q => ?_)
      · have h := ite_f q h
        refine v_iconst C (v := 1) dX7_isNode_31 (by decide) ?_
        refine v_goto C (tgt := 36) dX7_isNode_32 (by decide) ?_
        refine v_istore_n C (lv' := [(3, .int 1), (0, .ref a0), (1, .int a1), (2, .int a2), (4, .int a4)]) dX7_isNode_36 rfl (by decide) rfl ?_
        refine v_iinc C (k := 4) (v := (a4 + 1)) (lv' := [(4, .int (a4 + 1)), (3, .int 1), (0, .ref a0), (1, .int a1), (2, .int a2)]) dX7_isNode_37 rfl rfl (by decide) rfl ?_
        refine v_goto C (tgt := 5) dX7_isNode_40 (by decide) ?_
        refine v_sub [2, 3, 4, 1, 0] rfl ?_
        exact ih _ _ _ _ _ _ h
      · have h := ite_t q h
        refine v_aload_n C 0 dX7_isNode_20 rfl rfl ?_
        refine v_iload_n C 1 dX7_isNode_21 rfl rfl ?_
        refine v_iload C 4 dX7_isNode_22 rfl ?_
        obtain ⟨u4, e_u4, h⟩ := bnd h
        obtain ⟨x5, e_x5, h⟩ := bnd h
        refine v_callVi C (ci := 6) (av := [.int a1, .int a4]) (rest := []) rfl gX7_isNode_X7_nodeAt rfl ⟨rfl, rfl⟩ hV_X7_nodeAt ⟨(Nat.le_of_ble_eq_true rfl), (Nat.le_of_ble_eq_true rfl)⟩ e_u4 (r_X7_nodeAt (A := A) e_x5) rfl rfl (Nat.le_of_ble_eq_true rfl) dX7_isNode_24 ?_
        refine v_iload_n C 2 dX7_isNode_27 rfl rfl ?_
        refine v_icmp_ne C (tgt := 35) dX7_isNode_28 (by decide) (fun q => ?_) (fun q => ?_)
        · have h := ite_f q h
          refine v_iconst C (v := 0) dX7_isNode_35 (by decide) ?_
          refine v_istore_n C (lv' := [(3, .int 0), (0, .ref a0), (1, .int a1), (2, .int a2), (4, .int a4)]) dX7_isNode_36 rfl (by decide) rfl ?_
          refine v_iinc C (k := 4) (v := (a4 + 1)) (lv' := [(4, .int (a4 + 1)), (3, .int 0), (0, .ref a0), (1, .int a1), (2, .int a2)]) dX7_isNode_37 rfl rfl (by decide) rfl ?_
          refine v_goto C (tgt := 5) dX7_isNode_40 (by decide) ?_
          refine v_sub [2, 3, 4, 1, 0] rfl ?_
          exact ih _ _ _ _ _ _ h
        · have h := ite_t q h
          refine v_iconst C (v := 1) dX7_isNode_31 (by decide) ?_
          refine v_goto C (tgt := 36) dX7_isNode_32 (by decide) ?_
          refine v_istore_n C (lv' := [(3, .int 1), (0, .ref a0), (1, .int a1), (2, .int a2), (4, .int a4)]) dX7_isNode_36 rfl (by decide) rfl ?_
          refine v_iinc C (k := 4) (v := (a4 + 1)) (lv' := [(4, .int (a4 + 1)), (3, .int 1), (0, .ref a0), (1, .int a1), (2, .int a2)]) dX7_isNode_37 rfl rfl (by decide) rfl ?_
          refine v_goto C (tgt := 5) dX7_isNode_40 (by decide) ?_
          refine v_sub [2, 3, 4, 1, 0] rfl ?_
          exact ih _ _ _ _ _ _ h
set_option maxRecDepth 100000 in
set_option maxHeartbeats 4000000 in
theorem r_X7_isNode {l : Launch} {G : GG} {A : Nat → Prop} {n : Nat} {w : Wd} {this : Nat} {a1 : Int32} {a2 : Int32} {z : Int32} (h : m_X7_isNode n w this a1 a2 = some z) : Con l yX7_isNode wsX7_isNode { frames := 1, cells := 0, slots := 0, locals := 22 } G A [.ref this, .int a1, .int a2] w (some (.int z)) w := by
  refine Con.of (own := RX7) (cc := cX7_isNode) (maxL := 5) (ret := (some .boolean)) rfl (by decide) rfl (Nat.le_of_ble_eq_true rfl) ?_
  intro p e s m args below meth c C
  show V p l e { frames := 1, cells := 0, slots := 0, locals := 22 } s m args below meth c G A 5 0 [(0, .ref this), (1, .int a1), (2, .int a2)] [] w (some (.int z)) w
  unfold m_X7_isNode at h
  refine v_iconst C (v := 0) dX7_isNode_0 (by decide) ?_
  refine v_istore_n C (lv' := [(3, .int 0), (0, .ref this), (1, .int a1), (2, .int a2)]) dX7_isNode_1 rfl (by decide) rfl ?_
  refine v_iconst C (v := 0) dX7_isNode_2 (by decide) ?_
  refine v_istore C (lv' := [(4, .int 0), (3, .int 0), (0, .ref this), (1, .int a1), (2, .int a2)]) dX7_isNode_3 (by decide) rfl ?_
  refine v_sub [2, 3, 4, 1, 0] rfl ?_
  exact r_X7_isNode_p5 C n n _ _ _ _ _ _ h
theorem fX7_laysBefore_31 : Cond.fieldLink RX7 31 (TX7 10).1 (TX7 10).2.1 (TX7 10).2.2.1 ∈ wsX7_laysBefore := by decide +kernel
theorem inX7_laysBefore_X7 : ∀ x ∈ u_ws RX7 TX7 20, x ∈ wsX7_laysBefore := by decide +kernel
theorem fX7_laysBefore_25 : Cond.fieldLink RX7 25 (TX7 8).1 (TX7 8).2.1 (TX7 8).2.2.1 ∈ wsX7_laysBefore := by decide +kernel
theorem fX7_laysBefore_28 : Cond.fieldLink RX7 28 (TX7 9).1 (TX7 9).2.1 (TX7 9).2.2.1 ∈ wsX7_laysBefore := by decide +kernel
theorem fX7_laysBefore_22 : Cond.fieldLink RX7 22 (TX7 7).1 (TX7 7).2.1 (TX7 7).2.2.1 ∈ wsX7_laysBefore := by decide +kernel
theorem hV_X7_lays : yX7_lays.cls = RX7 ∧ yX7_lays.cls ≠ "java/lang/invoke/MethodHandle" ∧ yX7_lays.cls ≠ "java/lang/invoke/VarHandle" ∧ (parseMethodDescriptor yX7_lays.desc).map (fun d => d.parameters.length) = some 0 := by decide +kernel
set_option maxRecDepth 100000 in
set_option maxHeartbeats 4000000 in
theorem r_X7_laysBefore_p33 {p : Program} {l : Launch} {e : Env} {s : State} {m : MethodId} {args : Array Value} {below : List Frame} {meth : Method} {c : Code} {G : GG} {A : Nat → Prop} (C : Cx p s m args meth c G A cX7_laysBefore 2 RX7 wsX7_laysBefore none) (n : Nat) {z : Wd} : ∀ (t : Nat), ∀ (w : Wd) (a0 : Nat) (a1 : Int32), m_X7_laysBefore_p33 n t w a0 a1 = some z → V p l e { frames := 3, cells := 0, slots := 0, locals := 70 } s m args below meth c G A 2 33 [(0, .ref a0), (1, .int a1)] [] w (none) z := by
  intro t
  induction t with
  | zero =>
    intro w a0 a1 h
    rw [m_X7_laysBefore_p33] at h
    cases h
  | succ t ih =>
    intro w a0 a1 h
    rw [m_X7_laysBefore_p33] at h
    refine v_iload_n C 1 dX7_laysBefore_33 rfl rfl ?_
    refine v_iconst C (v := 5) dX7_laysBefore_34 (by decide) ?_
    refine v_icmp_ge C (tgt := 56) dX7_laysBefore_35 (by decide) (fun q => ?_) (fun q => ?_)
    · have h := ite_t q h
      obtain rfl := Option.some.inj h
      exact v_vret C dX7_laysBefore_56
    · have h := ite_f q h
      refine v_aload_n C 0 dX7_laysBefore_38 rfl rfl ?_
      obtain ⟨q1, e_q1, h⟩ := bnd h
      refine v_getf C (ci := 6) (k := 10) rfl inX7_laysBefore_X7 (by decide) fX7_laysBefore_31 dX7_laysBefore_39 (gfR_e e_q1) ?_
      refine v_iload_n C 1 dX7_laysBefore_42 rfl rfl ?_
      refine v_aload_n C 0 dX7_laysBefore_43 rfl rfl ?_
      obtain ⟨q2, e_q2, h⟩ := bnd h
      refine v_getf C (ci := 6) (k := 8) rfl inX7_laysBefore_X7 (by decide) fX7_laysBefore_25 dX7_laysBefore_44 (gfR_e e_q2) ?_
      refine v_iload_n C 1 dX7_laysBefore_47 rfl rfl ?_
      obtain ⟨x3, e_x3, h⟩ := bnd h
      refine v_iald C dX7_laysBefore_48 e_x3 ?_
      refine v_at (pc' := 49) rfl ?_
      obtain ⟨w4, e_w4, h⟩ := bnd h
      refine v_iast C dX7_laysBefore_49 e_w4 ?_
      refine v_iinc C (k := 1) (v := (a1 + 1)) (lv' := [(1, .int (a1 + 1)), (0, .ref a0)]) dX7_laysBefore_50 rfl rfl (by decide) rfl ?_
      refine v_goto C (tgt := 33) dX7_laysBefore_53 (by decide) ?_
      refine v_sub [1, 0] rfl ?_
      exact ih _ _ _ h
set_option maxRecDepth 100000 in
set_option maxHeartbeats 4000000 in
theorem r_X7_laysBefore_p31 {p : Program} {l : Launch} {e : Env} {s : State} {m : MethodId} {args : Array Value} {below : List Frame} {meth : Method} {c : Code} {G : GG} {A : Nat → Prop} (C : Cx p s m args meth c G A cX7_laysBefore 2 RX7 wsX7_laysBefore none) (n : Nat) {z : Wd} : ∀ (w : Wd) (a0 : Nat), m_X7_laysBefore_p31 n w a0 = some z → V p l e { frames := 3, cells := 0, slots := 0, locals := 70 } s m args below meth c G A 2 31 [(0, .ref a0)] [] w (none) z := by
  intro w a0 h
  unfold m_X7_laysBefore_p31 at h
  refine v_iconst C (v := 0) dX7_laysBefore_31 (by decide) ?_
  refine v_istore_n C (lv' := [(1, .int 0), (0, .ref a0)]) dX7_laysBefore_32 rfl (by decide) rfl ?_
  refine v_sub [1, 0] rfl ?_
  exact r_X7_laysBefore_p33 C n n _ _ _ h
set_option maxRecDepth 100000 in
set_option maxHeartbeats 4000000 in
theorem r_X7_laysBefore_p6 {p : Program} {l : Launch} {e : Env} {s : State} {m : MethodId} {args : Array Value} {below : List Frame} {meth : Method} {c : Code} {G : GG} {A : Nat → Prop} (C : Cx p s m args meth c G A cX7_laysBefore 2 RX7 wsX7_laysBefore none) (n : Nat) {z : Wd} : ∀ (t : Nat), ∀ (w : Wd) (a0 : Nat) (a1 : Int32), m_X7_laysBefore_p6 n t w a0 a1 = some z → V p l e { frames := 3, cells := 0, slots := 0, locals := 70 } s m args below meth c G A 2 6 [(0, .ref a0), (1, .int a1)] [] w (none) z := by
  intro t
  induction t with
  | zero =>
    intro w a0 a1 h
    rw [m_X7_laysBefore_p6] at h
    cases h
  | succ t ih =>
    intro w a0 a1 h
    rw [m_X7_laysBefore_p6] at h
    refine v_iload_n C 1 dX7_laysBefore_6 rfl rfl ?_
    refine v_sipush C (v := 160) dX7_laysBefore_7 (by decide) ?_
    refine v_icmp_ge C (tgt := 31) dX7_laysBefore_10 (by decide) (fun q => ?_) (fun q => ?_)
    · have h := ite_t q h
      refine v_sub [0] rfl ?_
      exact r_X7_laysBefore_p31 C n _ _ h
    · have h := ite_f q h
      refine v_aload_n C 0 dX7_laysBefore_13 rfl rfl ?_
      obtain ⟨q1, e_q1, h⟩ := bnd h
      refine v_getf C (ci := 6) (k := 9) rfl inX7_laysBefore_X7 (by decide) fX7_laysBefore_28 dX7_laysBefore_14 (gfR_e e_q1) ?_
      refine v_iload_n C 1 dX7_laysBefore_17 rfl rfl ?_
      refine v_aload_n C 0 dX7_laysBefore_18 rfl rfl ?_
      obtain ⟨q2, e_q2, h⟩ := bnd h
      refine v_getf C (ci := 6) (k := 7) rfl inX7_laysBefore_X7 (by decide) fX7_laysBefore_22 dX7_laysBefore_19 (gfR_e e_q2) ?_
      refine v_iload_n C 1 dX7_laysBefore_22 rfl rfl ?_
      obtain ⟨x3, e_x3, h⟩ := bnd h
      refine v_iald C dX7_laysBefore_23 e_x3 ?_
      refine v_at (pc' := 24) rfl ?_
      obtain ⟨w4, e_w4, h⟩ := bnd h
      refine v_iast C dX7_laysBefore_24 e_w4 ?_
      refine v_iinc C (k := 1) (v := (a1 + 1)) (lv' := [(1, .int (a1 + 1)), (0, .ref a0)]) dX7_laysBefore_25 rfl rfl (by decide) rfl ?_
      refine v_goto C (tgt := 6) dX7_laysBefore_28 (by decide) ?_
      refine v_sub [1, 0] rfl ?_
      exact ih _ _ _ h
set_option maxRecDepth 100000 in
set_option maxHeartbeats 4000000 in
theorem r_X7_laysBefore {l : Launch} {G : GG} {A : Nat → Prop} {n : Nat} {w : Wd} {this : Nat} {z : Wd} (h : m_X7_laysBefore n w this = some z) : Con l yX7_laysBefore wsX7_laysBefore { frames := 3, cells := 0, slots := 0, locals := 70 } G A [.ref this] w (none) z := by
  refine Con.of (own := RX7) (cc := cX7_laysBefore) (maxL := 2) (ret := none) rfl (by decide) rfl (Nat.le_of_ble_eq_true rfl) ?_
  intro p e s m args below meth c C
  show V p l e { frames := 3, cells := 0, slots := 0, locals := 70 } s m args below meth c G A 2 0 [(0, .ref this)] [] w (none) z
  unfold m_X7_laysBefore at h
  refine v_aload_n C 0 dX7_laysBefore_0 rfl rfl ?_
  obtain ⟨u1, e_u1, h⟩ := bnd h
  obtain ⟨z2, e_z2, h⟩ := bnd h
  refine v_callVv C (ci := 6) (av := []) (rest := []) rfl gX7_laysBefore_X7_lays rfl ⟨rfl, rfl⟩ hV_X7_lays ⟨(Nat.le_of_ble_eq_true rfl), (Nat.le_of_ble_eq_true rfl)⟩ e_u1 (r_X7_lays (A := A) e_z2) rfl rfl (Nat.le_of_ble_eq_true rfl) dX7_laysBefore_1 ?_
  refine v_iconst C (v := 0) dX7_laysBefore_4 (by decide) ?_
  refine v_istore_n C (lv' := [(1, .int 0), (0, .ref this)]) dX7_laysBefore_5 rfl (by decide) rfl ?_
  refine v_sub [1, 0] rfl ?_
  exact r_X7_laysBefore_p6 C n n _ _ _ h
theorem fX7_touched_31 : Cond.fieldLink RX7 31 (TX7 10).1 (TX7 10).2.1 (TX7 10).2.2.1 ∈ wsX7_touched := by decide +kernel
theorem inX7_touched_X7 : ∀ x ∈ u_ws RX7 TX7 20, x ∈ wsX7_touched := by decide +kernel
theorem fX7_touched_25 : Cond.fieldLink RX7 25 (TX7 8).1 (TX7 8).2.1 (TX7 8).2.2.1 ∈ wsX7_touched := by decide +kernel
theorem fX7_touched_28 : Cond.fieldLink RX7 28 (TX7 9).1 (TX7 9).2.1 (TX7 9).2.2.1 ∈ wsX7_touched := by decide +kernel
theorem hV_X7_isNode : yX7_isNode.cls = RX7 ∧ yX7_isNode.cls ≠ "java/lang/invoke/MethodHandle" ∧ yX7_isNode.cls ≠ "java/lang/invoke/VarHandle" ∧ (parseMethodDescriptor yX7_isNode.desc).map (fun d => d.parameters.length) = some 2 := by decide +kernel
set_option maxRecDepth 100000 in
set_option maxHeartbeats 4000000 in
theorem r_X7_touched_p63 {p : Program} {l : Launch} {e : Env} {s : State} {m : MethodId} {args : Array Value} {below : List Frame} {meth : Method} {c : Code} {G : GG} {A : Nat → Prop} (C : Cx p s m args meth c G A cX7_touched 5 RX7 wsX7_touched (some .int)) (n : Nat) {k8 : Wd → Nat → Int32 → Int32 → Option (Int32 × Wd)} {z : (Int32 × Wd)} (H8 : ∀ (w : Wd) (b0 : Nat) (b1 : Int32) (b2 : Int32), k8 w b0 b1 b2 = some z → V p l e { frames := 3, cells := 0, slots := 0, locals := 70 } s m args below meth c G A 5 8 [(0, .ref b0), (1, .int b1), (2, .int b2)] [] w (some (.int z.1)) z.2) : ∀ (w : Wd) (a0 : Nat) (a1 : Int32) (a2 : Int32) (a3 : Int32), m_X7_touched_p63 n k8 w a0 a1 a2 a3 = some z → V p l e { frames := 3, cells := 0, slots := 0, locals := 70 } s m args below meth c G A 5 63 [(0, .ref a0), (1, .int a1), (2, .int a2), (3, .int a3)] [] w (some (.int z.1)) z.2 := by
  intro w a0 a1 a2 a3 h
  unfold m_X7_touched_p63 at h
  refine v_iload_n C 1 dX7_touched_63 rfl rfl ?_
  refine v_aload_n C 0 dX7_touched_64 rfl rfl ?_
  obtain ⟨q1, e_q1, h⟩ := bnd h
  refine v_getf C (ci := 6) (k := 10) rfl inX7_touched_X7 (by decide) fX7_touched_31 dX7_touched_65 (gfR_e e_q1) ?_
  refine v_iload_n C 2 dX7_touched_68 rfl rfl ?_
  obtain ⟨x2, e_x2, h⟩ := bnd h
  refine v_iald C dX7_touched_69 e_x2 ?_
  refine v_aload_n C 0 dX7_touched_70 rfl rfl ?_
  obtain ⟨q3, e_q3, h⟩ := bnd h
  refine v_getf C (ci := 6) (k := 8) rfl inX7_touched_X7 (by decide) fX7_touched_25 dX7_touched_71 (gfR_e e_q3) ?_
  refine v_at (pc' := 74) rfl ?_
  refine v_iload_n C 2 dX7_touched_74 rfl rfl ?_
  obtain ⟨x4, e_x4, h⟩ := bnd h
  refine v_iald C dX7_touched_75 e_x4 ?_
  refine v_iadd C dX7_touched_76 ?_
  refine v_iconst C (v := 2) dX7_touched_77 (by decide) ?_
  refine v_iload_n C 3 dX7_touched_78 rfl rfl ?_
  refine v_imul C dX7_touched_79 ?_
  refine v_isub C dX7_touched_80 ?_
  refine v_iadd C dX7_touched_81 ?_
  refine v_at (pc' := 82) rfl ?_
  refine v_istore_n C (lv' := [(1, .int (a1 + ((x2 + x4) - (2 * a3)))), (0, .ref a0), (2, .int a2), (3, .int a3)]) dX7_touched_82 rfl (by decide) rfl ?_
  refine v_iinc C (k := 2) (v := (a2 + 1)) (lv' := [(2, .int (a2 + 1)), (1, .int (a1 + ((x2 + x4) - (2 * a3)))), (0, .ref a0), (3, .int a3)]) dX7_touched_83 rfl rfl (by decide) rfl ?_
  refine v_goto C (tgt := 8) dX7_touched_86 (by decide) ?_
  refine v_sub [2, 1, 0] rfl ?_
  exact H8 _ _ _ _ h
set_option maxRecDepth 100000 in
set_option maxHeartbeats 4000000 in
theorem r_X7_touched_p18 {p : Program} {l : Launch} {e : Env} {s : State} {m : MethodId} {args : Array Value} {below : List Frame} {meth : Method} {c : Code} {G : GG} {A : Nat → Prop} (C : Cx p s m args meth c G A cX7_touched 5 RX7 wsX7_touched (some .int)) (n : Nat) {k8 : Wd → Nat → Int32 → Int32 → Option (Int32 × Wd)} {z : (Int32 × Wd)} (H8 : ∀ (w : Wd) (b0 : Nat) (b1 : Int32) (b2 : Int32), k8 w b0 b1 b2 = some z → V p l e { frames := 3, cells := 0, slots := 0, locals := 70 } s m args below meth c G A 5 8 [(0, .ref b0), (1, .int b1), (2, .int b2)] [] w (some (.int z.1)) z.2) : ∀ (t : Nat), ∀ (w : Wd) (a0 : Nat) (a1 : Int32) (a2 : Int32) (a3 : Int32) (a4 : Int32), m_X7_touched_p18 n k8 t w a0 a1 a2 a3 a4 = some z → V p l e { frames := 3, cells := 0, slots := 0, locals := 70 } s m args below meth c G A 5 18 [(0, .ref a0), (1, .int a1), (2, .int a2), (3, .int a3), (4, .int a4)] [] w (some (.int z.1)) z.2 := by
  intro t
  induction t with
  | zero =>
    intro w a0 a1 a2 a3 a4 h
    rw [m_X7_touched_p18] at h
    cases h
  | succ t ih =>
    intro w a0 a1 a2 a3 a4 h
    rw [m_X7_touched_p18] at h
    refine v_iload C 4 dX7_touched_18 rfl ?_
    refine v_aload_n C 0 dX7_touched_20 rfl rfl ?_
    obtain ⟨q1, e_q1, h⟩ := bnd h
    refine v_getf C (ci := 6) (k := 10) rfl inX7_touched_X7 (by decide) fX7_touched_31 dX7_touched_21 (gfR_e e_q1) ?_
    refine v_iload_n C 2 dX7_touched_24 rfl rfl ?_
    obtain ⟨x2, e_x2, h⟩ := bnd h
    refine v_iald C dX7_touched_25 e_x2 ?_
    refine v_icmp_ge C (tgt := 63) dX7_touched_26 (by decide) (fun q => ?_) (fun q => ?_)
    · have h := ite_t q h
      refine v_sub [0, 1, 2, 3] rfl ?_
      exact r_X7_touched_p63 C n H8 _ _ _ _ _ h
    · have h := ite_f q h
      refine v_iload_n C 3 dX7_touched_29 rfl rfl ?_
      refine v_aload_n C 0 dX7_touched_30 rfl rfl ?_
      refine v_iload_n C 2 dX7_touched_31 rfl rfl ?_
      refine v_aload_n C 0 dX7_touched_32 rfl rfl ?_
      obtain ⟨q3, e_q3, h⟩ := bnd h
      refine v_getf C (ci := 6) (k := 9) rfl inX7_touched_X7 (by decide) fX7_touched_28 dX7_touched_33 (gfR_e e_q3) ?_
      refine v_bipush C (v := 32) dX7_touched_36 (by decide) ?_
      refine v_iload_n C 2 dX7_touched_38 rfl rfl ?_
      refine v_at (pc' := 39) rfl ?_
      refine v_imul C dX7_touched_39 ?_
      refine v_iload C 4 dX7_touched_40 rfl ?_
      refine v_iadd C dX7_touched_42 ?_
      obtain ⟨x4, e_x4, h⟩ := bnd h
      refine v_iald C dX7_touched_43 e_x4 ?_
      obtain ⟨u5, e_u5, h⟩ := bnd h
      obtain ⟨x6, e_x6, h⟩ := bnd h
      refine v_callVi C (ci := 6) (av := [.int a2, .int x4]) (rest := [.int a3]) rfl gX7_touched_X7_isNode rfl ⟨rfl, rfl⟩ hV_X7_isNode ⟨(Nat.le_of_ble_eq_true rfl), (Nat.le_of_ble_eq_true rfl)⟩ e_u5 (r_X7_isNode (A := A) e_x6) rfl rfl (Nat.le_of_ble_eq_true rfl) dX7_touched_44 ?_
      refine v_if_eq C (tgt := 54) dX7_touched_47 (by decide) (fun q => ?_) (fun q => ?_)
      · have h := ite_t q h
        refine v_iconst C (v := 0) dX7_touched_54 (by decide) ?_
        refine v_iadd C dX7_touched_55 ?_
        refine v_istore_n C (lv' := [(3, .int (a3 + 0)), (0, .ref a0), (1, .int a1), (2, .int a2), (4, .int a4)]) dX7_touched_56 rfl (by decide) rfl ?_
        refine v_iinc C (k := 4) (v := (a4 + 1)) (lv' := [(4, .int (a4 + 1)), (3, .int (a3 + 0)), (0, .ref a0), (1, .int a1), (2, .int a2)]) dX7_touched_57 rfl rfl (by decide) rfl ?_
        refine v_goto C (tgt := 18) dX7_touched_60 (by decide) ?_
        refine v_sub [2, 3, 4, 1, 0] rfl ?_
        exact ih _ _ _ _ _ _ h
      · have h := ite_f q h
        refine v_iconst C (v := 1) dX7_touched_50 (by decide) ?_
        refine v_goto C (tgt := 55) dX7_touched_51 (by decide) ?_
        refine v_iadd C dX7_touched_55 ?_
        refine v_istore_n C (lv' := [(3, .int (a3 + 1)), (0, .ref a0), (1, .int a1), (2, .int a2), (4, .int a4)]) dX7_touched_56 rfl (by decide) rfl ?_
        refine v_iinc C (k := 4) (v := (a4 + 1)) (lv' := [(4, .int (a4 + 1)), (3, .int (a3 + 1)), (0, .ref a0), (1, .int a1), (2, .int a2)]) dX7_touched_57 rfl rfl (by decide) rfl ?_
        refine v_goto C (tgt := 18) dX7_touched_60 (by decide) ?_
        refine v_sub [2, 3, 4, 1, 0] rfl ?_
        exact ih _ _ _ _ _ _ h
set_option maxRecDepth 100000 in
set_option maxHeartbeats 4000000 in
theorem r_X7_touched_p8 {p : Program} {l : Launch} {e : Env} {s : State} {m : MethodId} {args : Array Value} {below : List Frame} {meth : Method} {c : Code} {G : GG} {A : Nat → Prop} (C : Cx p s m args meth c G A cX7_touched 5 RX7 wsX7_touched (some .int)) (n : Nat) {z : (Int32 × Wd)} : ∀ (t : Nat), ∀ (w : Wd) (a0 : Nat) (a1 : Int32) (a2 : Int32), m_X7_touched_p8 n t w a0 a1 a2 = some z → V p l e { frames := 3, cells := 0, slots := 0, locals := 70 } s m args below meth c G A 5 8 [(0, .ref a0), (1, .int a1), (2, .int a2)] [] w (some (.int z.1)) z.2 := by
  intro t
  induction t with
  | zero =>
    intro w a0 a1 a2 h
    rw [m_X7_touched_p8] at h
    cases h
  | succ t ih =>
    intro w a0 a1 a2 h
    rw [m_X7_touched_p8] at h
    refine v_iload_n C 2 dX7_touched_8 rfl rfl ?_
    refine v_iconst C (v := 5) dX7_touched_9 (by decide) ?_
    refine v_icmp_ge C (tgt := 89) dX7_touched_10 (by decide) (fun q => ?_) (fun q => ?_)
    · have h := ite_t q h
      refine v_iload_n C 1 dX7_touched_89 rfl rfl ?_
      obtain rfl := Option.some.inj h
      exact v_iret C dX7_touched_90
    · have h := ite_f q h
      refine v_iconst C (v := 0) dX7_touched_13 (by decide) ?_
      refine v_istore_n C (lv' := [(3, .int 0), (0, .ref a0), (1, .int a1), (2, .int a2)]) dX7_touched_14 rfl (by decide) rfl ?_
      refine v_iconst C (v := 0) dX7_touched_15 (by decide) ?_
      refine v_istore C (lv' := [(4, .int 0), (3, .int 0), (0, .ref a0), (1, .int a1), (2, .int a2)]) dX7_touched_16 (by decide) rfl ?_
      refine v_sub [2, 3, 4, 1, 0] rfl ?_
      exact r_X7_touched_p18 C n ih n _ _ _ _ _ _ h
set_option maxRecDepth 100000 in
set_option maxHeartbeats 4000000 in
theorem r_X7_touched {l : Launch} {G : GG} {A : Nat → Prop} {n : Nat} {w : Wd} {this : Nat} {z : (Int32 × Wd)} (h : m_X7_touched n w this = some z) : Con l yX7_touched wsX7_touched { frames := 3, cells := 0, slots := 0, locals := 70 } G A [.ref this] w (some (.int z.1)) z.2 := by
  refine Con.of (own := RX7) (cc := cX7_touched) (maxL := 5) (ret := (some .int)) rfl (by decide) rfl (Nat.le_of_ble_eq_true rfl) ?_
  intro p e s m args below meth c C
  show V p l e { frames := 3, cells := 0, slots := 0, locals := 70 } s m args below meth c G A 5 0 [(0, .ref this)] [] w (some (.int z.1)) z.2
  unfold m_X7_touched at h
  refine v_aload_n C 0 dX7_touched_0 rfl rfl ?_
  obtain ⟨u1, e_u1, h⟩ := bnd h
  obtain ⟨z2, e_z2, h⟩ := bnd h
  refine v_callVv C (ci := 6) (av := []) (rest := []) rfl gX7_touched_X7_lays rfl ⟨rfl, rfl⟩ hV_X7_lays ⟨(Nat.le_of_ble_eq_true rfl), (Nat.le_of_ble_eq_true rfl)⟩ e_u1 (r_X7_lays (A := A) e_z2) rfl rfl (Nat.le_of_ble_eq_true rfl) dX7_touched_1 ?_
  refine v_iconst C (v := 0) dX7_touched_4 (by decide) ?_
  refine v_istore_n C (lv' := [(1, .int 0), (0, .ref this)]) dX7_touched_5 rfl (by decide) rfl ?_
  refine v_iconst C (v := 0) dX7_touched_6 (by decide) ?_
  refine v_istore_n C (lv' := [(2, .int 0), (1, .int 0), (0, .ref this)]) dX7_touched_7 rfl (by decide) rfl ?_
  refine v_sub [2, 1, 0] rfl ?_
  exact r_X7_touched_p8 C n n _ _ _ _ h
theorem hS_X7_isId : yX7_isId.cls ≠ "java/lang/invoke/MethodHandle" ∧ yX7_isId.cls ≠ "java/lang/invoke/VarHandle" ∧ (parseMethodDescriptor yX7_isId.desc).map (fun d => d.parameters.length) = some 1 := by decide +kernel
theorem hS_X7_isPlace : yX7_isPlace.cls ≠ "java/lang/invoke/MethodHandle" ∧ yX7_isPlace.cls ≠ "java/lang/invoke/VarHandle" ∧ (parseMethodDescriptor yX7_isPlace.desc).map (fun d => d.parameters.length) = some 2 := by decide +kernel
set_option maxRecDepth 100000 in
set_option maxHeartbeats 4000000 in
theorem r_X7_badAdd {l : Launch} {G : GG} {A : Nat → Prop} {n : Nat} {w : Wd} {this : Nat} {a1 : Int32} {a2 : Int32} {a3 : Int32} {z : Int32} (h : m_X7_badAdd n w this a1 a2 a3 = some z) : Con l yX7_badAdd wsX7_badAdd { frames := 2, cells := 0, slots := 0, locals := 43 } G A [.ref this, .int a1, .int a2, .int a3] w (some (.int z)) w := by
  refine Con.of (own := RX7) (cc := cX7_badAdd) (maxL := 4) (ret := (some .int)) rfl (by decide) rfl (Nat.le_of_ble_eq_true rfl) ?_
  intro p e s m args below meth c C
  show V p l e { frames := 2, cells := 0, slots := 0, locals := 43 } s m args below meth c G A 4 0 [(0, .ref this), (1, .int a1), (2, .int a2), (3, .int a3)] [] w (some (.int z)) w
  unfold m_X7_badAdd at h
  refine v_iload_n C 1 dX7_badAdd_0 rfl rfl ?_
  refine v_callSi C (av := [.int a1]) (rest := []) gX7_badAdd_X7_isId rfl ⟨rfl, rfl⟩ hS_X7_isId ⟨(Nat.le_of_ble_eq_true rfl), (Nat.le_of_ble_eq_true rfl)⟩ (r_X7_isId (A := A) rfl) rfl rfl (Nat.le_of_ble_eq_true rfl) dX7_badAdd_1 ?_
  refine v_if_ne C (tgt := 11) dX7_badAdd_4 (by decide) (fun q => ?_) (fun q => ?_)
  · have h := ite_f q h
    refine v_iload_n C 2 dX7_badAdd_11 rfl rfl ?_
    refine v_iload_n C 3 dX7_badAdd_12 rfl rfl ?_
    refine v_callSi C (av := [.int a2, .int a3]) (rest := []) gX7_badAdd_X7_isPlace rfl ⟨rfl, rfl⟩ hS_X7_isPlace ⟨(Nat.le_of_ble_eq_true rfl), (Nat.le_of_ble_eq_true rfl)⟩ (r_X7_isPlace (A := A) rfl) rfl rfl (Nat.le_of_ble_eq_true rfl) dX7_badAdd_13 ?_
    refine v_if_ne C (tgt := 23) dX7_badAdd_16 (by decide) (fun q => ?_) (fun q => ?_)
    · have h := ite_f q h
      refine v_aload_n C 0 dX7_badAdd_23 rfl rfl ?_
      refine v_iload_n C 1 dX7_badAdd_24 rfl rfl ?_
      obtain ⟨u1, e_u1, h⟩ := bnd h
      obtain ⟨x2, e_x2, h⟩ := bnd h
      refine v_callVi C (ci := 6) (av := [.int a1]) (rest := []) rfl gX7_badAdd_X7_isThere rfl ⟨rfl, rfl⟩ hV_X7_isThere ⟨(Nat.le_of_ble_eq_true rfl), (Nat.le_of_ble_eq_true rfl)⟩ e_u1 (r_X7_isThere (A := A) e_x2) rfl rfl (Nat.le_of_ble_eq_true rfl) dX7_badAdd_25 ?_
      refine v_if_eq C (tgt := 35) dX7_badAdd_28 (by decide) (fun q => ?_) (fun q => ?_)
      · have h := ite_t q h
        refine v_iconst C (v := 0) dX7_badAdd_35 (by decide) ?_
        obtain rfl := Option.some.inj h
        exact v_iret C dX7_badAdd_36
      · have h := ite_f q h
        refine v_iconst C (v := 3) dX7_badAdd_31 (by decide) ?_
        refine v_goto C (tgt := 36) dX7_badAdd_32 (by decide) ?_
        obtain rfl := Option.some.inj h
        exact v_iret C dX7_badAdd_36
    · have h := ite_t q h
      refine v_iconst C (v := 2) dX7_badAdd_19 (by decide) ?_
      refine v_goto C (tgt := 36) dX7_badAdd_20 (by decide) ?_
      obtain rfl := Option.some.inj h
      exact v_iret C dX7_badAdd_36
  · have h := ite_t q h
    refine v_iconst C (v := 1) dX7_badAdd_7 (by decide) ?_
    refine v_goto C (tgt := 36) dX7_badAdd_8 (by decide) ?_
    obtain rfl := Option.some.inj h
    exact v_iret C dX7_badAdd_36
