theorem cL_low_8 : Cond.constant RL 8 (2147483647) ∈ wsL_low := by decide +kernel
set_option maxRecDepth 100000 in
set_option maxHeartbeats 4000000 in
theorem r_L_low {l : Launch} {G : GG} {A : Nat → Prop} {n : Nat} {w : Wd} {a0 : Int32} {a1 : Int32} {z : Int32} (h : m_L_low n w a0 a1 = some z) : Con l yL_low wsL_low { frames := 0, cells := 0, slots := 0, locals := 0 } G A [.int a0, .int a1] w (some (.int z)) w := by
  refine Con.of (own := RL) (cc := cL_low) (maxL := 2) (ret := (some .int)) rfl (by decide) rfl (Nat.le_of_ble_eq_true rfl) ?_
  intro p e s m args below meth c C
  show V p l e { frames := 0, cells := 0, slots := 0, locals := 0 } s m args below meth c G A 2 0 [(0, .int a0), (1, .int a1)] [] w (some (.int z)) w
  unfold m_L_low at h
  refine v_iload_n C 0 dL_low_0 rfl rfl ?_
  refine v_ldc C dL_low_1 cL_low_8 ?_
  refine v_iand C dL_low_3 ?_
  refine v_iload_n C 1 dL_low_4 rfl rfl ?_
  obtain ⟨x1, e_x1, h⟩ := bnd h
  refine v_iremR C dL_low_5 e_x1 ?_
  obtain rfl := Option.some.inj h
  exact v_iret C dL_low_6
theorem cL_print_86 : Cond.constantLong RL 86 (31) ∈ wsL_print := by decide +kernel
theorem hS_L_point : yL_point.cls ≠ "java/lang/invoke/MethodHandle" ∧ yL_point.cls ≠ "java/lang/invoke/VarHandle" ∧ (parseMethodDescriptor yL_point.desc).map (fun d => d.parameters.length) = some 3 := by decide +kernel
theorem hS_L_cursor : yL_cursor.cls ≠ "java/lang/invoke/MethodHandle" ∧ yL_cursor.cls ≠ "java/lang/invoke/VarHandle" ∧ (parseMethodDescriptor yL_cursor.desc).map (fun d => d.parameters.length) = some 3 := by decide +kernel
theorem hS_L_level : yL_level.cls ≠ "java/lang/invoke/MethodHandle" ∧ yL_level.cls ≠ "java/lang/invoke/VarHandle" ∧ (parseMethodDescriptor yL_level.desc).map (fun d => d.parameters.length) = some 3 := by decide +kernel
theorem hS_L_closest : yL_closest.cls ≠ "java/lang/invoke/MethodHandle" ∧ yL_closest.cls ≠ "java/lang/invoke/VarHandle" ∧ (parseMethodDescriptor yL_closest.desc).map (fun d => d.parameters.length) = some 2 := by decide +kernel
theorem hV_X6_time : yX6_time.cls = RX6 ∧ yX6_time.cls ≠ "java/lang/invoke/MethodHandle" ∧ yX6_time.cls ≠ "java/lang/invoke/VarHandle" ∧ (parseMethodDescriptor yX6_time.desc).map (fun d => d.parameters.length) = some 0 := by decide +kernel
theorem hV_X6_worst : yX6_worst.cls = RX6 ∧ yX6_worst.cls ≠ "java/lang/invoke/MethodHandle" ∧ yX6_worst.cls ≠ "java/lang/invoke/VarHandle" ∧ (parseMethodDescriptor yX6_worst.desc).map (fun d => d.parameters.length) = some 1 := by decide +kernel
set_option maxRecDepth 100000 in
set_option maxHeartbeats 4000000 in
theorem r_L_print_p28 {p : Program} {l : Launch} {e : Env} {s : State} {m : MethodId} {args : Array Value} {below : List Frame} {meth : Method} {c : Code} {G : GG} {A : Nat → Prop} (C : Cx p s m args meth c G A cL_print 5 RL wsL_print (some .long)) (n : Nat) {k19 : Wd → Nat → Int64 → Int32 → Option Int64} {z : Int64} (H19 : ∀ (w : Wd) (b0 : Nat) (b1 : Int64) (b3 : Int32), k19 w b0 b1 b3 = some z → V p l e { frames := 9, cells := 0, slots := 0, locals := 166 } s m args below meth c G A 5 19 [(0, .ref b0), (1, .long b1), (3, .int b3)] [] w (some (.long z)) w) : ∀ (t : Nat), ∀ (w : Wd) (a0 : Nat) (a1 : Int64) (a3 : Int32) (a4 : Int32), m_L_print_p28 n k19 t w a0 a1 a3 a4 = some z → V p l e { frames := 9, cells := 0, slots := 0, locals := 166 } s m args below meth c G A 5 28 [(0, .ref a0), (1, .long a1), (3, .int a3), (4, .int a4)] [] w (some (.long z)) w := by
  intro t
  induction t with
  | zero =>
    intro w a0 a1 a3 a4 h
    rw [m_L_print_p28] at h
    cases h
  | succ t ih =>
    intro w a0 a1 a3 a4 h
    rw [m_L_print_p28] at h
    refine v_iload C 3 dL_print_28 rfl ?_
    refine v_iconst C (v := 5) dL_print_30 (by decide) ?_
    refine v_icmp_ge C (tgt := 55) dL_print_31 (by decide) (fun q => ?_) (fun q => ?_)
    · have h := ite_t q h
      refine v_iinc C (k := 2) (v := (a3 + 1)) (lv' := [(3, .int (a3 + 1)), (0, .ref a0), (1, .long a1), (4, .int a4)]) dL_print_55 rfl rfl (by decide) rfl ?_
      refine v_goto C (tgt := 19) dL_print_58 (by decide) ?_
      refine v_sub [1, 2, 0] rfl ?_
      exact H19 _ _ _ _ h
    · have h := ite_f q h
      refine v_ldc2 C dL_print_34 cL_print_86 ?_
      refine v_lload_n C 1 dL_print_37 rfl rfl ?_
      refine v_lmul C dL_print_38 ?_
      refine v_aload_n C 0 dL_print_39 rfl rfl ?_
      refine v_iload_n C 2 dL_print_40 rfl rfl ?_
      refine v_iload C 3 dL_print_41 rfl ?_
      obtain ⟨x1, e_x1, h⟩ := bnd h
      refine v_callSWi C (av := [.ref a0, .int a3, .int a4]) (rest := [.long (31 * a1)]) gL_print_L_point rfl ⟨rfl, rfl⟩ hS_L_point ⟨(Nat.le_of_ble_eq_true rfl), (Nat.le_of_ble_eq_true rfl)⟩ (r_LX_point (A := A) e_x1) rfl rfl (Nat.le_of_ble_eq_true rfl) dL_print_43 ?_
      refine v_at (pc' := 46) rfl ?_
      refine v_i2l C dL_print_46 ?_
      refine v_ladd C dL_print_47 ?_
      refine v_lstore_n C (lv' := [(1, .long ((31 * a1) + (Int32.toInt64 x1))), (0, .ref a0), (3, .int a3), (4, .int a4)]) dL_print_48 rfl (by decide) rfl ?_
      refine v_iinc C (k := 3) (v := (a4 + 1)) (lv' := [(4, .int (a4 + 1)), (1, .long ((31 * a1) + (Int32.toInt64 x1))), (0, .ref a0), (3, .int a3)]) dL_print_49 rfl rfl (by decide) rfl ?_
      refine v_goto C (tgt := 28) dL_print_52 (by decide) ?_
      refine v_sub [2, 1, 3, 0] rfl ?_
      exact ih _ _ _ _ _ h
set_option maxRecDepth 100000 in
set_option maxHeartbeats 4000000 in
theorem r_L_print_p71 {p : Program} {l : Launch} {e : Env} {s : State} {m : MethodId} {args : Array Value} {below : List Frame} {meth : Method} {c : Code} {G : GG} {A : Nat → Prop} (C : Cx p s m args meth c G A cL_print 5 RL wsL_print (some .long)) (n : Nat) {k63 : Wd → Nat → Int64 → Int32 → Option Int64} {z : Int64} (H63 : ∀ (w : Wd) (b0 : Nat) (b1 : Int64) (b3 : Int32), k63 w b0 b1 b3 = some z → V p l e { frames := 9, cells := 0, slots := 0, locals := 166 } s m args below meth c G A 5 63 [(0, .ref b0), (1, .long b1), (3, .int b3)] [] w (some (.long z)) w) : ∀ (t : Nat), ∀ (w : Wd) (a0 : Nat) (a1 : Int64) (a3 : Int32) (a4 : Int32), m_L_print_p71 n k63 t w a0 a1 a3 a4 = some z → V p l e { frames := 9, cells := 0, slots := 0, locals := 166 } s m args below meth c G A 5 71 [(0, .ref a0), (1, .long a1), (3, .int a3), (4, .int a4)] [] w (some (.long z)) w := by
  intro t
  induction t with
  | zero =>
    intro w a0 a1 a3 a4 h
    rw [m_L_print_p71] at h
    cases h
  | succ t ih =>
    intro w a0 a1 a3 a4 h
    rw [m_L_print_p71] at h
    refine v_iload C 3 dL_print_71 rfl ?_
    refine v_bipush C (v := 6) dL_print_73 (by decide) ?_
    refine v_icmp_ge C (tgt := 99) dL_print_75 (by decide) (fun q => ?_) (fun q => ?_)
    · have h := ite_t q h
      refine v_iinc C (k := 2) (v := (a3 + 1)) (lv' := [(3, .int (a3 + 1)), (0, .ref a0), (1, .long a1), (4, .int a4)]) dL_print_99 rfl rfl (by decide) rfl ?_
      refine v_goto C (tgt := 63) dL_print_102 (by decide) ?_
      refine v_sub [1, 2, 0] rfl ?_
      exact H63 _ _ _ _ h
    · have h := ite_f q h
      refine v_ldc2 C dL_print_78 cL_print_86 ?_
      refine v_lload_n C 1 dL_print_81 rfl rfl ?_
      refine v_lmul C dL_print_82 ?_
      refine v_aload_n C 0 dL_print_83 rfl rfl ?_
      refine v_iload_n C 2 dL_print_84 rfl rfl ?_
      refine v_iload C 3 dL_print_85 rfl ?_
      obtain ⟨x1, e_x1, h⟩ := bnd h
      refine v_callSWi C (av := [.ref a0, .int a3, .int a4]) (rest := [.long (31 * a1)]) gL_print_L_cursor rfl ⟨rfl, rfl⟩ hS_L_cursor ⟨(Nat.le_of_ble_eq_true rfl), (Nat.le_of_ble_eq_true rfl)⟩ (r_LX_cursor (A := A) e_x1) rfl rfl (Nat.le_of_ble_eq_true rfl) dL_print_87 ?_
      refine v_at (pc' := 90) rfl ?_
      refine v_i2l C dL_print_90 ?_
      refine v_ladd C dL_print_91 ?_
      refine v_lstore_n C (lv' := [(1, .long ((31 * a1) + (Int32.toInt64 x1))), (0, .ref a0), (3, .int a3), (4, .int a4)]) dL_print_92 rfl (by decide) rfl ?_
      refine v_iinc C (k := 3) (v := (a4 + 1)) (lv' := [(4, .int (a4 + 1)), (1, .long ((31 * a1) + (Int32.toInt64 x1))), (0, .ref a0), (3, .int a3)]) dL_print_93 rfl rfl (by decide) rfl ?_
      refine v_goto C (tgt := 71) dL_print_96 (by decide) ?_
      refine v_sub [2, 1, 3, 0] rfl ?_
      exact ih _ _ _ _ _ h
set_option maxRecDepth 100000 in
set_option maxHeartbeats 4000000 in
theorem r_L_print_p115 {p : Program} {l : Launch} {e : Env} {s : State} {m : MethodId} {args : Array Value} {below : List Frame} {meth : Method} {c : Code} {G : GG} {A : Nat → Prop} (C : Cx p s m args meth c G A cL_print 5 RL wsL_print (some .long)) (n : Nat) {k107 : Wd → Nat → Int64 → Int32 → Option Int64} {z : Int64} (H107 : ∀ (w : Wd) (b0 : Nat) (b1 : Int64) (b3 : Int32), k107 w b0 b1 b3 = some z → V p l e { frames := 9, cells := 0, slots := 0, locals := 166 } s m args below meth c G A 5 107 [(0, .ref b0), (1, .long b1), (3, .int b3)] [] w (some (.long z)) w) : ∀ (t : Nat), ∀ (w : Wd) (a0 : Nat) (a1 : Int64) (a3 : Int32) (a4 : Int32), m_L_print_p115 n k107 t w a0 a1 a3 a4 = some z → V p l e { frames := 9, cells := 0, slots := 0, locals := 166 } s m args below meth c G A 5 115 [(0, .ref a0), (1, .long a1), (3, .int a3), (4, .int a4)] [] w (some (.long z)) w := by
  intro t
  induction t with
  | zero =>
    intro w a0 a1 a3 a4 h
    rw [m_L_print_p115] at h
    cases h
  | succ t ih =>
    intro w a0 a1 a3 a4 h
    rw [m_L_print_p115] at h
    refine v_iload C 3 dL_print_115 rfl ?_
    refine v_iconst C (v := 5) dL_print_117 (by decide) ?_
    refine v_icmp_ge C (tgt := 142) dL_print_118 (by decide) (fun q => ?_) (fun q => ?_)
    · have h := ite_t q h
      refine v_iinc C (k := 2) (v := (a3 + 1)) (lv' := [(3, .int (a3 + 1)), (0, .ref a0), (1, .long a1), (4, .int a4)]) dL_print_142 rfl rfl (by decide) rfl ?_
      refine v_goto C (tgt := 107) dL_print_145 (by decide) ?_
      refine v_sub [1, 2, 0] rfl ?_
      exact H107 _ _ _ _ h
    · have h := ite_f q h
      refine v_ldc2 C dL_print_121 cL_print_86 ?_
      refine v_lload_n C 1 dL_print_124 rfl rfl ?_
      refine v_lmul C dL_print_125 ?_
      refine v_aload_n C 0 dL_print_126 rfl rfl ?_
      refine v_iload_n C 2 dL_print_127 rfl rfl ?_
      refine v_iload C 3 dL_print_128 rfl ?_
      obtain ⟨x1, e_x1, h⟩ := bnd h
      refine v_callSWi C (av := [.ref a0, .int a3, .int a4]) (rest := [.long (31 * a1)]) gL_print_L_level rfl ⟨rfl, rfl⟩ hS_L_level ⟨(Nat.le_of_ble_eq_true rfl), (Nat.le_of_ble_eq_true rfl)⟩ (r_LX_level (A := A) e_x1) rfl rfl (Nat.le_of_ble_eq_true rfl) dL_print_130 ?_
      refine v_at (pc' := 133) rfl ?_
      refine v_i2l C dL_print_133 ?_
      refine v_ladd C dL_print_134 ?_
      refine v_lstore_n C (lv' := [(1, .long ((31 * a1) + (Int32.toInt64 x1))), (0, .ref a0), (3, .int a3), (4, .int a4)]) dL_print_135 rfl (by decide) rfl ?_
      refine v_iinc C (k := 3) (v := (a4 + 1)) (lv' := [(4, .int (a4 + 1)), (1, .long ((31 * a1) + (Int32.toInt64 x1))), (0, .ref a0), (3, .int a3)]) dL_print_136 rfl rfl (by decide) rfl ?_
      refine v_goto C (tgt := 115) dL_print_139 (by decide) ?_
      refine v_sub [2, 1, 3, 0] rfl ?_
      exact ih _ _ _ _ _ h
set_option maxRecDepth 100000 in
set_option maxHeartbeats 4000000 in
theorem r_L_print_p148 {p : Program} {l : Launch} {e : Env} {s : State} {m : MethodId} {args : Array Value} {below : List Frame} {meth : Method} {c : Code} {G : GG} {A : Nat → Prop} (C : Cx p s m args meth c G A cL_print 5 RL wsL_print (some .long)) (n : Nat) {z : Int64} : ∀ (w : Wd) (a0 : Nat) (a1 : Int64), m_L_print_p148 n w a0 a1 = some z → V p l e { frames := 9, cells := 0, slots := 0, locals := 166 } s m args below meth c G A 5 148 [(0, .ref a0), (1, .long a1)] [] w (some (.long z)) w := by
  intro w a0 a1 h
  unfold m_L_print_p148 at h
  refine v_ldc2 C dL_print_148 cL_print_86 ?_
  refine v_lload_n C 1 dL_print_151 rfl rfl ?_
  refine v_lmul C dL_print_152 ?_
  refine v_aload_n C 0 dL_print_153 rfl rfl ?_
  refine v_iconst C (v := 0) dL_print_154 (by decide) ?_
  obtain ⟨x1, e_x1, h⟩ := bnd h
  refine v_callSWi C (av := [.ref a0, .int 0]) (rest := [.long (31 * a1)]) gL_print_L_closest rfl ⟨rfl, rfl⟩ hS_L_closest ⟨(Nat.le_of_ble_eq_true rfl), (Nat.le_of_ble_eq_true rfl)⟩ (r_LX_closest (A := A) e_x1) rfl rfl (Nat.le_of_ble_eq_true rfl) dL_print_155 ?_
  refine v_i2l C dL_print_158 ?_
  refine v_at (pc' := 159) rfl ?_
  refine v_ladd C dL_print_159 ?_
  obtain rfl := Option.some.inj h
  exact v_lret C dL_print_160
set_option maxRecDepth 100000 in
set_option maxHeartbeats 4000000 in
theorem r_L_print_p107 {p : Program} {l : Launch} {e : Env} {s : State} {m : MethodId} {args : Array Value} {below : List Frame} {meth : Method} {c : Code} {G : GG} {A : Nat → Prop} (C : Cx p s m args meth c G A cL_print 5 RL wsL_print (some .long)) (n : Nat) {z : Int64} : ∀ (t : Nat), ∀ (w : Wd) (a0 : Nat) (a1 : Int64) (a3 : Int32), m_L_print_p107 n t w a0 a1 a3 = some z → V p l e { frames := 9, cells := 0, slots := 0, locals := 166 } s m args below meth c G A 5 107 [(0, .ref a0), (1, .long a1), (3, .int a3)] [] w (some (.long z)) w := by
  intro t
  induction t with
  | zero =>
    intro w a0 a1 a3 h
    rw [m_L_print_p107] at h
    cases h
  | succ t ih =>
    intro w a0 a1 a3 h
    rw [m_L_print_p107] at h
    refine v_iload_n C 2 dL_print_107 rfl rfl ?_
    refine v_iconst C (v := 5) dL_print_108 (by decide) ?_
    refine v_icmp_ge C (tgt := 148) dL_print_109 (by decide) (fun q => ?_) (fun q => ?_)
    · have h := ite_t q h
      refine v_sub [0, 1] rfl ?_
      exact r_L_print_p148 C n _ _ _ h
    · have h := ite_f q h
      refine v_iconst C (v := 0) dL_print_112 (by decide) ?_
      refine v_istore C (lv' := [(4, .int 0), (0, .ref a0), (1, .long a1), (3, .int a3)]) dL_print_113 (by decide) rfl ?_
      refine v_sub [1, 2, 3, 0] rfl ?_
      exact r_L_print_p115 C n ih n _ _ _ _ _ h
set_option maxRecDepth 100000 in
set_option maxHeartbeats 4000000 in
theorem r_L_print_p105 {p : Program} {l : Launch} {e : Env} {s : State} {m : MethodId} {args : Array Value} {below : List Frame} {meth : Method} {c : Code} {G : GG} {A : Nat → Prop} (C : Cx p s m args meth c G A cL_print 5 RL wsL_print (some .long)) (n : Nat) {z : Int64} : ∀ (w : Wd) (a0 : Nat) (a1 : Int64), m_L_print_p105 n w a0 a1 = some z → V p l e { frames := 9, cells := 0, slots := 0, locals := 166 } s m args below meth c G A 5 105 [(0, .ref a0), (1, .long a1)] [] w (some (.long z)) w := by
  intro w a0 a1 h
  unfold m_L_print_p105 at h
  refine v_iconst C (v := 0) dL_print_105 (by decide) ?_
  refine v_istore_n C (lv' := [(3, .int 0), (0, .ref a0), (1, .long a1)]) dL_print_106 rfl (by decide) rfl ?_
  refine v_sub [1, 2, 0] rfl ?_
  exact r_L_print_p107 C n n _ _ _ _ h
set_option maxRecDepth 100000 in
set_option maxHeartbeats 4000000 in
theorem r_L_print_p63 {p : Program} {l : Launch} {e : Env} {s : State} {m : MethodId} {args : Array Value} {below : List Frame} {meth : Method} {c : Code} {G : GG} {A : Nat → Prop} (C : Cx p s m args meth c G A cL_print 5 RL wsL_print (some .long)) (n : Nat) {z : Int64} : ∀ (t : Nat), ∀ (w : Wd) (a0 : Nat) (a1 : Int64) (a3 : Int32), m_L_print_p63 n t w a0 a1 a3 = some z → V p l e { frames := 9, cells := 0, slots := 0, locals := 166 } s m args below meth c G A 5 63 [(0, .ref a0), (1, .long a1), (3, .int a3)] [] w (some (.long z)) w := by
  intro t
  induction t with
  | zero =>
    intro w a0 a1 a3 h
    rw [m_L_print_p63] at h
    cases h
  | succ t ih =>
    intro w a0 a1 a3 h
    rw [m_L_print_p63] at h
    refine v_iload_n C 2 dL_print_63 rfl rfl ?_
    refine v_iconst C (v := 4) dL_print_64 (by decide) ?_
    refine v_icmp_ge C (tgt := 105) dL_print_65 (by decide) (fun q => ?_) (fun q => ?_)
    · have h := ite_t q h
      refine v_sub [0, 1] rfl ?_
      exact r_L_print_p105 C n _ _ _ h
    · have h := ite_f q h
      refine v_iconst C (v := 0) dL_print_68 (by decide) ?_
      refine v_istore C (lv' := [(4, .int 0), (0, .ref a0), (1, .long a1), (3, .int a3)]) dL_print_69 (by decide) rfl ?_
      refine v_sub [1, 2, 3, 0] rfl ?_
      exact r_L_print_p71 C n ih n _ _ _ _ _ h
set_option maxRecDepth 100000 in
set_option maxHeartbeats 4000000 in
theorem r_L_print_p61 {p : Program} {l : Launch} {e : Env} {s : State} {m : MethodId} {args : Array Value} {below : List Frame} {meth : Method} {c : Code} {G : GG} {A : Nat → Prop} (C : Cx p s m args meth c G A cL_print 5 RL wsL_print (some .long)) (n : Nat) {z : Int64} : ∀ (w : Wd) (a0 : Nat) (a1 : Int64), m_L_print_p61 n w a0 a1 = some z → V p l e { frames := 9, cells := 0, slots := 0, locals := 166 } s m args below meth c G A 5 61 [(0, .ref a0), (1, .long a1)] [] w (some (.long z)) w := by
  intro w a0 a1 h
  unfold m_L_print_p61 at h
  refine v_iconst C (v := 0) dL_print_61 (by decide) ?_
  refine v_istore_n C (lv' := [(3, .int 0), (0, .ref a0), (1, .long a1)]) dL_print_62 rfl (by decide) rfl ?_
  refine v_sub [1, 2, 0] rfl ?_
  exact r_L_print_p63 C n n _ _ _ _ h
set_option maxRecDepth 100000 in
set_option maxHeartbeats 4000000 in
theorem r_L_print_p19 {p : Program} {l : Launch} {e : Env} {s : State} {m : MethodId} {args : Array Value} {below : List Frame} {meth : Method} {c : Code} {G : GG} {A : Nat → Prop} (C : Cx p s m args meth c G A cL_print 5 RL wsL_print (some .long)) (n : Nat) {z : Int64} : ∀ (t : Nat), ∀ (w : Wd) (a0 : Nat) (a1 : Int64) (a3 : Int32), m_L_print_p19 n t w a0 a1 a3 = some z → V p l e { frames := 9, cells := 0, slots := 0, locals := 166 } s m args below meth c G A 5 19 [(0, .ref a0), (1, .long a1), (3, .int a3)] [] w (some (.long z)) w := by
  intro t
  induction t with
  | zero =>
    intro w a0 a1 a3 h
    rw [m_L_print_p19] at h
    cases h
  | succ t ih =>
    intro w a0 a1 a3 h
    rw [m_L_print_p19] at h
    refine v_iload_n C 2 dL_print_19 rfl rfl ?_
    refine v_bipush C (v := 24) dL_print_20 (by decide) ?_
    refine v_icmp_ge C (tgt := 61) dL_print_22 (by decide) (fun q => ?_) (fun q => ?_)
    · have h := ite_t q h
      refine v_sub [0, 1] rfl ?_
      exact r_L_print_p61 C n _ _ _ h
    · have h := ite_f q h
      refine v_iconst C (v := 0) dL_print_25 (by decide) ?_
      refine v_istore C (lv' := [(4, .int 0), (0, .ref a0), (1, .long a1), (3, .int a3)]) dL_print_26 (by decide) rfl ?_
      refine v_sub [1, 2, 3, 0] rfl ?_
      exact r_L_print_p28 C n ih n _ _ _ _ _ h
set_option maxRecDepth 100000 in
set_option maxHeartbeats 4000000 in
theorem r_L_print {l : Launch} {G : GG} {A : Nat → Prop} {n : Nat} {w : Wd} {a0 : Nat} {z : Int64} (h : m_L_print n w a0 = some z) : Con l yL_print wsL_print { frames := 9, cells := 0, slots := 0, locals := 166 } G A [.ref a0] w (some (.long z)) w := by
  refine Con.of (own := RL) (cc := cL_print) (maxL := 5) (ret := (some .long)) rfl (by decide) rfl (Nat.le_of_ble_eq_true rfl) ?_
  intro p e s m args below meth c C
  show V p l e { frames := 9, cells := 0, slots := 0, locals := 166 } s m args below meth c G A 5 0 [(0, .ref a0)] [] w (some (.long z)) w
  unfold m_L_print at h
  refine v_ldc2 C dL_print_0 cL_print_86 ?_
  refine v_aload_n C 0 dL_print_3 rfl rfl ?_
  obtain ⟨u1, e_u1, h⟩ := bnd h
  obtain ⟨x2, e_x2, h⟩ := bnd h
  refine v_callVi C (ci := 5) (av := []) (rest := [.long 31]) rfl gL_print_X6_time rfl ⟨rfl, rfl⟩ hV_X6_time ⟨(Nat.le_of_ble_eq_true rfl), (Nat.le_of_ble_eq_true rfl)⟩ e_u1 (r_X6_time (A := A) e_x2) rfl rfl (Nat.le_of_ble_eq_true rfl) dL_print_4 ?_
  refine v_i2l C dL_print_7 ?_
  refine v_lmul C dL_print_8 ?_
  refine v_aload_n C 0 dL_print_9 rfl rfl ?_
  refine v_iconst C (v := 1) dL_print_10 (by decide) ?_
  refine v_at (pc' := 11) rfl ?_
  obtain ⟨u3, e_u3, h⟩ := bnd h
  obtain ⟨x4, e_x4, h⟩ := bnd h
  refine v_callVi C (ci := 5) (av := [.int 1]) (rest := [.long (31 * (Int32.toInt64 x2))]) rfl gL_print_X6_worst rfl ⟨rfl, rfl⟩ hV_X6_worst ⟨(Nat.le_of_ble_eq_true rfl), (Nat.le_of_ble_eq_true rfl)⟩ e_u3 (r_X6_worst (A := A) e_x4) rfl rfl (Nat.le_of_ble_eq_true rfl) dL_print_11 ?_
  refine v_i2l C dL_print_14 ?_
  refine v_ladd C dL_print_15 ?_
  refine v_lstore_n C (lv' := [(1, .long ((31 * (Int32.toInt64 x2)) + (Int32.toInt64 x4))), (0, .ref a0)]) dL_print_16 rfl (by decide) rfl ?_
  refine v_iconst C (v := 0) dL_print_17 (by decide) ?_
  refine v_istore_n C (lv' := [(3, .int 0), (1, .long ((31 * (Int32.toInt64 x2)) + (Int32.toInt64 x4))), (0, .ref a0)]) dL_print_18 rfl (by decide) rfl ?_
  refine v_sub [2, 1, 0] rfl ?_
  exact r_L_print_p19 C n n _ _ _ _ h
theorem hS_L_wouldTouch : yL_wouldTouch.cls ≠ "java/lang/invoke/MethodHandle" ∧ yL_wouldTouch.cls ≠ "java/lang/invoke/VarHandle" ∧ (parseMethodDescriptor yL_wouldTouch.desc).map (fun d => d.parameters.length) = some 4 := by decide +kernel
theorem cL_refused_17 : Cond.constant RL 17 (-5000003) ∈ wsL_refused := by decide +kernel
theorem hS_L_open : yL_open.cls ≠ "java/lang/invoke/MethodHandle" ∧ yL_open.cls ≠ "java/lang/invoke/VarHandle" ∧ (parseMethodDescriptor yL_open.desc).map (fun d => d.parameters.length) = some 4 := by decide +kernel
theorem hS_L_next : yL_next.cls ≠ "java/lang/invoke/MethodHandle" ∧ yL_next.cls ≠ "java/lang/invoke/VarHandle" ∧ (parseMethodDescriptor yL_next.desc).map (fun d => d.parameters.length) = some 2 := by decide +kernel
theorem hS_L_nearest : yL_nearest.cls ≠ "java/lang/invoke/MethodHandle" ∧ yL_nearest.cls ≠ "java/lang/invoke/VarHandle" ∧ (parseMethodDescriptor yL_nearest.desc).map (fun d => d.parameters.length) = some 4 := by decide +kernel
theorem cL_refused_20 : Cond.constant RL 20 (-5000001) ∈ wsL_refused := by decide +kernel
theorem hS_L_within : yL_within.cls ≠ "java/lang/invoke/MethodHandle" ∧ yL_within.cls ≠ "java/lang/invoke/VarHandle" ∧ (parseMethodDescriptor yL_within.desc).map (fun d => d.parameters.length) = some 5 := by decide +kernel
theorem hS_L_type : yL_type.cls ≠ "java/lang/invoke/MethodHandle" ∧ yL_type.cls ≠ "java/lang/invoke/VarHandle" ∧ (parseMethodDescriptor yL_type.desc).map (fun d => d.parameters.length) = some 2 := by decide +kernel
theorem hS_L_print : yL_print.cls ≠ "java/lang/invoke/MethodHandle" ∧ yL_print.cls ≠ "java/lang/invoke/VarHandle" ∧ (parseMethodDescriptor yL_print.desc).map (fun d => d.parameters.length) = some 1 := by decide +kernel
theorem hS_L_add : yL_add.cls ≠ "java/lang/invoke/MethodHandle" ∧ yL_add.cls ≠ "java/lang/invoke/VarHandle" ∧ (parseMethodDescriptor yL_add.desc).map (fun d => d.parameters.length) = some 4 := by decide +kernel
theorem hS_L_move : yL_move.cls ≠ "java/lang/invoke/MethodHandle" ∧ yL_move.cls ≠ "java/lang/invoke/VarHandle" ∧ (parseMethodDescriptor yL_move.desc).map (fun d => d.parameters.length) = some 4 := by decide +kernel
theorem hS_L_remove : yL_remove.cls ≠ "java/lang/invoke/MethodHandle" ∧ yL_remove.cls ≠ "java/lang/invoke/VarHandle" ∧ (parseMethodDescriptor yL_remove.desc).map (fun d => d.parameters.length) = some 2 := by decide +kernel
theorem hS_L_setVelocity : yL_setVelocity.cls ≠ "java/lang/invoke/MethodHandle" ∧ yL_setVelocity.cls ≠ "java/lang/invoke/VarHandle" ∧ (parseMethodDescriptor yL_setVelocity.desc).map (fun d => d.parameters.length) = some 4 := by decide +kernel
theorem hS_L_tick : yL_tick.cls ≠ "java/lang/invoke/MethodHandle" ∧ yL_tick.cls ≠ "java/lang/invoke/VarHandle" ∧ (parseMethodDescriptor yL_tick.desc).map (fun d => d.parameters.length) = some 2 := by decide +kernel
theorem hS_L_scatter : yL_scatter.cls ≠ "java/lang/invoke/MethodHandle" ∧ yL_scatter.cls ≠ "java/lang/invoke/VarHandle" ∧ (parseMethodDescriptor yL_scatter.desc).map (fun d => d.parameters.length) = some 5 := by decide +kernel
theorem hS_L_node : yL_node.cls ≠ "java/lang/invoke/MethodHandle" ∧ yL_node.cls ≠ "java/lang/invoke/VarHandle" ∧ (parseMethodDescriptor yL_node.desc).map (fun d => d.parameters.length) = some 4 := by decide +kernel
theorem hS_L_child : yL_child.cls ≠ "java/lang/invoke/MethodHandle" ∧ yL_child.cls ≠ "java/lang/invoke/VarHandle" ∧ (parseMethodDescriptor yL_child.desc).map (fun d => d.parameters.length) = some 4 := by decide +kernel
theorem hS_L_search : yL_search.cls ≠ "java/lang/invoke/MethodHandle" ∧ yL_search.cls ≠ "java/lang/invoke/VarHandle" ∧ (parseMethodDescriptor yL_search.desc).map (fun d => d.parameters.length) = some 5 := by decide +kernel
set_option maxRecDepth 100000 in
set_option maxHeartbeats 4000000 in
theorem r_L_refused_p157 {p : Program} {l : Launch} {e : Env} {s : State} {m : MethodId} {args : Array Value} {below : List Frame} {meth : Method} {c : Code} {G : GG} {A : Nat → Prop} (hst : l.stackTraces = false) (C : Cx p s m args meth c G A cL_refused 4 RL wsL_refused (some .boolean)) (n : Nat) {z : (Int32 × Wd)} : ∀ (w : Wd) (s0 : Int32) (a0 : Nat) (a1 : Int64), m_L_refused_p157 n w s0 a0 a1 = some z → VQ p l e { frames := 10, cells := 20, slots := 120, locals := 194 } s m args below meth c G A 4 12 72 (MQ below (QQ G A (some (.int z.1)) z.2) args s 20 120 A) 157 [(0, .ref a0), (1, .long a1)] [.int s0] w := by
  intro w s0 a0 a1 h
  unfold m_L_refused_p157 at h
  refine v_istore_n C (lv' := [(3, .int s0), (0, .ref a0), (1, .long a1)]) dL_refused_157 rfl (by decide) rfl ?_
  refine v_iload_n C 0 dL_refused_158 rfl rfl ?_
  refine v_if_eq C (tgt := 269) dL_refused_159 (by decide) (fun q => ?_) (fun q => ?_)
  · have h := ite_t q h
    refine v_iconst C (v := 0) dL_refused_269 (by decide) ?_
    obtain rfl := Option.some.inj h
    exact v_zretK (k1 := 20) (s1 := 120) (Nat.le_of_ble_eq_true rfl) (Nat.le_of_ble_eq_true rfl) C dL_refused_270 bo_0
  · have h := ite_f q h
    refine v_aload_n C 1 dL_refused_162 rfl rfl ?_
    refine v_bipush C (v := 24) dL_refused_163 (by decide) ?_
    refine v_iconst C (v := 0) dL_refused_165 (by decide) ?_
    refine v_iconst C (v := 0) dL_refused_166 (by decide) ?_
    obtain ⟨z1, e_z1, h⟩ := bnd h
    refine v_callSW C (av := [.ref a0, .int 24, .int 0, .int 0]) (rest := []) gL_refused_L_wouldTouch rfl ⟨rfl, rfl⟩ hS_L_wouldTouch ⟨(Nat.le_of_ble_eq_true rfl), (Nat.le_of_ble_eq_true rfl)⟩ (r_L_wouldTouch (A := A) hst e_z1) rfl rfl (Nat.le_of_ble_eq_true rfl) dL_refused_167 (hk := ⟨(Nat.le_of_ble_eq_true rfl), (Nat.le_of_ble_eq_true rfl)⟩) ?_
    refine v_ldc C dL_refused_170 cL_refused_17 ?_
    refine v_icmp_ne C (tgt := 269) dL_refused_172 (by decide) (fun q => ?_) (fun q => ?_)
    · have h := ite_f q h
      refine v_iconst C (v := 0) dL_refused_269 (by decide) ?_
      obtain rfl := Option.some.inj h
      exact v_zretK (k1 := 20) (s1 := 120) (Nat.le_of_ble_eq_true rfl) (Nat.le_of_ble_eq_true rfl) C dL_refused_270 bo_0
    · have h := ite_t q h
      refine v_aload_n C 1 dL_refused_175 rfl rfl ?_
      refine v_iconst C (v := (-1)) dL_refused_176 (by decide) ?_
      refine v_iconst C (v := 0) dL_refused_177 (by decide) ?_
      refine v_iconst C (v := 0) dL_refused_178 (by decide) ?_
      obtain ⟨z2, e_z2, h⟩ := bnd h
      refine v_callSW C (av := [.ref a0, .int (-1), .int 0, .int 0]) (rest := []) gL_refused_L_open rfl ⟨rfl, rfl⟩ hS_L_open ⟨(Nat.le_of_ble_eq_true rfl), (Nat.le_of_ble_eq_true rfl)⟩ (r_L_open (A := A) hst e_z2) rfl rfl (Nat.le_of_ble_eq_true rfl) dL_refused_179 (hk := ⟨(Nat.le_of_ble_eq_true rfl), (Nat.le_of_ble_eq_true rfl)⟩) ?_
      refine v_ldc C dL_refused_182 cL_refused_17 ?_
      refine v_icmp_ne C (tgt := 269) dL_refused_184 (by decide) (fun q => ?_) (fun q => ?_)
      · have h := ite_f q h
        refine v_iconst C (v := 0) dL_refused_269 (by decide) ?_
        obtain rfl := Option.some.inj h
        exact v_zretK (k1 := 20) (s1 := 120) (Nat.le_of_ble_eq_true rfl) (Nat.le_of_ble_eq_true rfl) C dL_refused_270 bo_0
      · have h := ite_t q h
        refine v_aload_n C 1 dL_refused_187 rfl rfl ?_
        refine v_iconst C (v := 4) dL_refused_188 (by decide) ?_
        obtain ⟨z3, e_z3, h⟩ := bnd h
        refine v_callSW C (av := [.ref a0, .int 4]) (rest := []) gL_refused_L_next rfl ⟨rfl, rfl⟩ hS_L_next ⟨(Nat.le_of_ble_eq_true rfl), (Nat.le_of_ble_eq_true rfl)⟩ (r_L_next (A := A) hst e_z3) rfl rfl (Nat.le_of_ble_eq_true rfl) dL_refused_189 (hk := ⟨(Nat.le_of_ble_eq_true rfl), (Nat.le_of_ble_eq_true rfl)⟩) ?_
        refine v_ldc C dL_refused_192 cL_refused_17 ?_
        refine v_icmp_ne C (tgt := 269) dL_refused_194 (by decide) (fun q => ?_) (fun q => ?_)
        · have h := ite_f q h
          refine v_iconst C (v := 0) dL_refused_269 (by decide) ?_
          obtain rfl := Option.some.inj h
          exact v_zretK (k1 := 20) (s1 := 120) (Nat.le_of_ble_eq_true rfl) (Nat.le_of_ble_eq_true rfl) C dL_refused_270 bo_0
        · have h := ite_t q h
          refine v_aload_n C 1 dL_refused_197 rfl rfl ?_
          refine v_iconst C (v := 4) dL_refused_198 (by decide) ?_
          refine v_iconst C (v := 0) dL_refused_199 (by decide) ?_
          obtain ⟨z4, e_z4, h⟩ := bnd h
          refine v_callSW C (av := [.ref a0, .int 4, .int 0]) (rest := []) gL_refused_L_cursor rfl ⟨rfl, rfl⟩ hS_L_cursor ⟨(Nat.le_of_ble_eq_true rfl), (Nat.le_of_ble_eq_true rfl)⟩ (r_L_cursor (A := A) hst e_z4) rfl rfl (Nat.le_of_ble_eq_true rfl) dL_refused_200 (hk := ⟨(Nat.le_of_ble_eq_true rfl), (Nat.le_of_ble_eq_true rfl)⟩) ?_
          refine v_ldc C dL_refused_203 cL_refused_17 ?_
          refine v_icmp_ne C (tgt := 269) dL_refused_205 (by decide) (fun q => ?_) (fun q => ?_)
          · have h := ite_f q h
            refine v_iconst C (v := 0) dL_refused_269 (by decide) ?_
            obtain rfl := Option.some.inj h
            exact v_zretK (k1 := 20) (s1 := 120) (Nat.le_of_ble_eq_true rfl) (Nat.le_of_ble_eq_true rfl) C dL_refused_270 bo_0
          · have h := ite_t q h
            refine v_aload_n C 1 dL_refused_208 rfl rfl ?_
            refine v_bipush C (v := 64) dL_refused_209 (by decide) ?_
            refine v_iconst C (v := 0) dL_refused_211 (by decide) ?_
            refine v_iconst C (v := 0) dL_refused_212 (by decide) ?_
            obtain ⟨z5, e_z5, h⟩ := bnd h
            refine v_callSW C (av := [.ref a0, .int 64, .int 0, .int 0]) (rest := []) gL_refused_L_nearest rfl ⟨rfl, rfl⟩ hS_L_nearest ⟨(Nat.le_of_ble_eq_true rfl), (Nat.le_of_ble_eq_true rfl)⟩ (r_L_nearest (A := A) hst e_z5) rfl rfl (Nat.le_of_ble_eq_true rfl) dL_refused_213 (hk := ⟨(Nat.le_of_ble_eq_true rfl), (Nat.le_of_ble_eq_true rfl)⟩) ?_
            refine v_ldc C dL_refused_216 cL_refused_20 ?_
            refine v_icmp_ne C (tgt := 269) dL_refused_218 (by decide) (fun q => ?_) (fun q => ?_)
            · have h := ite_f q h
              refine v_iconst C (v := 0) dL_refused_269 (by decide) ?_
              obtain rfl := Option.some.inj h
              exact v_zretK (k1 := 20) (s1 := 120) (Nat.le_of_ble_eq_true rfl) (Nat.le_of_ble_eq_true rfl) C dL_refused_270 bo_0
            · have h := ite_t q h
              refine v_aload_n C 1 dL_refused_221 rfl rfl ?_
              refine v_iconst C (v := (-1)) dL_refused_222 (by decide) ?_
              refine v_iconst C (v := 0) dL_refused_223 (by decide) ?_
              refine v_iconst C (v := 0) dL_refused_224 (by decide) ?_
              refine v_iconst C (v := 0) dL_refused_225 (by decide) ?_
              obtain ⟨z6, e_z6, h⟩ := bnd h
              refine v_callSW C (av := [.ref a0, .int (-1), .int 0, .int 0, .int 0]) (rest := []) gL_refused_L_within rfl ⟨rfl, rfl⟩ hS_L_within ⟨(Nat.le_of_ble_eq_true rfl), (Nat.le_of_ble_eq_true rfl)⟩ (r_L_within (A := A) hst e_z6) rfl rfl (Nat.le_of_ble_eq_true rfl) dL_refused_226 (hk := ⟨(Nat.le_of_ble_eq_true rfl), (Nat.le_of_ble_eq_true rfl)⟩) ?_
              refine v_ldc C dL_refused_229 cL_refused_20 ?_
              refine v_at (pc' := 231) rfl ?_
              refine v_icmp_ne C (tgt := 269) dL_refused_231 (by decide) (fun q => ?_) (fun q => ?_)
              · have h := ite_f q h
                refine v_iconst C (v := 0) dL_refused_269 (by decide) ?_
                obtain rfl := Option.some.inj h
                exact v_zretK (k1 := 20) (s1 := 120) (Nat.le_of_ble_eq_true rfl) (Nat.le_of_ble_eq_true rfl) C dL_refused_270 bo_0
              · have h := ite_t q h
                refine v_aload_n C 1 dL_refused_234 rfl rfl ?_
                refine v_iconst C (v := (-1)) dL_refused_235 (by decide) ?_
                obtain ⟨z7, e_z7, h⟩ := bnd h
                refine v_callSW C (av := [.ref a0, .int (-1)]) (rest := []) gL_refused_L_closest rfl ⟨rfl, rfl⟩ hS_L_closest ⟨(Nat.le_of_ble_eq_true rfl), (Nat.le_of_ble_eq_true rfl)⟩ (r_L_closest (A := A) hst e_z7) rfl rfl (Nat.le_of_ble_eq_true rfl) dL_refused_236 (hk := ⟨(Nat.le_of_ble_eq_true rfl), (Nat.le_of_ble_eq_true rfl)⟩) ?_
                refine v_ldc C dL_refused_239 cL_refused_20 ?_
                refine v_icmp_ne C (tgt := 269) dL_refused_241 (by decide) (fun q => ?_) (fun q => ?_)
                · have h := ite_f q h
                  refine v_iconst C (v := 0) dL_refused_269 (by decide) ?_
                  obtain rfl := Option.some.inj h
                  exact v_zretK (k1 := 20) (s1 := 120) (Nat.le_of_ble_eq_true rfl) (Nat.le_of_ble_eq_true rfl) C dL_refused_270 bo_0
                · have h := ite_t q h
                  refine v_aload_n C 1 dL_refused_244 rfl rfl ?_
                  refine v_sipush C (v := 500) dL_refused_245 (by decide) ?_
                  obtain ⟨z8, e_z8, h⟩ := bnd h
                  refine v_callSW C (av := [.ref a0, .int 500]) (rest := []) gL_refused_L_type rfl ⟨rfl, rfl⟩ hS_L_type ⟨(Nat.le_of_ble_eq_true rfl), (Nat.le_of_ble_eq_true rfl)⟩ (r_L_type (A := A) hst e_z8) rfl rfl (Nat.le_of_ble_eq_true rfl) dL_refused_248 (hk := ⟨(Nat.le_of_ble_eq_true rfl), (Nat.le_of_ble_eq_true rfl)⟩) ?_
                  refine v_ldc C dL_refused_251 cL_refused_20 ?_
                  refine v_icmp_ne C (tgt := 269) dL_refused_253 (by decide) (fun q => ?_) (fun q => ?_)
                  · have h := ite_f q h
                    refine v_iconst C (v := 0) dL_refused_269 (by decide) ?_
                    obtain rfl := Option.some.inj h
                    exact v_zretK (k1 := 20) (s1 := 120) (Nat.le_of_ble_eq_true rfl) (Nat.le_of_ble_eq_true rfl) C dL_refused_270 bo_0
                  · have h := ite_t q h
                    refine v_aload_n C 1 dL_refused_256 rfl rfl ?_
                    obtain ⟨z9, e_z9, h⟩ := bnd h
                    refine v_callSJ C (av := [.ref a0]) (rest := []) gL_refused_L_print rfl ⟨rfl, rfl⟩ hS_L_print ⟨(Nat.le_of_ble_eq_true rfl), (Nat.le_of_ble_eq_true rfl)⟩ (r_L_print (A := A) e_z9) rfl rfl (Nat.le_of_ble_eq_true rfl) dL_refused_257 (hk := ⟨(Nat.le_of_ble_eq_true rfl), (Nat.le_of_ble_eq_true rfl)⟩) ?_
                    refine v_lload_n C 2 dL_refused_260 rfl rfl ?_
                    refine v_lcmp C dL_refused_261 ?_
                    refine v_if_ne C (tgt := 269) dL_refused_262 (by decide) (fun q => ?_) (fun q => ?_)
                    · have h := ite_f q h
                      refine v_iconst C (v := 0) dL_refused_269 (by decide) ?_
                      obtain rfl := Option.some.inj h
                      exact v_zretK (k1 := 20) (s1 := 120) (Nat.le_of_ble_eq_true rfl) (Nat.le_of_ble_eq_true rfl) C dL_refused_270 bo_0
                    · have h := ite_t q h
                      refine v_iconst C (v := 1) dL_refused_265 (by decide) ?_
                      refine v_goto C (tgt := 270) dL_refused_266 (by decide) ?_
                      obtain rfl := Option.some.inj h
                      exact v_zretK (k1 := 20) (s1 := 120) (Nat.le_of_ble_eq_true rfl) (Nat.le_of_ble_eq_true rfl) C dL_refused_270 bo_1
set_option maxRecDepth 100000 in
set_option maxHeartbeats 4000000 in
theorem r_L_refused {l : Launch} (hst : l.stackTraces = false) {G : GG} {A : Nat → Prop} {n : Nat} {w : Wd} {a0 : Nat} {z : (Int32 × Wd)} (h : m_L_refused n w a0 = some z) : KCon 20 120 l yL_refused wsL_refused { frames := 10, cells := 20, slots := 120, locals := 194 } G A [.ref a0] w (some (.int z.1)) z.2 := by
  refine KCon.of (own := RL) (cc := cL_refused) (maxL := 4) (ret := (some .boolean)) rfl (by decide) rfl (Nat.le_of_ble_eq_true rfl) ?_
  intro p e s m args below meth c C
  show VQ p l e { frames := 10, cells := 20, slots := 120, locals := 194 } s m args below meth c G A 4 0 0 (MQ below (QQ G A (some (.int z.1)) z.2) args s 20 120 A) 0 [(0, .ref a0)] [] w
  unfold m_L_refused at h
  refine v_aload_n C 0 dL_refused_0 rfl rfl ?_
  obtain ⟨z1, e_z1, h⟩ := bnd h
  refine v_callSJ C (av := [.ref a0]) (rest := []) gL_refused_L_print rfl ⟨rfl, rfl⟩ hS_L_print ⟨(Nat.le_of_ble_eq_true rfl), (Nat.le_of_ble_eq_true rfl)⟩ (r_L_print (A := A) e_z1) rfl rfl (Nat.le_of_ble_eq_true rfl) dL_refused_1 (hk := ⟨(Nat.le_of_ble_eq_true rfl), (Nat.le_of_ble_eq_true rfl)⟩) ?_
  refine v_lstore_n C (lv' := [(1, .long z1), (0, .ref a0)]) dL_refused_4 rfl (by decide) rfl ?_
  refine v_aload_n C 1 dL_refused_5 rfl rfl ?_
  refine v_bipush C (v := 99) dL_refused_6 (by decide) ?_
  refine v_iconst C (v := 0) dL_refused_8 (by decide) ?_
  refine v_iconst C (v := 0) dL_refused_9 (by decide) ?_
  refine v_at (pc' := 10) rfl ?_
  obtain ⟨z2, e_z2, h⟩ := bnd h
  refine v_callSW C (av := [.ref a0, .int 99, .int 0, .int 0]) (rest := []) gL_refused_L_add rfl ⟨rfl, rfl⟩ hS_L_add ⟨(Nat.le_of_ble_eq_true rfl), (Nat.le_of_ble_eq_true rfl)⟩ (r_L_add (A := A) hst e_z2) rfl rfl (Nat.le_of_ble_eq_true rfl) dL_refused_10 (hk := ⟨(Nat.le_of_ble_eq_true rfl), (Nat.le_of_ble_eq_true rfl)⟩) ?_
  refine v_ldc C dL_refused_13 cL_refused_17 ?_
  refine v_icmp_ne C (tgt := 156) dL_refused_15 (by decide) (fun q => ?_) (fun q => ?_)
  · have h := ite_f q h
    refine v_iconst C (v := 0) dL_refused_156 (by decide) ?_
    refine v_widen (k1 := 12) (s1 := 72) (Nat.le_of_ble_eq_true rfl) (Nat.le_of_ble_eq_true rfl) ?_
    refine v_sub [1, 0] rfl ?_
    exact r_L_refused_p157 hst C n _ _ _ _ h
  · have h := ite_t q h
    refine v_aload_n C 1 dL_refused_18 rfl rfl ?_
    refine v_bipush C (v := (-5)) dL_refused_19 (by decide) ?_
    refine v_iconst C (v := 0) dL_refused_21 (by decide) ?_
    refine v_iconst C (v := 0) dL_refused_22 (by decide) ?_
    obtain ⟨z3, e_z3, h⟩ := bnd h
    refine v_callSW C (av := [.ref a0, .int (-5), .int 0, .int 0]) (rest := []) gL_refused_L_move rfl ⟨rfl, rfl⟩ hS_L_move ⟨(Nat.le_of_ble_eq_true rfl), (Nat.le_of_ble_eq_true rfl)⟩ (r_L_move (A := A) hst e_z3) rfl rfl (Nat.le_of_ble_eq_true rfl) dL_refused_23 (hk := ⟨(Nat.le_of_ble_eq_true rfl), (Nat.le_of_ble_eq_true rfl)⟩) ?_
    refine v_ldc C dL_refused_26 cL_refused_17 ?_
    refine v_icmp_ne C (tgt := 156) dL_refused_28 (by decide) (fun q => ?_) (fun q => ?_)
    · have h := ite_f q h
      refine v_iconst C (v := 0) dL_refused_156 (by decide) ?_
      refine v_widen (k1 := 12) (s1 := 72) (Nat.le_of_ble_eq_true rfl) (Nat.le_of_ble_eq_true rfl) ?_
      refine v_sub [1, 0] rfl ?_
      exact r_L_refused_p157 hst C n _ _ _ _ h
    · have h := ite_t q h
      refine v_aload_n C 1 dL_refused_31 rfl rfl ?_
      refine v_bipush C (v := 24) dL_refused_32 (by decide) ?_
      obtain ⟨z4, e_z4, h⟩ := bnd h
      refine v_callSW C (av := [.ref a0, .int 24]) (rest := []) gL_refused_L_remove rfl ⟨rfl, rfl⟩ hS_L_remove ⟨(Nat.le_of_ble_eq_true rfl), (Nat.le_of_ble_eq_true rfl)⟩ (r_L_remove (A := A) hst e_z4) rfl rfl (Nat.le_of_ble_eq_true rfl) dL_refused_34 (hk := ⟨(Nat.le_of_ble_eq_true rfl), (Nat.le_of_ble_eq_true rfl)⟩) ?_
      refine v_ldc C dL_refused_37 cL_refused_17 ?_
      refine v_icmp_ne C (tgt := 156) dL_refused_39 (by decide) (fun q => ?_) (fun q => ?_)
      · have h := ite_f q h
        refine v_iconst C (v := 0) dL_refused_156 (by decide) ?_
        refine v_widen (k1 := 12) (s1 := 72) (Nat.le_of_ble_eq_true rfl) (Nat.le_of_ble_eq_true rfl) ?_
        refine v_sub [1, 0] rfl ?_
        exact r_L_refused_p157 hst C n _ _ _ _ h
      · have h := ite_t q h
        refine v_aload_n C 1 dL_refused_42 rfl rfl ?_
        refine v_bipush C (v := 24) dL_refused_43 (by decide) ?_
        refine v_iconst C (v := 0) dL_refused_45 (by decide) ?_
        refine v_iconst C (v := 0) dL_refused_46 (by decide) ?_
        obtain ⟨z5, e_z5, h⟩ := bnd h
        refine v_callSW C (av := [.ref a0, .int 24, .int 0, .int 0]) (rest := []) gL_refused_L_setVelocity rfl ⟨rfl, rfl⟩ hS_L_setVelocity ⟨(Nat.le_of_ble_eq_true rfl), (Nat.le_of_ble_eq_true rfl)⟩ (r_L_setVelocity (A := A) hst e_z5) rfl rfl (Nat.le_of_ble_eq_true rfl) dL_refused_47 (hk := ⟨(Nat.le_of_ble_eq_true rfl), (Nat.le_of_ble_eq_true rfl)⟩) ?_
        refine v_ldc C dL_refused_50 cL_refused_17 ?_
        refine v_icmp_ne C (tgt := 156) dL_refused_52 (by decide) (fun q => ?_) (fun q => ?_)
        · have h := ite_f q h
          refine v_iconst C (v := 0) dL_refused_156 (by decide) ?_
          refine v_widen (k1 := 12) (s1 := 72) (Nat.le_of_ble_eq_true rfl) (Nat.le_of_ble_eq_true rfl) ?_
          refine v_sub [1, 0] rfl ?_
          exact r_L_refused_p157 hst C n _ _ _ _ h
        · have h := ite_t q h
          refine v_aload_n C 1 dL_refused_55 rfl rfl ?_
          refine v_iconst C (v := (-1)) dL_refused_56 (by decide) ?_
          obtain ⟨z6, e_z6, h⟩ := bnd h
          refine v_callSW C (av := [.ref a0, .int (-1)]) (rest := []) gL_refused_L_tick rfl ⟨rfl, rfl⟩ hS_L_tick ⟨(Nat.le_of_ble_eq_true rfl), (Nat.le_of_ble_eq_true rfl)⟩ (r_L_tick (A := A) hst e_z6) rfl rfl (Nat.le_of_ble_eq_true rfl) dL_refused_57 (hk := ⟨(Nat.le_of_ble_eq_true rfl), (Nat.le_of_ble_eq_true rfl)⟩) ?_
          refine v_ldc C dL_refused_60 cL_refused_20 ?_
          refine v_icmp_ne C (tgt := 156) dL_refused_62 (by decide) (fun q => ?_) (fun q => ?_)
          · have h := ite_f q h
            refine v_iconst C (v := 0) dL_refused_156 (by decide) ?_
            refine v_widen (k1 := 12) (s1 := 72) (Nat.le_of_ble_eq_true rfl) (Nat.le_of_ble_eq_true rfl) ?_
            refine v_sub [1, 0] rfl ?_
            exact r_L_refused_p157 hst C n _ _ _ _ h
          · have h := ite_t q h
            refine v_aload_n C 1 dL_refused_65 rfl rfl ?_
            refine v_iconst C (v := (-1)) dL_refused_66 (by decide) ?_
            refine v_iconst C (v := 1) dL_refused_67 (by decide) ?_
            refine v_iconst C (v := 1) dL_refused_68 (by decide) ?_
            refine v_iconst C (v := 1) dL_refused_69 (by decide) ?_
            obtain ⟨z7, e_z7, h⟩ := bnd h
            refine v_callSW C (av := [.ref a0, .int (-1), .int 1, .int 1, .int 1]) (rest := []) gL_refused_L_scatter rfl ⟨rfl, rfl⟩ hS_L_scatter ⟨(Nat.le_of_ble_eq_true rfl), (Nat.le_of_ble_eq_true rfl)⟩ (r_L_scatter (A := A) hst e_z7) rfl rfl (Nat.le_of_ble_eq_true rfl) dL_refused_70 (hk := ⟨(Nat.le_of_ble_eq_true rfl), (Nat.le_of_ble_eq_true rfl)⟩) ?_
            refine v_ldc C dL_refused_73 cL_refused_17 ?_
            refine v_at (pc' := 75) rfl ?_
            refine v_icmp_ne C (tgt := 156) dL_refused_75 (by decide) (fun q => ?_) (fun q => ?_)
            · have h := ite_f q h
              refine v_iconst C (v := 0) dL_refused_156 (by decide) ?_
              refine v_widen (k1 := 12) (s1 := 72) (Nat.le_of_ble_eq_true rfl) (Nat.le_of_ble_eq_true rfl) ?_
              refine v_sub [1, 0] rfl ?_
              exact r_L_refused_p157 hst C n _ _ _ _ h
            · have h := ite_t q h
              refine v_aload_n C 1 dL_refused_78 rfl rfl ?_
              refine v_bipush C (v := 23) dL_refused_79 (by decide) ?_
              refine v_iconst C (v := 2) dL_refused_81 (by decide) ?_
              refine v_iconst C (v := 1) dL_refused_82 (by decide) ?_
              refine v_iconst C (v := 1) dL_refused_83 (by decide) ?_
              obtain ⟨z8, e_z8, h⟩ := bnd h
              refine v_callSW C (av := [.ref a0, .int 23, .int 2, .int 1, .int 1]) (rest := []) gL_refused_L_scatter rfl ⟨rfl, rfl⟩ hS_L_scatter ⟨(Nat.le_of_ble_eq_true rfl), (Nat.le_of_ble_eq_true rfl)⟩ (r_L_scatter (A := A) hst e_z8) rfl rfl (Nat.le_of_ble_eq_true rfl) dL_refused_84 (hk := ⟨(Nat.le_of_ble_eq_true rfl), (Nat.le_of_ble_eq_true rfl)⟩) ?_
              refine v_ldc C dL_refused_87 cL_refused_20 ?_
              refine v_at (pc' := 89) rfl ?_
              refine v_icmp_ne C (tgt := 156) dL_refused_89 (by decide) (fun q => ?_) (fun q => ?_)
              · have h := ite_f q h
                refine v_iconst C (v := 0) dL_refused_156 (by decide) ?_
                refine v_widen (k1 := 12) (s1 := 72) (Nat.le_of_ble_eq_true rfl) (Nat.le_of_ble_eq_true rfl) ?_
                refine v_sub [1, 0] rfl ?_
                exact r_L_refused_p157 hst C n _ _ _ _ h
              · have h := ite_t q h
                refine v_aload_n C 1 dL_refused_92 rfl rfl ?_
                refine v_iconst C (v := (-1)) dL_refused_93 (by decide) ?_
                refine v_iconst C (v := 0) dL_refused_94 (by decide) ?_
                obtain ⟨z9, e_z9, h⟩ := bnd h
                refine v_callSW C (av := [.ref a0, .int (-1), .int 0]) (rest := []) gL_refused_L_point rfl ⟨rfl, rfl⟩ hS_L_point ⟨(Nat.le_of_ble_eq_true rfl), (Nat.le_of_ble_eq_true rfl)⟩ (r_L_point (A := A) hst e_z9) rfl rfl (Nat.le_of_ble_eq_true rfl) dL_refused_95 (hk := ⟨(Nat.le_of_ble_eq_true rfl), (Nat.le_of_ble_eq_true rfl)⟩) ?_
                refine v_ldc C dL_refused_98 cL_refused_17 ?_
                refine v_icmp_ne C (tgt := 156) dL_refused_100 (by decide) (fun q => ?_) (fun q => ?_)
                · have h := ite_f q h
                  refine v_iconst C (v := 0) dL_refused_156 (by decide) ?_
                  refine v_widen (k1 := 12) (s1 := 72) (Nat.le_of_ble_eq_true rfl) (Nat.le_of_ble_eq_true rfl) ?_
                  refine v_sub [1, 0] rfl ?_
                  exact r_L_refused_p157 hst C n _ _ _ _ h
                · have h := ite_t q h
                  refine v_aload_n C 1 dL_refused_103 rfl rfl ?_
                  refine v_iconst C (v := 0) dL_refused_104 (by decide) ?_
                  refine v_iconst C (v := (-1)) dL_refused_105 (by decide) ?_
                  obtain ⟨z10, e_z10, h⟩ := bnd h
                  refine v_callSW C (av := [.ref a0, .int 0, .int (-1)]) (rest := []) gL_refused_L_level rfl ⟨rfl, rfl⟩ hS_L_level ⟨(Nat.le_of_ble_eq_true rfl), (Nat.le_of_ble_eq_true rfl)⟩ (r_L_level (A := A) hst e_z10) rfl rfl (Nat.le_of_ble_eq_true rfl) dL_refused_106 (hk := ⟨(Nat.le_of_ble_eq_true rfl), (Nat.le_of_ble_eq_true rfl)⟩) ?_
                  refine v_ldc C dL_refused_109 cL_refused_20 ?_
                  refine v_icmp_ne C (tgt := 156) dL_refused_111 (by decide) (fun q => ?_) (fun q => ?_)
                  · have h := ite_f q h
                    refine v_iconst C (v := 0) dL_refused_156 (by decide) ?_
                    refine v_widen (k1 := 12) (s1 := 72) (Nat.le_of_ble_eq_true rfl) (Nat.le_of_ble_eq_true rfl) ?_
                    refine v_sub [1, 0] rfl ?_
                    exact r_L_refused_p157 hst C n _ _ _ _ h
                  · have h := ite_t q h
                    refine v_aload_n C 1 dL_refused_114 rfl rfl ?_
                    refine v_iconst C (v := 5) dL_refused_115 (by decide) ?_
                    refine v_iconst C (v := 0) dL_refused_116 (by decide) ?_
                    refine v_iconst C (v := 0) dL_refused_117 (by decide) ?_
                    obtain ⟨z11, e_z11, h⟩ := bnd h
                    refine v_callSW C (av := [.ref a0, .int 5, .int 0, .int 0]) (rest := []) gL_refused_L_node rfl ⟨rfl, rfl⟩ hS_L_node ⟨(Nat.le_of_ble_eq_true rfl), (Nat.le_of_ble_eq_true rfl)⟩ (r_L_node (A := A) hst e_z11) rfl rfl (Nat.le_of_ble_eq_true rfl) dL_refused_118 (hk := ⟨(Nat.le_of_ble_eq_true rfl), (Nat.le_of_ble_eq_true rfl)⟩) ?_
                    refine v_ldc C dL_refused_121 cL_refused_17 ?_
                    refine v_icmp_ne C (tgt := 156) dL_refused_123 (by decide) (fun q => ?_) (fun q => ?_)
                    · have h := ite_f q h
                      refine v_iconst C (v := 0) dL_refused_156 (by decide) ?_
                      refine v_widen (k1 := 12) (s1 := 72) (Nat.le_of_ble_eq_true rfl) (Nat.le_of_ble_eq_true rfl) ?_
                      refine v_sub [1, 0] rfl ?_
                      exact r_L_refused_p157 hst C n _ _ _ _ h
                    · have h := ite_t q h
                      refine v_aload_n C 1 dL_refused_126 rfl rfl ?_
                      refine v_iconst C (v := 0) dL_refused_127 (by decide) ?_
                      refine v_bipush C (v := 24) dL_refused_128 (by decide) ?_
                      refine v_iconst C (v := 0) dL_refused_130 (by decide) ?_
                      obtain ⟨z12, e_z12, h⟩ := bnd h
                      refine v_callSW C (av := [.ref a0, .int 0, .int 24, .int 0]) (rest := []) gL_refused_L_child rfl ⟨rfl, rfl⟩ hS_L_child ⟨(Nat.le_of_ble_eq_true rfl), (Nat.le_of_ble_eq_true rfl)⟩ (r_L_child (A := A) hst e_z12) rfl rfl (Nat.le_of_ble_eq_true rfl) dL_refused_131 (hk := ⟨(Nat.le_of_ble_eq_true rfl), (Nat.le_of_ble_eq_true rfl)⟩) ?_
                      refine v_ldc C dL_refused_134 cL_refused_17 ?_
                      refine v_icmp_ne C (tgt := 156) dL_refused_136 (by decide) (fun q => ?_) (fun q => ?_)
                      · have h := ite_f q h
                        refine v_iconst C (v := 0) dL_refused_156 (by decide) ?_
                        refine v_widen (k1 := 12) (s1 := 72) (Nat.le_of_ble_eq_true rfl) (Nat.le_of_ble_eq_true rfl) ?_
                        refine v_sub [1, 0] rfl ?_
                        exact r_L_refused_p157 hst C n _ _ _ _ h
                      · have h := ite_t q h
                        refine v_aload_n C 1 dL_refused_139 rfl rfl ?_
                        refine v_iconst C (v := (-1)) dL_refused_140 (by decide) ?_
                        refine v_iconst C (v := 0) dL_refused_141 (by decide) ?_
                        refine v_iconst C (v := 0) dL_refused_142 (by decide) ?_
                        refine v_iconst C (v := 0) dL_refused_143 (by decide) ?_
                        obtain ⟨z13, e_z13, h⟩ := bnd h
                        refine v_callSW C (av := [.ref a0, .int (-1), .int 0, .int 0, .int 0]) (rest := []) gL_refused_L_search rfl ⟨rfl, rfl⟩ hS_L_search ⟨(Nat.le_of_ble_eq_true rfl), (Nat.le_of_ble_eq_true rfl)⟩ (r_L_search (A := A) hst e_z13) rfl rfl (Nat.le_of_ble_eq_true rfl) dL_refused_144 (hk := ⟨(Nat.le_of_ble_eq_true rfl), (Nat.le_of_ble_eq_true rfl)⟩) ?_
                        refine v_ldc C dL_refused_147 cL_refused_20 ?_
                        refine v_at (pc' := 149) rfl ?_
                        refine v_icmp_ne C (tgt := 156) dL_refused_149 (by decide) (fun q => ?_) (fun q => ?_)
                        · have h := ite_f q h
                          refine v_iconst C (v := 0) dL_refused_156 (by decide) ?_
                          refine v_widen (k1 := 12) (s1 := 72) (Nat.le_of_ble_eq_true rfl) (Nat.le_of_ble_eq_true rfl) ?_
                          refine v_sub [1, 0] rfl ?_
                          exact r_L_refused_p157 hst C n _ _ _ _ h
                        · have h := ite_t q h
                          refine v_iconst C (v := 1) dL_refused_152 (by decide) ?_
                          refine v_goto C (tgt := 157) dL_refused_153 (by decide) ?_
                          refine v_widen (k1 := 12) (s1 := 72) (Nat.le_of_ble_eq_true rfl) (Nat.le_of_ble_eq_true rfl) ?_
                          refine v_sub [1, 0] rfl ?_
                          exact r_L_refused_p157 hst C n _ _ _ _ h
set_option maxRecDepth 100000 in
set_option maxHeartbeats 4000000 in
theorem r_L_indexOf_p6 {p : Program} {l : Launch} {e : Env} {s : State} {m : MethodId} {args : Array Value} {below : List Frame} {meth : Method} {c : Code} {G : GG} {A : Nat → Prop} (C : Cx p s m args meth c G A cL_indexOf 7 RL wsL_indexOf (some .int)) (n : Nat) {z : Int32} : ∀ (t : Nat), ∀ (w : Wd) (a0 : Nat) (a1 : Int32) (a2 : Int32) (a3 : Int32) (a4 : Int32) (a5 : Int32) (a6 : Int32), m_L_indexOf_p6 n t w a0 a1 a2 a3 a4 a5 a6 = some z → V p l e { frames := 9, cells := 0, slots := 0, locals := 160 } s m args below meth c G A 7 6 [(0, .ref a0), (1, .int a1), (2, .int a2), (3, .int a3), (4, .int a4), (5, .int a5), (6, .int a6)] [] w (some (.int z)) w := by
  intro t
  induction t with
  | zero =>
    intro w a0 a1 a2 a3 a4 a5 a6 h
    rw [m_L_indexOf_p6] at h
    cases h
  | succ t ih =>
    intro w a0 a1 a2 a3 a4 a5 a6 h
    rw [m_L_indexOf_p6] at h
    refine v_iload C 6 dL_indexOf_6 rfl ?_
    refine v_aload_n C 0 dL_indexOf_8 rfl rfl ?_
    refine v_iload_n C 1 dL_indexOf_9 rfl rfl ?_
    refine v_iconst C (v := 1) dL_indexOf_10 (by decide) ?_
    obtain ⟨x1, e_x1, h⟩ := bnd h
    refine v_callSWi C (av := [.ref a0, .int a1, .int 1]) (rest := [.int a6]) gL_indexOf_L_level rfl ⟨rfl, rfl⟩ hS_L_level ⟨(Nat.le_of_ble_eq_true rfl), (Nat.le_of_ble_eq_true rfl)⟩ (r_LX_level (A := A) e_x1) rfl rfl (Nat.le_of_ble_eq_true rfl) dL_indexOf_11 ?_
    refine v_icmp_ge C (tgt := 69) dL_indexOf_14 (by decide) (fun q => ?_) (fun q => ?_)
    · have h := ite_t q h
      refine v_iload C 5 dL_indexOf_69 rfl ?_
      obtain rfl := Option.some.inj h
      exact v_iret C dL_indexOf_71
    · have h := ite_f q h
      refine v_aload_n C 0 dL_indexOf_17 rfl rfl ?_
      refine v_iload_n C 1 dL_indexOf_18 rfl rfl ?_
      refine v_iload C 6 dL_indexOf_19 rfl ?_
      refine v_iconst C (v := 0) dL_indexOf_21 (by decide) ?_
      obtain ⟨x2, e_x2, h⟩ := bnd h
      refine v_callSWi C (av := [.ref a0, .int a1, .int a6, .int 0]) (rest := []) gL_indexOf_L_node rfl ⟨rfl, rfl⟩ hS_L_node ⟨(Nat.le_of_ble_eq_true rfl), (Nat.le_of_ble_eq_true rfl)⟩ (r_LX_node (A := A) e_x2) rfl rfl (Nat.le_of_ble_eq_true rfl) dL_indexOf_22 ?_
      refine v_iload_n C 2 dL_indexOf_25 rfl rfl ?_
      refine v_icmp_ne C (tgt := 59) dL_indexOf_26 (by decide) (fun q => ?_) (fun q => ?_)
      · have h := ite_f q h
        refine v_iload C 5 dL_indexOf_59 rfl ?_
        refine v_istore C (lv' := [(5, .int a5), (0, .ref a0), (1, .int a1), (2, .int a2), (3, .int a3), (4, .int a4), (6, .int a6)]) dL_indexOf_61 (by decide) rfl ?_
        refine v_iinc C (k := 6) (v := (a6 + 1)) (lv' := [(6, .int (a6 + 1)), (5, .int a5), (0, .ref a0), (1, .int a1), (2, .int a2), (3, .int a3), (4, .int a4)]) dL_indexOf_63 rfl rfl (by decide) rfl ?_
        refine v_goto C (tgt := 6) dL_indexOf_66 (by decide) ?_
        refine v_sub [2, 3, 4, 5, 6, 1, 0] rfl ?_
        exact ih _ _ _ _ _ _ _ _ h
      · have h := ite_t q h
        refine v_aload_n C 0 dL_indexOf_29 rfl rfl ?_
        refine v_iload_n C 1 dL_indexOf_30 rfl rfl ?_
        refine v_iload C 6 dL_indexOf_31 rfl ?_
        refine v_iconst C (v := 1) dL_indexOf_33 (by decide) ?_
        obtain ⟨x3, e_x3, h⟩ := bnd h
        refine v_callSWi C (av := [.ref a0, .int a1, .int a6, .int 1]) (rest := []) gL_indexOf_L_node rfl ⟨rfl, rfl⟩ hS_L_node ⟨(Nat.le_of_ble_eq_true rfl), (Nat.le_of_ble_eq_true rfl)⟩ (r_LX_node (A := A) e_x3) rfl rfl (Nat.le_of_ble_eq_true rfl) dL_indexOf_34 ?_
        refine v_iload_n C 3 dL_indexOf_37 rfl rfl ?_
        refine v_icmp_ne C (tgt := 59) dL_indexOf_38 (by decide) (fun q => ?_) (fun q => ?_)
        · have h := ite_f q h
          refine v_iload C 5 dL_indexOf_59 rfl ?_
          refine v_istore C (lv' := [(5, .int a5), (0, .ref a0), (1, .int a1), (2, .int a2), (3, .int a3), (4, .int a4), (6, .int a6)]) dL_indexOf_61 (by decide) rfl ?_
          refine v_iinc C (k := 6) (v := (a6 + 1)) (lv' := [(6, .int (a6 + 1)), (5, .int a5), (0, .ref a0), (1, .int a1), (2, .int a2), (3, .int a3), (4, .int a4)]) dL_indexOf_63 rfl rfl (by decide) rfl ?_
          refine v_goto C (tgt := 6) dL_indexOf_66 (by decide) ?_
          refine v_sub [2, 3, 4, 5, 6, 1, 0] rfl ?_
          exact ih _ _ _ _ _ _ _ _ h
        · have h := ite_t q h
          refine v_aload_n C 0 dL_indexOf_41 rfl rfl ?_
          refine v_iload_n C 1 dL_indexOf_42 rfl rfl ?_
          refine v_iload C 6 dL_indexOf_43 rfl ?_
          refine v_iconst C (v := 2) dL_indexOf_45 (by decide) ?_
          obtain ⟨x4, e_x4, h⟩ := bnd h
          refine v_callSWi C (av := [.ref a0, .int a1, .int a6, .int 2]) (rest := []) gL_indexOf_L_node rfl ⟨rfl, rfl⟩ hS_L_node ⟨(Nat.le_of_ble_eq_true rfl), (Nat.le_of_ble_eq_true rfl)⟩ (r_LX_node (A := A) e_x4) rfl rfl (Nat.le_of_ble_eq_true rfl) dL_indexOf_46 ?_
          refine v_iload C 4 dL_indexOf_49 rfl ?_
          refine v_icmp_ne C (tgt := 59) dL_indexOf_51 (by decide) (fun q => ?_) (fun q => ?_)
          · have h := ite_f q h
            refine v_iload C 5 dL_indexOf_59 rfl ?_
            refine v_istore C (lv' := [(5, .int a5), (0, .ref a0), (1, .int a1), (2, .int a2), (3, .int a3), (4, .int a4), (6, .int a6)]) dL_indexOf_61 (by decide) rfl ?_
            refine v_iinc C (k := 6) (v := (a6 + 1)) (lv' := [(6, .int (a6 + 1)), (5, .int a5), (0, .ref a0), (1, .int a1), (2, .int a2), (3, .int a3), (4, .int a4)]) dL_indexOf_63 rfl rfl (by decide) rfl ?_
            refine v_goto C (tgt := 6) dL_indexOf_66 (by decide) ?_
            refine v_sub [2, 3, 4, 5, 6, 1, 0] rfl ?_
            exact ih _ _ _ _ _ _ _ _ h
          · have h := ite_t q h
            refine v_iload C 6 dL_indexOf_54 rfl ?_
            refine v_goto C (tgt := 61) dL_indexOf_56 (by decide) ?_
            refine v_istore C (lv' := [(5, .int a6), (0, .ref a0), (1, .int a1), (2, .int a2), (3, .int a3), (4, .int a4), (6, .int a6)]) dL_indexOf_61 (by decide) rfl ?_
            refine v_iinc C (k := 6) (v := (a6 + 1)) (lv' := [(6, .int (a6 + 1)), (5, .int a6), (0, .ref a0), (1, .int a1), (2, .int a2), (3, .int a3), (4, .int a4)]) dL_indexOf_63 rfl rfl (by decide) rfl ?_
            refine v_goto C (tgt := 6) dL_indexOf_66 (by decide) ?_
            refine v_sub [2, 3, 4, 5, 6, 1, 0] rfl ?_
            exact ih _ _ _ _ _ _ _ _ h
set_option maxRecDepth 100000 in
set_option maxHeartbeats 4000000 in
theorem r_L_indexOf {l : Launch} {G : GG} {A : Nat → Prop} {n : Nat} {w : Wd} {a0 : Nat} {a1 : Int32} {a2 : Int32} {a3 : Int32} {a4 : Int32} {z : Int32} (h : m_L_indexOf n w a0 a1 a2 a3 a4 = some z) : Con l yL_indexOf wsL_indexOf { frames := 9, cells := 0, slots := 0, locals := 160 } G A [.ref a0, .int a1, .int a2, .int a3, .int a4] w (some (.int z)) w := by
  refine Con.of (own := RL) (cc := cL_indexOf) (maxL := 7) (ret := (some .int)) rfl (by decide) rfl (Nat.le_of_ble_eq_true rfl) ?_
  intro p e s m args below meth c C
  show V p l e { frames := 9, cells := 0, slots := 0, locals := 160 } s m args below meth c G A 7 0 [(0, .ref a0), (1, .int a1), (2, .int a2), (3, .int a3), (4, .int a4)] [] w (some (.int z)) w
  unfold m_L_indexOf at h
  refine v_iconst C (v := (-1)) dL_indexOf_0 (by decide) ?_
  refine v_istore C (lv' := [(5, .int (-1)), (0, .ref a0), (1, .int a1), (2, .int a2), (3, .int a3), (4, .int a4)]) dL_indexOf_1 (by decide) rfl ?_
  refine v_iconst C (v := 0) dL_indexOf_3 (by decide) ?_
  refine v_istore C (lv' := [(6, .int 0), (5, .int (-1)), (0, .ref a0), (1, .int a1), (2, .int a2), (3, .int a3), (4, .int a4)]) dL_indexOf_4 (by decide) rfl ?_
  refine v_sub [2, 3, 4, 5, 6, 1, 0] rfl ?_
  exact r_L_indexOf_p6 C n n _ _ _ _ _ _ _ _ h
theorem hS_L_indexOf : yL_indexOf.cls ≠ "java/lang/invoke/MethodHandle" ∧ yL_indexOf.cls ≠ "java/lang/invoke/VarHandle" ∧ (parseMethodDescriptor yL_indexOf.desc).map (fun d => d.parameters.length) = some 5 := by decide +kernel
set_option maxRecDepth 100000 in
set_option maxHeartbeats 4000000 in
theorem r_L_areNodes_p371 {p : Program} {l : Launch} {e : Env} {s : State} {m : MethodId} {args : Array Value} {below : List Frame} {meth : Method} {c : Code} {G : GG} {A : Nat → Prop} (C : Cx p s m args meth c G A cL_areNodes 16 RL wsL_areNodes (some .boolean)) (n : Nat) {k107 : Wd → Nat → Int32 → Int32 → Int32 → Int32 → Int32 → Int32 → Option Int32} {k216 : Wd → Nat → Int32 → Int32 → Int32 → Int32 → Int32 → Int32 → Int32 → Int32 → Int32 → Int32 → Int32 → Option Int32} {z : Int32} (H107 : ∀ (w : Wd) (b0 : Nat) (b1 : Int32) (b2 : Int32) (b4 : Int32) (b5 : Int32) (b6 : Int32) (b7 : Int32), k107 w b0 b1 b2 b4 b5 b6 b7 = some z → V p l e { frames := 10, cells := 0, slots := 0, locals := 186 } s m args below meth c G A 16 107 [(0, .ref b0), (1, .int b1), (2, .int b2), (4, .int b4), (5, .int b5), (6, .int b6), (7, .int b7)] [] w (some (.int z)) w) (H216 : ∀ (w : Wd) (b0 : Nat) (b1 : Int32) (b2 : Int32) (b4 : Int32) (b5 : Int32) (b6 : Int32) (b7 : Int32) (b8 : Int32) (b9 : Int32) (b10 : Int32) (b11 : Int32) (b12 : Int32), k216 w b0 b1 b2 b4 b5 b6 b7 b8 b9 b10 b11 b12 = some z → V p l e { frames := 10, cells := 0, slots := 0, locals := 186 } s m args below meth c G A 16 216 [(0, .ref b0), (1, .int b1), (2, .int b2), (4, .int b4), (5, .int b5), (6, .int b6), (7, .int b7), (8, .int b8), (9, .int b9), (10, .int b10), (11, .int b11), (12, .int b12)] [] w (some (.int z)) w) : ∀ (w : Wd) (s0 : Int32) (s1 : Int32) (a0 : Nat) (a1 : Int32) (a2 : Int32) (a5 : Int32) (a7 : Int32) (a8 : Int32) (a9 : Int32) (a10 : Int32) (a11 : Int32) (a12 : Int32) (a13 : Int32) (a14 : Int32) (a15 : Int32), m_L_areNodes_p371 n k107 k216 w s0 s1 a0 a1 a2 a5 a7 a8 a9 a10 a11 a12 a13 a14 a15 = some z → V p l e { frames := 10, cells := 0, slots := 0, locals := 186 } s m args below meth c G A 16 371 [(0, .ref a0), (1, .int a1), (2, .int a2), (5, .int a5), (7, .int a7), (8, .int a8), (9, .int a9), (10, .int a10), (11, .int a11), (12, .int a12), (13, .int a13), (14, .int a14), (15, .int a15)] [.int s0, .int s1] w (some (.int z)) w := by
  intro w s0 s1 a0 a1 a2 a5 a7 a8 a9 a10 a11 a12 a13 a14 a15 h
  unfold m_L_areNodes_p371 at h
  refine v_iadd C dL_areNodes_371 ?_
  refine v_istore C (lv' := [(6, .int (s1 + s0)), (0, .ref a0), (1, .int a1), (2, .int a2), (5, .int a5), (7, .int a7), (8, .int a8), (9, .int a9), (10, .int a10), (11, .int a11), (12, .int a12), (13, .int a13), (14, .int a14), (15, .int a15)]) dL_areNodes_372 (by decide) rfl ?_
  refine v_iload C 11 dL_areNodes_374 rfl ?_
  refine v_if_lt C (tgt := 493) dL_areNodes_376 (by decide) (fun q => ?_) (fun q => ?_)
  · have h := ite_t q h
    refine v_iconst C (v := 1) dL_areNodes_493 (by decide) ?_
    refine v_goto C (tgt := 498) dL_areNodes_494 (by decide) ?_
    refine v_istore C (lv' := [(4, .int 1), (6, .int (s1 + s0)), (0, .ref a0), (1, .int a1), (2, .int a2), (5, .int a5), (7, .int a7), (8, .int a8), (9, .int a9), (10, .int a10), (11, .int a11), (12, .int a12), (13, .int a13), (14, .int a14), (15, .int a15)]) dL_areNodes_498 (by decide) rfl ?_
    refine v_iinc C (k := 11) (v := (a12 + 1)) (lv' := [(12, .int (a12 + 1)), (4, .int 1), (6, .int (s1 + s0)), (0, .ref a0), (1, .int a1), (2, .int a2), (5, .int a5), (7, .int a7), (8, .int a8), (9, .int a9), (10, .int a10), (11, .int a11), (13, .int a13), (14, .int a14), (15, .int a15)]) dL_areNodes_500 rfl rfl (by decide) rfl ?_
    refine v_goto C (tgt := 216) dL_areNodes_503 (by decide) ?_
    refine v_sub [3, 4, 5, 1, 6, 2, 7, 8, 9, 10, 11, 0] rfl ?_
    exact H216 _ _ _ _ _ _ _ _ _ _ _ _ _ h
  · have h := ite_f q h
    refine v_iload C 12 dL_areNodes_379 rfl ?_
    refine v_iload C 6 dL_areNodes_381 rfl ?_
    refine v_iload C 10 dL_areNodes_383 rfl ?_
    refine v_iconst C (v := 2) dL_areNodes_385 (by decide) ?_
    refine v_irem C dL_areNodes_386 (by decide) ?_
    refine v_iload C 8 dL_areNodes_387 rfl ?_
    refine v_iconst C (v := 2) dL_areNodes_389 (by decide) ?_
    refine v_at (pc' := 390) rfl ?_
    refine v_idiv C dL_areNodes_390 (by decide) ?_
    refine v_imul C dL_areNodes_391 ?_
    refine v_iadd C dL_areNodes_392 ?_
    refine v_icmp_lt C (tgt := 497) dL_areNodes_393 (by decide) (fun q => ?_) (fun q => ?_)
    · have h := ite_t q h
      refine v_iconst C (v := 0) dL_areNodes_497 (by decide) ?_
      refine v_istore C (lv' := [(4, .int 0), (6, .int (s1 + s0)), (0, .ref a0), (1, .int a1), (2, .int a2), (5, .int a5), (7, .int a7), (8, .int a8), (9, .int a9), (10, .int a10), (11, .int a11), (12, .int a12), (13, .int a13), (14, .int a14), (15, .int a15)]) dL_areNodes_498 (by decide) rfl ?_
      refine v_iinc C (k := 11) (v := (a12 + 1)) (lv' := [(12, .int (a12 + 1)), (4, .int 0), (6, .int (s1 + s0)), (0, .ref a0), (1, .int a1), (2, .int a2), (5, .int a5), (7, .int a7), (8, .int a8), (9, .int a9), (10, .int a10), (11, .int a11), (13, .int a13), (14, .int a14), (15, .int a15)]) dL_areNodes_500 rfl rfl (by decide) rfl ?_
      refine v_goto C (tgt := 216) dL_areNodes_503 (by decide) ?_
      refine v_sub [3, 4, 5, 1, 6, 2, 7, 8, 9, 10, 11, 0] rfl ?_
      exact H216 _ _ _ _ _ _ _ _ _ _ _ _ _ h
    · have h := ite_f q h
      refine v_iload C 12 dL_areNodes_396 rfl ?_
      refine v_iload C 6 dL_areNodes_398 rfl ?_
      refine v_iload C 10 dL_areNodes_400 rfl ?_
      refine v_iconst C (v := 2) dL_areNodes_402 (by decide) ?_
      refine v_irem C dL_areNodes_403 (by decide) ?_
      refine v_iload C 8 dL_areNodes_404 rfl ?_
      refine v_iconst C (v := 2) dL_areNodes_406 (by decide) ?_
      refine v_at (pc' := 407) rfl ?_
      refine v_idiv C dL_areNodes_407 (by decide) ?_
      refine v_imul C dL_areNodes_408 ?_
      refine v_iadd C dL_areNodes_409 ?_
      refine v_iload C 8 dL_areNodes_410 rfl ?_
      refine v_iconst C (v := 2) dL_areNodes_412 (by decide) ?_
      refine v_idiv C dL_areNodes_413 (by decide) ?_
      refine v_iadd C dL_areNodes_414 ?_
      refine v_icmp_ge C (tgt := 497) dL_areNodes_415 (by decide) (fun q => ?_) (fun q => ?_)
      · have h := ite_t q h
        refine v_iconst C (v := 0) dL_areNodes_497 (by decide) ?_
        refine v_istore C (lv' := [(4, .int 0), (6, .int (s1 + s0)), (0, .ref a0), (1, .int a1), (2, .int a2), (5, .int a5), (7, .int a7), (8, .int a8), (9, .int a9), (10, .int a10), (11, .int a11), (12, .int a12), (13, .int a13), (14, .int a14), (15, .int a15)]) dL_areNodes_498 (by decide) rfl ?_
        refine v_iinc C (k := 11) (v := (a12 + 1)) (lv' := [(12, .int (a12 + 1)), (4, .int 0), (6, .int (s1 + s0)), (0, .ref a0), (1, .int a1), (2, .int a2), (5, .int a5), (7, .int a7), (8, .int a8), (9, .int a9), (10, .int a10), (11, .int a11), (13, .int a13), (14, .int a14), (15, .int a15)]) dL_areNodes_500 rfl rfl (by decide) rfl ?_
        refine v_goto C (tgt := 216) dL_areNodes_503 (by decide) ?_
        refine v_sub [3, 4, 5, 1, 6, 2, 7, 8, 9, 10, 11, 0] rfl ?_
        exact H216 _ _ _ _ _ _ _ _ _ _ _ _ _ h
      · have h := ite_f q h
        refine v_iload C 13 dL_areNodes_418 rfl ?_
        refine v_iload C 7 dL_areNodes_420 rfl ?_
        refine v_iload C 10 dL_areNodes_422 rfl ?_
        refine v_iconst C (v := 2) dL_areNodes_424 (by decide) ?_
        refine v_idiv C dL_areNodes_425 (by decide) ?_
        refine v_iload C 8 dL_areNodes_426 rfl ?_
        refine v_iconst C (v := 2) dL_areNodes_428 (by decide) ?_
        refine v_at (pc' := 429) rfl ?_
        refine v_idiv C dL_areNodes_429 (by decide) ?_
        refine v_imul C dL_areNodes_430 ?_
        refine v_iadd C dL_areNodes_431 ?_
        refine v_icmp_lt C (tgt := 497) dL_areNodes_432 (by decide) (fun q => ?_) (fun q => ?_)
        · have h := ite_t q h
          refine v_iconst C (v := 0) dL_areNodes_497 (by decide) ?_
          refine v_istore C (lv' := [(4, .int 0), (6, .int (s1 + s0)), (0, .ref a0), (1, .int a1), (2, .int a2), (5, .int a5), (7, .int a7), (8, .int a8), (9, .int a9), (10, .int a10), (11, .int a11), (12, .int a12), (13, .int a13), (14, .int a14), (15, .int a15)]) dL_areNodes_498 (by decide) rfl ?_
          refine v_iinc C (k := 11) (v := (a12 + 1)) (lv' := [(12, .int (a12 + 1)), (4, .int 0), (6, .int (s1 + s0)), (0, .ref a0), (1, .int a1), (2, .int a2), (5, .int a5), (7, .int a7), (8, .int a8), (9, .int a9), (10, .int a10), (11, .int a11), (13, .int a13), (14, .int a14), (15, .int a15)]) dL_areNodes_500 rfl rfl (by decide) rfl ?_
          refine v_goto C (tgt := 216) dL_areNodes_503 (by decide) ?_
          refine v_sub [3, 4, 5, 1, 6, 2, 7, 8, 9, 10, 11, 0] rfl ?_
          exact H216 _ _ _ _ _ _ _ _ _ _ _ _ _ h
        · have h := ite_f q h
          refine v_iload C 13 dL_areNodes_435 rfl ?_
          refine v_iload C 7 dL_areNodes_437 rfl ?_
          refine v_iload C 10 dL_areNodes_439 rfl ?_
          refine v_iconst C (v := 2) dL_areNodes_441 (by decide) ?_
          refine v_idiv C dL_areNodes_442 (by decide) ?_
          refine v_iload C 8 dL_areNodes_443 rfl ?_
          refine v_iconst C (v := 2) dL_areNodes_445 (by decide) ?_
          refine v_at (pc' := 446) rfl ?_
          refine v_idiv C dL_areNodes_446 (by decide) ?_
          refine v_imul C dL_areNodes_447 ?_
          refine v_iadd C dL_areNodes_448 ?_
          refine v_iload C 8 dL_areNodes_449 rfl ?_
          refine v_iconst C (v := 2) dL_areNodes_451 (by decide) ?_
          refine v_idiv C dL_areNodes_452 (by decide) ?_
          refine v_iadd C dL_areNodes_453 ?_
          refine v_icmp_ge C (tgt := 497) dL_areNodes_454 (by decide) (fun q => ?_) (fun q => ?_)
          · have h := ite_t q h
            refine v_iconst C (v := 0) dL_areNodes_497 (by decide) ?_
            refine v_istore C (lv' := [(4, .int 0), (6, .int (s1 + s0)), (0, .ref a0), (1, .int a1), (2, .int a2), (5, .int a5), (7, .int a7), (8, .int a8), (9, .int a9), (10, .int a10), (11, .int a11), (12, .int a12), (13, .int a13), (14, .int a14), (15, .int a15)]) dL_areNodes_498 (by decide) rfl ?_
            refine v_iinc C (k := 11) (v := (a12 + 1)) (lv' := [(12, .int (a12 + 1)), (4, .int 0), (6, .int (s1 + s0)), (0, .ref a0), (1, .int a1), (2, .int a2), (5, .int a5), (7, .int a7), (8, .int a8), (9, .int a9), (10, .int a10), (11, .int a11), (13, .int a13), (14, .int a14), (15, .int a15)]) dL_areNodes_500 rfl rfl (by decide) rfl ?_
            refine v_goto C (tgt := 216) dL_areNodes_503 (by decide) ?_
            refine v_sub [3, 4, 5, 1, 6, 2, 7, 8, 9, 10, 11, 0] rfl ?_
            exact H216 _ _ _ _ _ _ _ _ _ _ _ _ _ h
          · have h := ite_f q h
            refine v_iload C 11 dL_areNodes_457 rfl ?_
            refine v_sipush C (v := 1000) dL_areNodes_459 (by decide) ?_
            refine v_icmp_ge C (tgt := 493) dL_areNodes_462 (by decide) (fun q => ?_) (fun q => ?_)
            · have h := ite_t q h
              refine v_iconst C (v := 1) dL_areNodes_493 (by decide) ?_
              refine v_goto C (tgt := 498) dL_areNodes_494 (by decide) ?_
              refine v_istore C (lv' := [(4, .int 1), (6, .int (s1 + s0)), (0, .ref a0), (1, .int a1), (2, .int a2), (5, .int a5), (7, .int a7), (8, .int a8), (9, .int a9), (10, .int a10), (11, .int a11), (12, .int a12), (13, .int a13), (14, .int a14), (15, .int a15)]) dL_areNodes_498 (by decide) rfl ?_
              refine v_iinc C (k := 11) (v := (a12 + 1)) (lv' := [(12, .int (a12 + 1)), (4, .int 1), (6, .int (s1 + s0)), (0, .ref a0), (1, .int a1), (2, .int a2), (5, .int a5), (7, .int a7), (8, .int a8), (9, .int a9), (10, .int a10), (11, .int a11), (13, .int a13), (14, .int a14), (15, .int a15)]) dL_areNodes_500 rfl rfl (by decide) rfl ?_
              refine v_goto C (tgt := 216) dL_areNodes_503 (by decide) ?_
              refine v_sub [3, 4, 5, 1, 6, 2, 7, 8, 9, 10, 11, 0] rfl ?_
              exact H216 _ _ _ _ _ _ _ _ _ _ _ _ _ h
            · have h := ite_f q h
              refine v_iload C 11 dL_areNodes_465 rfl ?_
              refine v_iload C 5 dL_areNodes_467 rfl ?_
              refine v_icmp_le C (tgt := 497) dL_areNodes_469 (by decide) (fun q => ?_) (fun q => ?_)
              · have h := ite_t q h
                refine v_iconst C (v := 0) dL_areNodes_497 (by decide) ?_
                refine v_istore C (lv' := [(4, .int 0), (6, .int (s1 + s0)), (0, .ref a0), (1, .int a1), (2, .int a2), (5, .int a5), (7, .int a7), (8, .int a8), (9, .int a9), (10, .int a10), (11, .int a11), (12, .int a12), (13, .int a13), (14, .int a14), (15, .int a15)]) dL_areNodes_498 (by decide) rfl ?_
                refine v_iinc C (k := 11) (v := (a12 + 1)) (lv' := [(12, .int (a12 + 1)), (4, .int 0), (6, .int (s1 + s0)), (0, .ref a0), (1, .int a1), (2, .int a2), (5, .int a5), (7, .int a7), (8, .int a8), (9, .int a9), (10, .int a10), (11, .int a11), (13, .int a13), (14, .int a14), (15, .int a15)]) dL_areNodes_500 rfl rfl (by decide) rfl ?_
                refine v_goto C (tgt := 216) dL_areNodes_503 (by decide) ?_
                refine v_sub [3, 4, 5, 1, 6, 2, 7, 8, 9, 10, 11, 0] rfl ?_
                exact H216 _ _ _ _ _ _ _ _ _ _ _ _ _ h
              · have h := ite_f q h
                refine v_aload_n C 1 dL_areNodes_472 rfl rfl ?_
                refine v_iload_n C 2 dL_areNodes_473 rfl rfl ?_
                refine v_iload C 11 dL_areNodes_474 rfl ?_
                refine v_iconst C (v := 3) dL_areNodes_476 (by decide) ?_
                obtain ⟨x1, e_x1, h⟩ := bnd h
                refine v_callSWi C (av := [.ref a0, .int a1, .int a13, .int 3]) (rest := []) gL_areNodes_L_node rfl ⟨rfl, rfl⟩ hS_L_node ⟨(Nat.le_of_ble_eq_true rfl), (Nat.le_of_ble_eq_true rfl)⟩ (r_LX_node (A := A) e_x1) rfl rfl (Nat.le_of_ble_eq_true rfl) dL_areNodes_477 ?_
                refine v_aload_n C 1 dL_areNodes_480 rfl rfl ?_
                refine v_iload_n C 2 dL_areNodes_481 rfl rfl ?_
                refine v_at (pc' := 482) rfl ?_
                refine v_iload C 5 dL_areNodes_482 rfl ?_
                refine v_iconst C (v := 3) dL_areNodes_484 (by decide) ?_
                obtain ⟨x2, e_x2, h⟩ := bnd h
                refine v_callSWi C (av := [.ref a0, .int a1, .int a7, .int 3]) (rest := [.int x1]) gL_areNodes_L_node rfl ⟨rfl, rfl⟩ hS_L_node ⟨(Nat.le_of_ble_eq_true rfl), (Nat.le_of_ble_eq_true rfl)⟩ (r_LX_node (A := A) e_x2) rfl rfl (Nat.le_of_ble_eq_true rfl) dL_areNodes_485 ?_
                refine v_iconst C (v := 1) dL_areNodes_488 (by decide) ?_
                refine v_iadd C dL_areNodes_489 ?_
                refine v_icmp_ne C (tgt := 497) dL_areNodes_490 (by decide) (fun q => ?_) (fun q => ?_)
                · have h := ite_f q h
                  refine v_iconst C (v := 0) dL_areNodes_497 (by decide) ?_
                  refine v_istore C (lv' := [(4, .int 0), (6, .int (s1 + s0)), (0, .ref a0), (1, .int a1), (2, .int a2), (5, .int a5), (7, .int a7), (8, .int a8), (9, .int a9), (10, .int a10), (11, .int a11), (12, .int a12), (13, .int a13), (14, .int a14), (15, .int a15)]) dL_areNodes_498 (by decide) rfl ?_
                  refine v_iinc C (k := 11) (v := (a12 + 1)) (lv' := [(12, .int (a12 + 1)), (4, .int 0), (6, .int (s1 + s0)), (0, .ref a0), (1, .int a1), (2, .int a2), (5, .int a5), (7, .int a7), (8, .int a8), (9, .int a9), (10, .int a10), (11, .int a11), (13, .int a13), (14, .int a14), (15, .int a15)]) dL_areNodes_500 rfl rfl (by decide) rfl ?_
                  refine v_goto C (tgt := 216) dL_areNodes_503 (by decide) ?_
                  refine v_sub [3, 4, 5, 1, 6, 2, 7, 8, 9, 10, 11, 0] rfl ?_
                  exact H216 _ _ _ _ _ _ _ _ _ _ _ _ _ h
                · have h := ite_t q h
                  refine v_iconst C (v := 1) dL_areNodes_493 (by decide) ?_
                  refine v_goto C (tgt := 498) dL_areNodes_494 (by decide) ?_
                  refine v_istore C (lv' := [(4, .int 1), (6, .int (s1 + s0)), (0, .ref a0), (1, .int a1), (2, .int a2), (5, .int a5), (7, .int a7), (8, .int a8), (9, .int a9), (10, .int a10), (11, .int a11), (12, .int a12), (13, .int a13), (14, .int a14), (15, .int a15)]) dL_areNodes_498 (by decide) rfl ?_
                  refine v_iinc C (k := 11) (v := (a12 + 1)) (lv' := [(12, .int (a12 + 1)), (4, .int 1), (6, .int (s1 + s0)), (0, .ref a0), (1, .int a1), (2, .int a2), (5, .int a5), (7, .int a7), (8, .int a8), (9, .int a9), (10, .int a10), (11, .int a11), (13, .int a13), (14, .int a14), (15, .int a15)]) dL_areNodes_500 rfl rfl (by decide) rfl ?_
                  refine v_goto C (tgt := 216) dL_areNodes_503 (by decide) ?_
                  refine v_sub [3, 4, 5, 1, 6, 2, 7, 8, 9, 10, 11, 0] rfl ?_
                  exact H216 _ _ _ _ _ _ _ _ _ _ _ _ _ h
set_option maxRecDepth 100000 in
set_option maxHeartbeats 4000000 in
theorem r_L_areNodes_p316 {p : Program} {l : Launch} {e : Env} {s : State} {m : MethodId} {args : Array Value} {below : List Frame} {meth : Method} {c : Code} {G : GG} {A : Nat → Prop} (C : Cx p s m args meth c G A cL_areNodes 16 RL wsL_areNodes (some .boolean)) (n : Nat) {k107 : Wd → Nat → Int32 → Int32 → Int32 → Int32 → Int32 → Int32 → Option Int32} {k216 : Wd → Nat → Int32 → Int32 → Int32 → Int32 → Int32 → Int32 → Int32 → Int32 → Int32 → Int32 → Int32 → Option Int32} {z : Int32} (H107 : ∀ (w : Wd) (b0 : Nat) (b1 : Int32) (b2 : Int32) (b4 : Int32) (b5 : Int32) (b6 : Int32) (b7 : Int32), k107 w b0 b1 b2 b4 b5 b6 b7 = some z → V p l e { frames := 10, cells := 0, slots := 0, locals := 186 } s m args below meth c G A 16 107 [(0, .ref b0), (1, .int b1), (2, .int b2), (4, .int b4), (5, .int b5), (6, .int b6), (7, .int b7)] [] w (some (.int z)) w) (H216 : ∀ (w : Wd) (b0 : Nat) (b1 : Int32) (b2 : Int32) (b4 : Int32) (b5 : Int32) (b6 : Int32) (b7 : Int32) (b8 : Int32) (b9 : Int32) (b10 : Int32) (b11 : Int32) (b12 : Int32), k216 w b0 b1 b2 b4 b5 b6 b7 b8 b9 b10 b11 b12 = some z → V p l e { frames := 10, cells := 0, slots := 0, locals := 186 } s m args below meth c G A 16 216 [(0, .ref b0), (1, .int b1), (2, .int b2), (4, .int b4), (5, .int b5), (6, .int b6), (7, .int b7), (8, .int b8), (9, .int b9), (10, .int b10), (11, .int b11), (12, .int b12)] [] w (some (.int z)) w) : ∀ (w : Wd) (s0 : Int32) (a0 : Nat) (a1 : Int32) (a2 : Int32) (a5 : Int32) (a6 : Int32) (a7 : Int32) (a8 : Int32) (a9 : Int32) (a10 : Int32) (a11 : Int32) (a12 : Int32) (a13 : Int32) (a14 : Int32), m_L_areNodes_p316 n k107 k216 w s0 a0 a1 a2 a5 a6 a7 a8 a9 a10 a11 a12 a13 a14 = some z → V p l e { frames := 10, cells := 0, slots := 0, locals := 186 } s m args below meth c G A 16 316 [(0, .ref a0), (1, .int a1), (2, .int a2), (5, .int a5), (6, .int a6), (7, .int a7), (8, .int a8), (9, .int a9), (10, .int a10), (11, .int a11), (12, .int a12), (13, .int a13), (14, .int a14)] [.int s0] w (some (.int z)) w := by
  intro w s0 a0 a1 a2 a5 a6 a7 a8 a9 a10 a11 a12 a13 a14 h
  unfold m_L_areNodes_p316 at h
  refine v_istore C (lv' := [(15, .int s0), (0, .ref a0), (1, .int a1), (2, .int a2), (5, .int a5), (6, .int a6), (7, .int a7), (8, .int a8), (9, .int a9), (10, .int a10), (11, .int a11), (12, .int a12), (13, .int a13), (14, .int a14)]) dL_areNodes_316 (by decide) rfl ?_
  refine v_iload C 10 dL_areNodes_318 rfl ?_
  refine v_iload C 12 dL_areNodes_320 rfl ?_
  refine v_if_ge C (tgt := 329) dL_areNodes_322 (by decide) (fun q => ?_) (fun q => ?_)
  · have h := ite_t q h
    refine v_iconst C (v := 1) dL_areNodes_329 (by decide) ?_
    refine v_iadd C dL_areNodes_330 ?_
    refine v_istore C (lv' := [(11, .int (a11 + 1)), (15, .int s0), (0, .ref a0), (1, .int a1), (2, .int a2), (5, .int a5), (6, .int a6), (7, .int a7), (8, .int a8), (9, .int a9), (10, .int a10), (12, .int a12), (13, .int a13), (14, .int a14)]) dL_areNodes_331 (by decide) rfl ?_
    refine v_iload C 5 dL_areNodes_333 rfl ?_
    refine v_iload C 12 dL_areNodes_335 rfl ?_
    refine v_sipush C (v := 1000) dL_areNodes_337 (by decide) ?_
    refine v_icmp_lt C (tgt := 347) dL_areNodes_340 (by decide) (fun q => ?_) (fun q => ?_)
    · have h := ite_t q h
      refine v_iconst C (v := 0) dL_areNodes_347 (by decide) ?_
      refine v_iadd C dL_areNodes_348 ?_
      refine v_istore C (lv' := [(5, .int (a5 + 0)), (11, .int (a11 + 1)), (15, .int s0), (0, .ref a0), (1, .int a1), (2, .int a2), (6, .int a6), (7, .int a7), (8, .int a8), (9, .int a9), (10, .int a10), (12, .int a12), (13, .int a13), (14, .int a14)]) dL_areNodes_349 (by decide) rfl ?_
      refine v_iload C 6 dL_areNodes_351 rfl ?_
      refine v_iload C 12 dL_areNodes_353 rfl ?_
      refine v_if_lt C (tgt := 370) dL_areNodes_355 (by decide) (fun q => ?_) (fun q => ?_)
      · have h := ite_t q h
        refine v_iconst C (v := 0) dL_areNodes_370 (by decide) ?_
        refine v_sub [3, 4, 5, 0, 7, 8, 9, 10, 1, 11, 12, 13, 2] rfl ?_
        exact r_L_areNodes_p371 C n H107 H216 _ _ _ _ _ _ _ _ _ _ _ _ _ _ _ _ h
      · have h := ite_f q h
        refine v_iload C 12 dL_areNodes_358 rfl ?_
        refine v_sipush C (v := 1000) dL_areNodes_360 (by decide) ?_
        refine v_icmp_ge C (tgt := 370) dL_areNodes_363 (by decide) (fun q => ?_) (fun q => ?_)
        · have h := ite_t q h
          refine v_iconst C (v := 0) dL_areNodes_370 (by decide) ?_
          refine v_sub [3, 4, 5, 0, 7, 8, 9, 10, 1, 11, 12, 13, 2] rfl ?_
          exact r_L_areNodes_p371 C n H107 H216 _ _ _ _ _ _ _ _ _ _ _ _ _ _ _ _ h
        · have h := ite_f q h
          refine v_iconst C (v := 1) dL_areNodes_366 (by decide) ?_
          refine v_goto C (tgt := 371) dL_areNodes_367 (by decide) ?_
          refine v_sub [3, 4, 5, 0, 7, 8, 9, 10, 1, 11, 12, 13, 2] rfl ?_
          exact r_L_areNodes_p371 C n H107 H216 _ _ _ _ _ _ _ _ _ _ _ _ _ _ _ _ h
    · have h := ite_f q h
      refine v_iconst C (v := 1) dL_areNodes_343 (by decide) ?_
      refine v_goto C (tgt := 348) dL_areNodes_344 (by decide) ?_
      refine v_iadd C dL_areNodes_348 ?_
      refine v_istore C (lv' := [(5, .int (a5 + 1)), (11, .int (a11 + 1)), (15, .int s0), (0, .ref a0), (1, .int a1), (2, .int a2), (6, .int a6), (7, .int a7), (8, .int a8), (9, .int a9), (10, .int a10), (12, .int a12), (13, .int a13), (14, .int a14)]) dL_areNodes_349 (by decide) rfl ?_
      refine v_iload C 6 dL_areNodes_351 rfl ?_
      refine v_iload C 12 dL_areNodes_353 rfl ?_
      refine v_if_lt C (tgt := 370) dL_areNodes_355 (by decide) (fun q => ?_) (fun q => ?_)
      · have h := ite_t q h
        refine v_iconst C (v := 0) dL_areNodes_370 (by decide) ?_
        refine v_sub [3, 4, 5, 0, 7, 8, 9, 10, 1, 11, 12, 13, 2] rfl ?_
        exact r_L_areNodes_p371 C n H107 H216 _ _ _ _ _ _ _ _ _ _ _ _ _ _ _ _ h
      · have h := ite_f q h
        refine v_iload C 12 dL_areNodes_358 rfl ?_
        refine v_sipush C (v := 1000) dL_areNodes_360 (by decide) ?_
        refine v_icmp_ge C (tgt := 370) dL_areNodes_363 (by decide) (fun q => ?_) (fun q => ?_)
        · have h := ite_t q h
          refine v_iconst C (v := 0) dL_areNodes_370 (by decide) ?_
          refine v_sub [3, 4, 5, 0, 7, 8, 9, 10, 1, 11, 12, 13, 2] rfl ?_
          exact r_L_areNodes_p371 C n H107 H216 _ _ _ _ _ _ _ _ _ _ _ _ _ _ _ _ h
        · have h := ite_f q h
          refine v_iconst C (v := 1) dL_areNodes_366 (by decide) ?_
          refine v_goto C (tgt := 371) dL_areNodes_367 (by decide) ?_
          refine v_sub [3, 4, 5, 0, 7, 8, 9, 10, 1, 11, 12, 13, 2] rfl ?_
          exact r_L_areNodes_p371 C n H107 H216 _ _ _ _ _ _ _ _ _ _ _ _ _ _ _ _ h
  · have h := ite_f q h
    refine v_iconst C (v := 0) dL_areNodes_325 (by decide) ?_
    refine v_goto C (tgt := 330) dL_areNodes_326 (by decide) ?_
    refine v_iadd C dL_areNodes_330 ?_
    refine v_istore C (lv' := [(11, .int (a11 + 0)), (15, .int s0), (0, .ref a0), (1, .int a1), (2, .int a2), (5, .int a5), (6, .int a6), (7, .int a7), (8, .int a8), (9, .int a9), (10, .int a10), (12, .int a12), (13, .int a13), (14, .int a14)]) dL_areNodes_331 (by decide) rfl ?_
    refine v_iload C 5 dL_areNodes_333 rfl ?_
    refine v_iload C 12 dL_areNodes_335 rfl ?_
    refine v_sipush C (v := 1000) dL_areNodes_337 (by decide) ?_
    refine v_at (pc' := 340) rfl ?_
    refine v_icmp_lt C (tgt := 347) dL_areNodes_340 (by decide) (fun q => ?_) (fun q => ?_)
    · have h := ite_t q h
      refine v_iconst C (v := 0) dL_areNodes_347 (by decide) ?_
      refine v_iadd C dL_areNodes_348 ?_
      refine v_istore C (lv' := [(5, .int (a5 + 0)), (11, .int (a11 + 0)), (15, .int s0), (0, .ref a0), (1, .int a1), (2, .int a2), (6, .int a6), (7, .int a7), (8, .int a8), (9, .int a9), (10, .int a10), (12, .int a12), (13, .int a13), (14, .int a14)]) dL_areNodes_349 (by decide) rfl ?_
      refine v_iload C 6 dL_areNodes_351 rfl ?_
      refine v_iload C 12 dL_areNodes_353 rfl ?_
      refine v_if_lt C (tgt := 370) dL_areNodes_355 (by decide) (fun q => ?_) (fun q => ?_)
      · have h := ite_t q h
        refine v_iconst C (v := 0) dL_areNodes_370 (by decide) ?_
        refine v_sub [3, 4, 5, 0, 7, 8, 9, 10, 1, 11, 12, 13, 2] rfl ?_
        exact r_L_areNodes_p371 C n H107 H216 _ _ _ _ _ _ _ _ _ _ _ _ _ _ _ _ h
      · have h := ite_f q h
        refine v_iload C 12 dL_areNodes_358 rfl ?_
        refine v_sipush C (v := 1000) dL_areNodes_360 (by decide) ?_
        refine v_icmp_ge C (tgt := 370) dL_areNodes_363 (by decide) (fun q => ?_) (fun q => ?_)
        · have h := ite_t q h
          refine v_iconst C (v := 0) dL_areNodes_370 (by decide) ?_
          refine v_sub [3, 4, 5, 0, 7, 8, 9, 10, 1, 11, 12, 13, 2] rfl ?_
          exact r_L_areNodes_p371 C n H107 H216 _ _ _ _ _ _ _ _ _ _ _ _ _ _ _ _ h
        · have h := ite_f q h
          refine v_iconst C (v := 1) dL_areNodes_366 (by decide) ?_
          refine v_goto C (tgt := 371) dL_areNodes_367 (by decide) ?_
          refine v_sub [3, 4, 5, 0, 7, 8, 9, 10, 1, 11, 12, 13, 2] rfl ?_
          exact r_L_areNodes_p371 C n H107 H216 _ _ _ _ _ _ _ _ _ _ _ _ _ _ _ _ h
    · have h := ite_f q h
      refine v_iconst C (v := 1) dL_areNodes_343 (by decide) ?_
      refine v_goto C (tgt := 348) dL_areNodes_344 (by decide) ?_
      refine v_iadd C dL_areNodes_348 ?_
      refine v_istore C (lv' := [(5, .int (a5 + 1)), (11, .int (a11 + 0)), (15, .int s0), (0, .ref a0), (1, .int a1), (2, .int a2), (6, .int a6), (7, .int a7), (8, .int a8), (9, .int a9), (10, .int a10), (12, .int a12), (13, .int a13), (14, .int a14)]) dL_areNodes_349 (by decide) rfl ?_
      refine v_iload C 6 dL_areNodes_351 rfl ?_
      refine v_iload C 12 dL_areNodes_353 rfl ?_
      refine v_if_lt C (tgt := 370) dL_areNodes_355 (by decide) (fun q => ?_) (fun q => ?_)
      · have h := ite_t q h
        refine v_iconst C (v := 0) dL_areNodes_370 (by decide) ?_
        refine v_sub [3, 4, 5, 0, 7, 8, 9, 10, 1, 11, 12, 13, 2] rfl ?_
        exact r_L_areNodes_p371 C n H107 H216 _ _ _ _ _ _ _ _ _ _ _ _ _ _ _ _ h
      · have h := ite_f q h
        refine v_iload C 12 dL_areNodes_358 rfl ?_
        refine v_sipush C (v := 1000) dL_areNodes_360 (by decide) ?_
        refine v_icmp_ge C (tgt := 370) dL_areNodes_363 (by decide) (fun q => ?_) (fun q => ?_)
        · have h := ite_t q h
          refine v_iconst C (v := 0) dL_areNodes_370 (by decide) ?_
          refine v_sub [3, 4, 5, 0, 7, 8, 9, 10, 1, 11, 12, 13, 2] rfl ?_
          exact r_L_areNodes_p371 C n H107 H216 _ _ _ _ _ _ _ _ _ _ _ _ _ _ _ _ h
        · have h := ite_f q h
          refine v_iconst C (v := 1) dL_areNodes_366 (by decide) ?_
          refine v_goto C (tgt := 371) dL_areNodes_367 (by decide) ?_
          refine v_sub [3, 4, 5, 0, 7, 8, 9, 10, 1, 11, 12, 13, 2] rfl ?_
          exact r_L_areNodes_p371 C n H107 H216 _ _ _ _ _ _ _ _ _ _ _ _ _ _ _ _ h
set_option maxRecDepth 100000 in
set_option maxHeartbeats 4000000 in
theorem r_L_areNodes_p506 {p : Program} {l : Launch} {e : Env} {s : State} {m : MethodId} {args : Array Value} {below : List Frame} {meth : Method} {c : Code} {G : GG} {A : Nat → Prop} (C : Cx p s m args meth c G A cL_areNodes 16 RL wsL_areNodes (some .boolean)) (n : Nat) {k107 : Wd → Nat → Int32 → Int32 → Int32 → Int32 → Int32 → Int32 → Option Int32} {z : Int32} (H107 : ∀ (w : Wd) (b0 : Nat) (b1 : Int32) (b2 : Int32) (b4 : Int32) (b5 : Int32) (b6 : Int32) (b7 : Int32), k107 w b0 b1 b2 b4 b5 b6 b7 = some z → V p l e { frames := 10, cells := 0, slots := 0, locals := 186 } s m args below meth c G A 16 107 [(0, .ref b0), (1, .int b1), (2, .int b2), (4, .int b4), (5, .int b5), (6, .int b6), (7, .int b7)] [] w (some (.int z)) w) : ∀ (w : Wd) (a0 : Nat) (a1 : Int32) (a2 : Int32) (a4 : Int32) (a5 : Int32) (a6 : Int32) (a7 : Int32) (a11 : Int32), m_L_areNodes_p506 n k107 w a0 a1 a2 a4 a5 a6 a7 a11 = some z → V p l e { frames := 10, cells := 0, slots := 0, locals := 186 } s m args below meth c G A 16 506 [(0, .ref a0), (1, .int a1), (2, .int a2), (4, .int a4), (5, .int a5), (6, .int a6), (7, .int a7), (11, .int a11)] [] w (some (.int z)) w := by
  intro w a0 a1 a2 a4 a5 a6 a7 a11 h
  unfold m_L_areNodes_p506 at h
  refine v_iload C 3 dL_areNodes_506 rfl ?_
  refine v_if_eq C (tgt := 528) dL_areNodes_508 (by decide) (fun q => ?_) (fun q => ?_)
  · have h := ite_t q h
    refine v_iconst C (v := 0) dL_areNodes_528 (by decide) ?_
    refine v_istore C (lv' := [(4, .int 0), (0, .ref a0), (1, .int a1), (2, .int a2), (5, .int a5), (6, .int a6), (7, .int a7), (11, .int a11)]) dL_areNodes_529 (by decide) rfl ?_
    refine v_iinc C (k := 6) (v := (a7 + 1)) (lv' := [(7, .int (a7 + 1)), (4, .int 0), (0, .ref a0), (1, .int a1), (2, .int a2), (5, .int a5), (6, .int a6), (11, .int a11)]) dL_areNodes_531 rfl rfl (by decide) rfl ?_
    refine v_goto C (tgt := 107) dL_areNodes_534 (by decide) ?_
    refine v_sub [2, 3, 4, 1, 5, 6, 0] rfl ?_
    exact H107 _ _ _ _ _ _ _ _ h
  · have h := ite_f q h
    refine v_iload C 7 dL_areNodes_511 rfl ?_
    refine v_aload_n C 0 dL_areNodes_513 rfl rfl ?_
    refine v_iload_n C 1 dL_areNodes_514 rfl rfl ?_
    refine v_iload C 6 dL_areNodes_515 rfl ?_
    refine v_iconst C (v := 5) dL_areNodes_517 (by decide) ?_
    obtain ⟨x1, e_x1, h⟩ := bnd h
    refine v_callSWi C (av := [.ref a0, .int a1, .int a7, .int 5]) (rest := [.int a11]) gL_areNodes_L_node rfl ⟨rfl, rfl⟩ hS_L_node ⟨(Nat.le_of_ble_eq_true rfl), (Nat.le_of_ble_eq_true rfl)⟩ (r_LX_node (A := A) e_x1) rfl rfl (Nat.le_of_ble_eq_true rfl) dL_areNodes_518 ?_
    refine v_icmp_ne C (tgt := 528) dL_areNodes_521 (by decide) (fun q => ?_) (fun q => ?_)
    · have h := ite_f q h
      refine v_iconst C (v := 0) dL_areNodes_528 (by decide) ?_
      refine v_istore C (lv' := [(4, .int 0), (0, .ref a0), (1, .int a1), (2, .int a2), (5, .int a5), (6, .int a6), (7, .int a7), (11, .int a11)]) dL_areNodes_529 (by decide) rfl ?_
      refine v_iinc C (k := 6) (v := (a7 + 1)) (lv' := [(7, .int (a7 + 1)), (4, .int 0), (0, .ref a0), (1, .int a1), (2, .int a2), (5, .int a5), (6, .int a6), (11, .int a11)]) dL_areNodes_531 rfl rfl (by decide) rfl ?_
      refine v_goto C (tgt := 107) dL_areNodes_534 (by decide) ?_
      refine v_sub [2, 3, 4, 1, 5, 6, 0] rfl ?_
      exact H107 _ _ _ _ _ _ _ _ h
    · have h := ite_t q h
      refine v_iconst C (v := 1) dL_areNodes_524 (by decide) ?_
      refine v_goto C (tgt := 529) dL_areNodes_525 (by decide) ?_
      refine v_istore C (lv' := [(4, .int 1), (0, .ref a0), (1, .int a1), (2, .int a2), (5, .int a5), (6, .int a6), (7, .int a7), (11, .int a11)]) dL_areNodes_529 (by decide) rfl ?_
      refine v_iinc C (k := 6) (v := (a7 + 1)) (lv' := [(7, .int (a7 + 1)), (4, .int 1), (0, .ref a0), (1, .int a1), (2, .int a2), (5, .int a5), (6, .int a6), (11, .int a11)]) dL_areNodes_531 rfl rfl (by decide) rfl ?_
      refine v_goto C (tgt := 107) dL_areNodes_534 (by decide) ?_
      refine v_sub [2, 3, 4, 1, 5, 6, 0] rfl ?_
      exact H107 _ _ _ _ _ _ _ _ h
set_option maxRecDepth 100000 in
set_option maxHeartbeats 4000000 in
theorem r_L_areNodes_p216 {p : Program} {l : Launch} {e : Env} {s : State} {m : MethodId} {args : Array Value} {below : List Frame} {meth : Method} {c : Code} {G : GG} {A : Nat → Prop} (C : Cx p s m args meth c G A cL_areNodes 16 RL wsL_areNodes (some .boolean)) (n : Nat) {k107 : Wd → Nat → Int32 → Int32 → Int32 → Int32 → Int32 → Int32 → Option Int32} {z : Int32} (H107 : ∀ (w : Wd) (b0 : Nat) (b1 : Int32) (b2 : Int32) (b4 : Int32) (b5 : Int32) (b6 : Int32) (b7 : Int32), k107 w b0 b1 b2 b4 b5 b6 b7 = some z → V p l e { frames := 10, cells := 0, slots := 0, locals := 186 } s m args below meth c G A 16 107 [(0, .ref b0), (1, .int b1), (2, .int b2), (4, .int b4), (5, .int b5), (6, .int b6), (7, .int b7)] [] w (some (.int z)) w) : ∀ (t : Nat), ∀ (w : Wd) (a0 : Nat) (a1 : Int32) (a2 : Int32) (a4 : Int32) (a5 : Int32) (a6 : Int32) (a7 : Int32) (a8 : Int32) (a9 : Int32) (a10 : Int32) (a11 : Int32) (a12 : Int32), m_L_areNodes_p216 n k107 t w a0 a1 a2 a4 a5 a6 a7 a8 a9 a10 a11 a12 = some z → V p l e { frames := 10, cells := 0, slots := 0, locals := 186 } s m args below meth c G A 16 216 [(0, .ref a0), (1, .int a1), (2, .int a2), (4, .int a4), (5, .int a5), (6, .int a6), (7, .int a7), (8, .int a8), (9, .int a9), (10, .int a10), (11, .int a11), (12, .int a12)] [] w (some (.int z)) w := by
  intro t
  induction t with
  | zero =>
    intro w a0 a1 a2 a4 a5 a6 a7 a8 a9 a10 a11 a12 h
    rw [m_L_areNodes_p216] at h
    cases h
  | succ t ih =>
    intro w a0 a1 a2 a4 a5 a6 a7 a8 a9 a10 a11 a12 h
    rw [m_L_areNodes_p216] at h
    refine v_iload C 11 dL_areNodes_216 rfl ?_
    refine v_iconst C (v := 4) dL_areNodes_218 (by decide) ?_
    refine v_icmp_ge C (tgt := 506) dL_areNodes_219 (by decide) (fun q => ?_) (fun q => ?_)
    · have h := ite_t q h
      refine v_sub [0, 1, 2, 3, 4, 5, 6, 10] rfl ?_
      exact r_L_areNodes_p506 C n H107 _ _ _ _ _ _ _ _ _ h
    · have h := ite_f q h
      refine v_iload C 3 dL_areNodes_222 rfl ?_
      refine v_if_eq C (tgt := 506) dL_areNodes_224 (by decide) (fun q => ?_) (fun q => ?_)
      · have h := ite_t q h
        refine v_sub [0, 1, 2, 3, 4, 5, 6, 10] rfl ?_
        exact r_L_areNodes_p506 C n H107 _ _ _ _ _ _ _ _ _ h
      · have h := ite_f q h
        refine v_aload_n C 0 dL_areNodes_227 rfl rfl ?_
        refine v_iload_n C 1 dL_areNodes_228 rfl rfl ?_
        refine v_iload C 6 dL_areNodes_229 rfl ?_
        refine v_iload C 11 dL_areNodes_231 rfl ?_
        obtain ⟨x1, e_x1, h⟩ := bnd h
        refine v_callSWi C (av := [.ref a0, .int a1, .int a7, .int a12]) (rest := []) gL_areNodes_L_child rfl ⟨rfl, rfl⟩ hS_L_child ⟨(Nat.le_of_ble_eq_true rfl), (Nat.le_of_ble_eq_true rfl)⟩ (r_LX_child (A := A) e_x1) rfl rfl (Nat.le_of_ble_eq_true rfl) dL_areNodes_233 ?_
        refine v_istore C (lv' := [(13, .int x1), (0, .ref a0), (1, .int a1), (2, .int a2), (4, .int a4), (5, .int a5), (6, .int a6), (7, .int a7), (8, .int a8), (9, .int a9), (10, .int a10), (11, .int a11), (12, .int a12)]) dL_areNodes_236 (by decide) rfl ?_
        refine v_iload C 0 dL_areNodes_238 rfl ?_
        refine v_at (pc' := 240) rfl ?_
        refine v_if_ge C (tgt := 248) dL_areNodes_240 (by decide) (fun q => ?_) (fun q => ?_)
        · have h := ite_t q h
          refine v_iload C 0 dL_areNodes_248 rfl ?_
          refine v_sipush C (v := 1000) dL_areNodes_250 (by decide) ?_
          refine v_icmp_ge C (tgt := 267) dL_areNodes_253 (by decide) (fun q => ?_) (fun q => ?_)
          · have h := ite_t q h
            refine v_iload C 0 dL_areNodes_267 rfl ?_
            refine v_sipush C (v := 1000) dL_areNodes_269 (by decide) ?_
            refine v_isub C dL_areNodes_272 ?_
            refine v_bipush C (v := 64) dL_areNodes_273 (by decide) ?_
            refine v_irem C dL_areNodes_275 (by decide) ?_
            refine v_istore C (lv' := [(14, .int (jrm (x1 - 1000) 64)), (13, .int x1), (0, .ref a0), (1, .int a1), (2, .int a2), (4, .int a4), (5, .int a5), (6, .int a6), (7, .int a7), (8, .int a8), (9, .int a9), (10, .int a10), (11, .int a11), (12, .int a12)]) dL_areNodes_276 (by decide) rfl ?_
            refine v_iload C 1 dL_areNodes_278 rfl ?_
            refine v_at (pc' := 280) rfl ?_
            refine v_if_ge C (tgt := 288) dL_areNodes_280 (by decide) (fun q => ?_) (fun q => ?_)
            · have h := ite_t q h
              refine v_iload C 1 dL_areNodes_288 rfl ?_
              refine v_sipush C (v := 1000) dL_areNodes_290 (by decide) ?_
              refine v_icmp_ge C (tgt := 307) dL_areNodes_293 (by decide) (fun q => ?_) (fun q => ?_)
              · have h := ite_t q h
                refine v_iload C 1 dL_areNodes_307 rfl ?_
                refine v_sipush C (v := 1000) dL_areNodes_309 (by decide) ?_
                refine v_isub C dL_areNodes_312 ?_
                refine v_bipush C (v := 64) dL_areNodes_313 (by decide) ?_
                refine v_idiv C dL_areNodes_315 (by decide) ?_
                refine v_sub [2, 3, 4, 6, 7, 8, 9, 10, 11, 12, 13, 1, 0] rfl ?_
                exact r_L_areNodes_p316 C n H107 ih _ _ _ _ _ _ _ _ _ _ _ _ _ _ _ h
              · have h := ite_f q h
                refine v_aload_n C 2 dL_areNodes_296 rfl rfl ?_
                refine v_iload_n C 3 dL_areNodes_297 rfl rfl ?_
                refine v_iload C 1 dL_areNodes_298 rfl ?_
                refine v_iconst C (v := 1) dL_areNodes_300 (by decide) ?_
                obtain ⟨x2, e_x2, h⟩ := bnd h
                refine v_callSWi C (av := [.ref a0, .int a1, .int x1, .int 1]) (rest := []) gL_areNodes_L_node rfl ⟨rfl, rfl⟩ hS_L_node ⟨(Nat.le_of_ble_eq_true rfl), (Nat.le_of_ble_eq_true rfl)⟩ (r_LX_node (A := A) e_x2) rfl rfl (Nat.le_of_ble_eq_true rfl) dL_areNodes_301 ?_
                refine v_goto C (tgt := 316) dL_areNodes_304 (by decide) ?_
                refine v_sub [2, 3, 4, 6, 7, 8, 9, 10, 11, 12, 13, 1, 0] rfl ?_
                exact r_L_areNodes_p316 C n H107 ih _ _ _ _ _ _ _ _ _ _ _ _ _ _ _ h
            · have h := ite_f q h
              refine v_iload C 10 dL_areNodes_283 rfl ?_
              refine v_goto C (tgt := 316) dL_areNodes_285 (by decide) ?_
              refine v_sub [2, 3, 4, 6, 7, 8, 9, 10, 11, 12, 13, 1, 0] rfl ?_
              exact r_L_areNodes_p316 C n H107 ih _ _ _ _ _ _ _ _ _ _ _ _ _ _ _ h
          · have h := ite_f q h
            refine v_aload_n C 1 dL_areNodes_256 rfl rfl ?_
            refine v_iload_n C 2 dL_areNodes_257 rfl rfl ?_
            refine v_iload C 0 dL_areNodes_258 rfl ?_
            refine v_iconst C (v := 0) dL_areNodes_260 (by decide) ?_
            obtain ⟨x3, e_x3, h⟩ := bnd h
            refine v_callSWi C (av := [.ref a0, .int a1, .int x1, .int 0]) (rest := []) gL_areNodes_L_node rfl ⟨rfl, rfl⟩ hS_L_node ⟨(Nat.le_of_ble_eq_true rfl), (Nat.le_of_ble_eq_true rfl)⟩ (r_LX_node (A := A) e_x3) rfl rfl (Nat.le_of_ble_eq_true rfl) dL_areNodes_261 ?_
            refine v_goto C (tgt := 276) dL_areNodes_264 (by decide) ?_
            refine v_istore C (lv' := [(14, .int x3), (13, .int x1), (0, .ref a0), (1, .int a1), (2, .int a2), (4, .int a4), (5, .int a5), (6, .int a6), (7, .int a7), (8, .int a8), (9, .int a9), (10, .int a10), (11, .int a11), (12, .int a12)]) dL_areNodes_276 (by decide) rfl ?_
            refine v_at (pc' := 278) rfl ?_
            refine v_iload C 1 dL_areNodes_278 rfl ?_
            refine v_if_ge C (tgt := 288) dL_areNodes_280 (by decide) (fun q => ?_) (fun q => ?_)
            · have h := ite_t q h
              refine v_iload C 1 dL_areNodes_288 rfl ?_
              refine v_sipush C (v := 1000) dL_areNodes_290 (by decide) ?_
              refine v_icmp_ge C (tgt := 307) dL_areNodes_293 (by decide) (fun q => ?_) (fun q => ?_)
              · have h := ite_t q h
                refine v_iload C 1 dL_areNodes_307 rfl ?_
                refine v_sipush C (v := 1000) dL_areNodes_309 (by decide) ?_
                refine v_isub C dL_areNodes_312 ?_
                refine v_bipush C (v := 64) dL_areNodes_313 (by decide) ?_
                refine v_idiv C dL_areNodes_315 (by decide) ?_
                refine v_sub [2, 3, 4, 6, 7, 8, 9, 10, 11, 12, 13, 1, 0] rfl ?_
                exact r_L_areNodes_p316 C n H107 ih _ _ _ _ _ _ _ _ _ _ _ _ _ _ _ h
              · have h := ite_f q h
                refine v_aload_n C 2 dL_areNodes_296 rfl rfl ?_
                refine v_iload_n C 3 dL_areNodes_297 rfl rfl ?_
                refine v_iload C 1 dL_areNodes_298 rfl ?_
                refine v_iconst C (v := 1) dL_areNodes_300 (by decide) ?_
                obtain ⟨x4, e_x4, h⟩ := bnd h
                refine v_callSWi C (av := [.ref a0, .int a1, .int x1, .int 1]) (rest := []) gL_areNodes_L_node rfl ⟨rfl, rfl⟩ hS_L_node ⟨(Nat.le_of_ble_eq_true rfl), (Nat.le_of_ble_eq_true rfl)⟩ (r_LX_node (A := A) e_x4) rfl rfl (Nat.le_of_ble_eq_true rfl) dL_areNodes_301 ?_
                refine v_goto C (tgt := 316) dL_areNodes_304 (by decide) ?_
                refine v_sub [2, 3, 4, 6, 7, 8, 9, 10, 11, 12, 13, 1, 0] rfl ?_
                exact r_L_areNodes_p316 C n H107 ih _ _ _ _ _ _ _ _ _ _ _ _ _ _ _ h
            · have h := ite_f q h
              refine v_iload C 10 dL_areNodes_283 rfl ?_
              refine v_goto C (tgt := 316) dL_areNodes_285 (by decide) ?_
              refine v_sub [2, 3, 4, 6, 7, 8, 9, 10, 11, 12, 13, 1, 0] rfl ?_
              exact r_L_areNodes_p316 C n H107 ih _ _ _ _ _ _ _ _ _ _ _ _ _ _ _ h
        · have h := ite_f q h
          refine v_iload C 8 dL_areNodes_243 rfl ?_
          refine v_goto C (tgt := 276) dL_areNodes_245 (by decide) ?_
          refine v_istore C (lv' := [(14, .int a8), (13, .int x1), (0, .ref a0), (1, .int a1), (2, .int a2), (4, .int a4), (5, .int a5), (6, .int a6), (7, .int a7), (8, .int a8), (9, .int a9), (10, .int a10), (11, .int a11), (12, .int a12)]) dL_areNodes_276 (by decide) rfl ?_
          refine v_iload C 1 dL_areNodes_278 rfl ?_
          refine v_if_ge C (tgt := 288) dL_areNodes_280 (by decide) (fun q => ?_) (fun q => ?_)
          · have h := ite_t q h
            refine v_iload C 1 dL_areNodes_288 rfl ?_
            refine v_sipush C (v := 1000) dL_areNodes_290 (by decide) ?_
            refine v_icmp_ge C (tgt := 307) dL_areNodes_293 (by decide) (fun q => ?_) (fun q => ?_)
            · have h := ite_t q h
              refine v_iload C 1 dL_areNodes_307 rfl ?_
              refine v_sipush C (v := 1000) dL_areNodes_309 (by decide) ?_
              refine v_isub C dL_areNodes_312 ?_
              refine v_bipush C (v := 64) dL_areNodes_313 (by decide) ?_
              refine v_idiv C dL_areNodes_315 (by decide) ?_
              refine v_sub [2, 3, 4, 6, 7, 8, 9, 10, 11, 12, 13, 1, 0] rfl ?_
              exact r_L_areNodes_p316 C n H107 ih _ _ _ _ _ _ _ _ _ _ _ _ _ _ _ h
            · have h := ite_f q h
              refine v_aload_n C 2 dL_areNodes_296 rfl rfl ?_
              refine v_iload_n C 3 dL_areNodes_297 rfl rfl ?_
              refine v_iload C 1 dL_areNodes_298 rfl ?_
              refine v_iconst C (v := 1) dL_areNodes_300 (by decide) ?_
              obtain ⟨x5, e_x5, h⟩ := bnd h
              refine v_callSWi C (av := [.ref a0, .int a1, .int x1, .int 1]) (rest := []) gL_areNodes_L_node rfl ⟨rfl, rfl⟩ hS_L_node ⟨(Nat.le_of_ble_eq_true rfl), (Nat.le_of_ble_eq_true rfl)⟩ (r_LX_node (A := A) e_x5) rfl rfl (Nat.le_of_ble_eq_true rfl) dL_areNodes_301 ?_
              refine v_goto C (tgt := 316) dL_areNodes_304 (by decide) ?_
              refine v_sub [2, 3, 4, 6, 7, 8, 9, 10, 11, 12, 13, 1, 0] rfl ?_
              exact r_L_areNodes_p316 C n H107 ih _ _ _ _ _ _ _ _ _ _ _ _ _ _ _ h
          · have h := ite_f q h
            refine v_iload C 10 dL_areNodes_283 rfl ?_
            refine v_goto C (tgt := 316) dL_areNodes_285 (by decide) ?_
            refine v_sub [2, 3, 4, 6, 7, 8, 9, 10, 11, 12, 13, 1, 0] rfl ?_
            exact r_L_areNodes_p316 C n H107 ih _ _ _ _ _ _ _ _ _ _ _ _ _ _ _ h
set_option maxRecDepth 100000 in
set_option maxHeartbeats 4000000 in
theorem r_L_areNodes_p537 {p : Program} {l : Launch} {e : Env} {s : State} {m : MethodId} {args : Array Value} {below : List Frame} {meth : Method} {c : Code} {G : GG} {A : Nat → Prop} (C : Cx p s m args meth c G A cL_areNodes 16 RL wsL_areNodes (some .boolean)) (n : Nat) {z : Int32} : ∀ (w : Wd) (a0 : Nat) (a1 : Int32) (a2 : Int32) (a4 : Int32) (a5 : Int32) (a6 : Int32), m_L_areNodes_p537 n w a0 a1 a2 a4 a5 a6 = some z → V p l e { frames := 10, cells := 0, slots := 0, locals := 186 } s m args below meth c G A 16 537 [(0, .ref a0), (1, .int a1), (2, .int a2), (4, .int a4), (5, .int a5), (6, .int a6)] [] w (some (.int z)) w := by
  intro w a0 a1 a2 a4 a5 a6 h
  unfold m_L_areNodes_p537 at h
  refine v_iload C 3 dL_areNodes_537 rfl ?_
  refine v_if_eq C (tgt := 576) dL_areNodes_539 (by decide) (fun q => ?_) (fun q => ?_)
  · have h := ite_t q h
    refine v_iconst C (v := 0) dL_areNodes_576 (by decide) ?_
    obtain rfl := Option.some.inj h
    exact v_zret C dL_areNodes_577 bo_0
  · have h := ite_f q h
    refine v_iload C 5 dL_areNodes_542 rfl ?_
    refine v_iload_n C 2 dL_areNodes_544 rfl rfl ?_
    refine v_iconst C (v := 1) dL_areNodes_545 (by decide) ?_
    refine v_isub C dL_areNodes_546 ?_
    refine v_icmp_ne C (tgt := 576) dL_areNodes_547 (by decide) (fun q => ?_) (fun q => ?_)
    · have h := ite_f q h
      refine v_iconst C (v := 0) dL_areNodes_576 (by decide) ?_
      obtain rfl := Option.some.inj h
      exact v_zret C dL_areNodes_577 bo_0
    · have h := ite_t q h
      refine v_iload C 4 dL_areNodes_550 rfl ?_
      refine v_aload_n C 0 dL_areNodes_552 rfl rfl ?_
      refine v_iload_n C 1 dL_areNodes_553 rfl rfl ?_
      refine v_iconst C (v := 3) dL_areNodes_554 (by decide) ?_
      obtain ⟨x1, e_x1, h⟩ := bnd h
      refine v_callSWi C (av := [.ref a0, .int a1, .int 3]) (rest := [.int a5]) gL_areNodes_L_level rfl ⟨rfl, rfl⟩ hS_L_level ⟨(Nat.le_of_ble_eq_true rfl), (Nat.le_of_ble_eq_true rfl)⟩ (r_LX_level (A := A) e_x1) rfl rfl (Nat.le_of_ble_eq_true rfl) dL_areNodes_555 ?_
      refine v_icmp_ne C (tgt := 576) dL_areNodes_558 (by decide) (fun q => ?_) (fun q => ?_)
      · have h := ite_f q h
        refine v_iconst C (v := 0) dL_areNodes_576 (by decide) ?_
        obtain rfl := Option.some.inj h
        exact v_zret C dL_areNodes_577 bo_0
      · have h := ite_t q h
        refine v_iload C 4 dL_areNodes_561 rfl ?_
        refine v_aload_n C 0 dL_areNodes_563 rfl rfl ?_
        refine v_iload_n C 1 dL_areNodes_564 rfl rfl ?_
        refine v_iconst C (v := 4) dL_areNodes_565 (by decide) ?_
        obtain ⟨x2, e_x2, h⟩ := bnd h
        refine v_callSWi C (av := [.ref a0, .int a1, .int 4]) (rest := [.int a5]) gL_areNodes_L_level rfl ⟨rfl, rfl⟩ hS_L_level ⟨(Nat.le_of_ble_eq_true rfl), (Nat.le_of_ble_eq_true rfl)⟩ (r_LX_level (A := A) e_x2) rfl rfl (Nat.le_of_ble_eq_true rfl) dL_areNodes_566 ?_
        refine v_icmp_ne C (tgt := 576) dL_areNodes_569 (by decide) (fun q => ?_) (fun q => ?_)
        · have h := ite_f q h
          refine v_iconst C (v := 0) dL_areNodes_576 (by decide) ?_
          obtain rfl := Option.some.inj h
          exact v_zret C dL_areNodes_577 bo_0
        · have h := ite_t q h
          refine v_iconst C (v := 1) dL_areNodes_572 (by decide) ?_
          refine v_goto C (tgt := 577) dL_areNodes_573 (by decide) ?_
          obtain rfl := Option.some.inj h
          exact v_zret C dL_areNodes_577 bo_1
set_option maxRecDepth 100000 in
set_option maxHeartbeats 4000000 in
theorem r_L_areNodes_p107 {p : Program} {l : Launch} {e : Env} {s : State} {m : MethodId} {args : Array Value} {below : List Frame} {meth : Method} {c : Code} {G : GG} {A : Nat → Prop} (C : Cx p s m args meth c G A cL_areNodes 16 RL wsL_areNodes (some .boolean)) (n : Nat) {z : Int32} : ∀ (t : Nat), ∀ (w : Wd) (a0 : Nat) (a1 : Int32) (a2 : Int32) (a4 : Int32) (a5 : Int32) (a6 : Int32) (a7 : Int32), m_L_areNodes_p107 n t w a0 a1 a2 a4 a5 a6 a7 = some z → V p l e { frames := 10, cells := 0, slots := 0, locals := 186 } s m args below meth c G A 16 107 [(0, .ref a0), (1, .int a1), (2, .int a2), (4, .int a4), (5, .int a5), (6, .int a6), (7, .int a7)] [] w (some (.int z)) w := by
  intro t
  induction t with
  | zero =>
    intro w a0 a1 a2 a4 a5 a6 a7 h
    rw [m_L_areNodes_p107] at h
    cases h
  | succ t ih =>
    intro w a0 a1 a2 a4 a5 a6 a7 h
    rw [m_L_areNodes_p107] at h
    refine v_iload C 6 dL_areNodes_107 rfl ?_
    refine v_iload_n C 2 dL_areNodes_109 rfl rfl ?_
    refine v_icmp_ge C (tgt := 537) dL_areNodes_110 (by decide) (fun q => ?_) (fun q => ?_)
    · have h := ite_t q h
      refine v_sub [0, 1, 2, 3, 4, 5] rfl ?_
      exact r_L_areNodes_p537 C n _ _ _ _ _ _ _ h
    · have h := ite_f q h
      refine v_iload C 3 dL_areNodes_113 rfl ?_
      refine v_if_eq C (tgt := 537) dL_areNodes_115 (by decide) (fun q => ?_) (fun q => ?_)
      · have h := ite_t q h
        refine v_sub [0, 1, 2, 3, 4, 5] rfl ?_
        exact r_L_areNodes_p537 C n _ _ _ _ _ _ _ h
      · have h := ite_f q h
        refine v_aload_n C 0 dL_areNodes_118 rfl rfl ?_
        refine v_iload_n C 1 dL_areNodes_119 rfl rfl ?_
        refine v_iload C 6 dL_areNodes_120 rfl ?_
        refine v_iconst C (v := 0) dL_areNodes_122 (by decide) ?_
        obtain ⟨x1, e_x1, h⟩ := bnd h
        refine v_callSWi C (av := [.ref a0, .int a1, .int a7, .int 0]) (rest := []) gL_areNodes_L_node rfl ⟨rfl, rfl⟩ hS_L_node ⟨(Nat.le_of_ble_eq_true rfl), (Nat.le_of_ble_eq_true rfl)⟩ (r_LX_node (A := A) e_x1) rfl rfl (Nat.le_of_ble_eq_true rfl) dL_areNodes_123 ?_
        refine v_istore C (lv' := [(8, .int x1), (0, .ref a0), (1, .int a1), (2, .int a2), (4, .int a4), (5, .int a5), (6, .int a6), (7, .int a7)]) dL_areNodes_126 (by decide) rfl ?_
        refine v_aload_n C 1 dL_areNodes_128 rfl rfl ?_
        refine v_at (pc' := 129) rfl ?_
        refine v_iload_n C 2 dL_areNodes_129 rfl rfl ?_
        refine v_iload C 7 dL_areNodes_130 rfl ?_
        refine v_iconst C (v := 1) dL_areNodes_132 (by decide) ?_
        obtain ⟨x2, e_x2, h⟩ := bnd h
        refine v_callSWi C (av := [.ref a0, .int a1, .int a7, .int 1]) (rest := []) gL_areNodes_L_node rfl ⟨rfl, rfl⟩ hS_L_node ⟨(Nat.le_of_ble_eq_true rfl), (Nat.le_of_ble_eq_true rfl)⟩ (r_LX_node (A := A) e_x2) rfl rfl (Nat.le_of_ble_eq_true rfl) dL_areNodes_133 ?_
        refine v_istore C (lv' := [(9, .int x2), (8, .int x1), (0, .ref a0), (1, .int a1), (2, .int a2), (4, .int a4), (5, .int a5), (6, .int a6), (7, .int a7)]) dL_areNodes_136 (by decide) rfl ?_
        refine v_aload_n C 2 dL_areNodes_138 rfl rfl ?_
        refine v_iload_n C 3 dL_areNodes_139 rfl rfl ?_
        refine v_iload C 8 dL_areNodes_140 rfl ?_
        refine v_at (pc' := 142) rfl ?_
        refine v_iconst C (v := 2) dL_areNodes_142 (by decide) ?_
        obtain ⟨x3, e_x3, h⟩ := bnd h
        refine v_callSWi C (av := [.ref a0, .int a1, .int a7, .int 2]) (rest := []) gL_areNodes_L_node rfl ⟨rfl, rfl⟩ hS_L_node ⟨(Nat.le_of_ble_eq_true rfl), (Nat.le_of_ble_eq_true rfl)⟩ (r_LX_node (A := A) e_x3) rfl rfl (Nat.le_of_ble_eq_true rfl) dL_areNodes_143 ?_
        refine v_istore C (lv' := [(10, .int x3), (9, .int x2), (8, .int x1), (0, .ref a0), (1, .int a1), (2, .int a2), (4, .int a4), (5, .int a5), (6, .int a6), (7, .int a7)]) dL_areNodes_146 (by decide) rfl ?_
        refine v_iconst C (v := 0) dL_areNodes_148 (by decide) ?_
        refine v_istore C (lv' := [(11, .int 0), (10, .int x3), (9, .int x2), (8, .int x1), (0, .ref a0), (1, .int a1), (2, .int a2), (4, .int a4), (5, .int a5), (6, .int a6), (7, .int a7)]) dL_areNodes_149 (by decide) rfl ?_
        refine v_iload C 3 dL_areNodes_151 rfl ?_
        refine v_iload C 1 dL_areNodes_153 rfl ?_
        obtain ⟨x4, e_x4, h⟩ := bnd h
        refine v_iremR C dL_areNodes_155 e_x4 ?_
        refine v_at (pc' := 156) rfl ?_
        refine v_if_ne C (tgt := 210) dL_areNodes_156 (by decide) (fun q => ?_) (fun q => ?_)
        · have h := ite_f q h
          refine v_iconst C (v := 0) dL_areNodes_210 (by decide) ?_
          refine v_istore C (lv' := [(4, .int 0), (11, .int 0), (10, .int x3), (9, .int x2), (8, .int x1), (0, .ref a0), (1, .int a1), (2, .int a2), (5, .int a5), (6, .int a6), (7, .int a7)]) dL_areNodes_211 (by decide) rfl ?_
          refine v_iconst C (v := 0) dL_areNodes_213 (by decide) ?_
          refine v_istore C (lv' := [(12, .int 0), (4, .int 0), (11, .int 0), (10, .int x3), (9, .int x2), (8, .int x1), (0, .ref a0), (1, .int a1), (2, .int a2), (5, .int a5), (6, .int a6), (7, .int a7)]) dL_areNodes_214 (by decide) rfl ?_
          refine v_sub [6, 7, 8, 1, 9, 10, 11, 5, 4, 3, 2, 0] rfl ?_
          exact r_L_areNodes_p216 C n ih n _ _ _ _ _ _ _ _ _ _ _ _ _ h
        · have h := ite_t q h
          refine v_iload C 2 dL_areNodes_159 rfl ?_
          refine v_iload C 1 dL_areNodes_161 rfl ?_
          obtain ⟨x5, e_x5, h⟩ := bnd h
          refine v_iremR C dL_areNodes_163 e_x5 ?_
          refine v_if_ne C (tgt := 210) dL_areNodes_164 (by decide) (fun q => ?_) (fun q => ?_)
          · have h := ite_f q h
            refine v_iconst C (v := 0) dL_areNodes_210 (by decide) ?_
            refine v_istore C (lv' := [(4, .int 0), (11, .int 0), (10, .int x3), (9, .int x2), (8, .int x1), (0, .ref a0), (1, .int a1), (2, .int a2), (5, .int a5), (6, .int a6), (7, .int a7)]) dL_areNodes_211 (by decide) rfl ?_
            refine v_iconst C (v := 0) dL_areNodes_213 (by decide) ?_
            refine v_istore C (lv' := [(12, .int 0), (4, .int 0), (11, .int 0), (10, .int x3), (9, .int x2), (8, .int x1), (0, .ref a0), (1, .int a1), (2, .int a2), (5, .int a5), (6, .int a6), (7, .int a7)]) dL_areNodes_214 (by decide) rfl ?_
            refine v_sub [6, 7, 8, 1, 9, 10, 11, 5, 4, 3, 2, 0] rfl ?_
            exact r_L_areNodes_p216 C n ih n _ _ _ _ _ _ _ _ _ _ _ _ _ h
          · have h := ite_t q h
            refine v_iload C 10 dL_areNodes_167 rfl ?_
            refine v_if_eq C (tgt := 184) dL_areNodes_169 (by decide) (fun q => ?_) (fun q => ?_)
            · have h := ite_t q h
              refine v_iload_n C 5 dL_areNodes_184 rfl rfl ?_
              refine v_if_eq C (tgt := 206) dL_areNodes_185 (by decide) (fun q => ?_) (fun q => ?_)
              · have h := ite_t q h
                refine v_iconst C (v := 1) dL_areNodes_206 (by decide) ?_
                refine v_goto C (tgt := 211) dL_areNodes_207 (by decide) ?_
                refine v_istore C (lv' := [(4, .int 1), (11, .int 0), (10, .int x3), (9, .int x2), (8, .int x1), (0, .ref a0), (1, .int a1), (2, .int a2), (5, .int a5), (6, .int a6), (7, .int a7)]) dL_areNodes_211 (by decide) rfl ?_
                refine v_iconst C (v := 0) dL_areNodes_213 (by decide) ?_
                refine v_istore C (lv' := [(12, .int 0), (4, .int 1), (11, .int 0), (10, .int x3), (9, .int x2), (8, .int x1), (0, .ref a0), (1, .int a1), (2, .int a2), (5, .int a5), (6, .int a6), (7, .int a7)]) dL_areNodes_214 (by decide) rfl ?_
                refine v_sub [6, 7, 8, 1, 9, 10, 11, 5, 4, 3, 2, 0] rfl ?_
                exact r_L_areNodes_p216 C n ih n _ _ _ _ _ _ _ _ _ _ _ _ _ h
              · have h := ite_f q h
                refine v_aload_n C 4 dL_areNodes_188 rfl rfl ?_
                refine v_iload_n C 5 dL_areNodes_189 rfl rfl ?_
                refine v_iconst C (v := 1) dL_areNodes_190 (by decide) ?_
                refine v_isub C dL_areNodes_191 ?_
                refine v_iload C 3 dL_areNodes_192 rfl ?_
                refine v_iload C 2 dL_areNodes_194 rfl ?_
                refine v_iload C 1 dL_areNodes_196 rfl ?_
                refine v_at (pc' := 198) rfl ?_
                obtain ⟨x6, e_x6, h⟩ := bnd h
                refine v_callSi C (av := [.ref a0, .int (a1 - 1), .int x1, .int x2, .int x3]) (rest := []) gL_areNodes_L_indexOf rfl ⟨rfl, rfl⟩ hS_L_indexOf ⟨(Nat.le_of_ble_eq_true rfl), (Nat.le_of_ble_eq_true rfl)⟩ (r_L_indexOf (A := A) e_x6) rfl rfl (Nat.le_of_ble_eq_true rfl) dL_areNodes_198 ?_
                refine v_iload C 10 dL_areNodes_201 rfl ?_
                refine v_icmp_lt C (tgt := 210) dL_areNodes_203 (by decide) (fun q => ?_) (fun q => ?_)
                · have h := ite_t q h
                  refine v_iconst C (v := 0) dL_areNodes_210 (by decide) ?_
                  refine v_istore C (lv' := [(4, .int 0), (11, .int 0), (10, .int x3), (9, .int x2), (8, .int x1), (0, .ref a0), (1, .int a1), (2, .int a2), (5, .int a5), (6, .int a6), (7, .int a7)]) dL_areNodes_211 (by decide) rfl ?_
                  refine v_iconst C (v := 0) dL_areNodes_213 (by decide) ?_
                  refine v_istore C (lv' := [(12, .int 0), (4, .int 0), (11, .int 0), (10, .int x3), (9, .int x2), (8, .int x1), (0, .ref a0), (1, .int a1), (2, .int a2), (5, .int a5), (6, .int a6), (7, .int a7)]) dL_areNodes_214 (by decide) rfl ?_
                  refine v_sub [6, 7, 8, 1, 9, 10, 11, 5, 4, 3, 2, 0] rfl ?_
                  exact r_L_areNodes_p216 C n ih n _ _ _ _ _ _ _ _ _ _ _ _ _ h
                · have h := ite_f q h
                  refine v_iconst C (v := 1) dL_areNodes_206 (by decide) ?_
                  refine v_goto C (tgt := 211) dL_areNodes_207 (by decide) ?_
                  refine v_istore C (lv' := [(4, .int 1), (11, .int 0), (10, .int x3), (9, .int x2), (8, .int x1), (0, .ref a0), (1, .int a1), (2, .int a2), (5, .int a5), (6, .int a6), (7, .int a7)]) dL_areNodes_211 (by decide) rfl ?_
                  refine v_iconst C (v := 0) dL_areNodes_213 (by decide) ?_
                  refine v_istore C (lv' := [(12, .int 0), (4, .int 1), (11, .int 0), (10, .int x3), (9, .int x2), (8, .int x1), (0, .ref a0), (1, .int a1), (2, .int a2), (5, .int a5), (6, .int a6), (7, .int a7)]) dL_areNodes_214 (by decide) rfl ?_
                  refine v_sub [6, 7, 8, 1, 9, 10, 11, 5, 4, 3, 2, 0] rfl ?_
                  exact r_L_areNodes_p216 C n ih n _ _ _ _ _ _ _ _ _ _ _ _ _ h
            · have h := ite_f q h
              refine v_aload_n C 4 dL_areNodes_172 rfl rfl ?_
              refine v_iload_n C 5 dL_areNodes_173 rfl rfl ?_
              refine v_iload C 10 dL_areNodes_174 rfl ?_
              refine v_iconst C (v := 5) dL_areNodes_176 (by decide) ?_
              obtain ⟨x7, e_x7, h⟩ := bnd h
              refine v_callSWi C (av := [.ref a0, .int a1, .int a7, .int 5]) (rest := []) gL_areNodes_L_node rfl ⟨rfl, rfl⟩ hS_L_node ⟨(Nat.le_of_ble_eq_true rfl), (Nat.le_of_ble_eq_true rfl)⟩ (r_LX_node (A := A) e_x7) rfl rfl (Nat.le_of_ble_eq_true rfl) dL_areNodes_177 ?_
              refine v_iconst C (v := 1) dL_areNodes_180 (by decide) ?_
              refine v_icmp_le C (tgt := 210) dL_areNodes_181 (by decide) (fun q => ?_) (fun q => ?_)
              · have h := ite_t q h
                refine v_iconst C (v := 0) dL_areNodes_210 (by decide) ?_
                refine v_istore C (lv' := [(4, .int 0), (11, .int 0), (10, .int x3), (9, .int x2), (8, .int x1), (0, .ref a0), (1, .int a1), (2, .int a2), (5, .int a5), (6, .int a6), (7, .int a7)]) dL_areNodes_211 (by decide) rfl ?_
                refine v_iconst C (v := 0) dL_areNodes_213 (by decide) ?_
                refine v_istore C (lv' := [(12, .int 0), (4, .int 0), (11, .int 0), (10, .int x3), (9, .int x2), (8, .int x1), (0, .ref a0), (1, .int a1), (2, .int a2), (5, .int a5), (6, .int a6), (7, .int a7)]) dL_areNodes_214 (by decide) rfl ?_
                refine v_sub [6, 7, 8, 1, 9, 10, 11, 5, 4, 3, 2, 0] rfl ?_
                exact r_L_areNodes_p216 C n ih n _ _ _ _ _ _ _ _ _ _ _ _ _ h
              · have h := ite_f q h
                refine v_iload_n C 5 dL_areNodes_184 rfl rfl ?_
                refine v_if_eq C (tgt := 206) dL_areNodes_185 (by decide) (fun q => ?_) (fun q => ?_)
                · have h := ite_t q h
                  refine v_iconst C (v := 1) dL_areNodes_206 (by decide) ?_
                  refine v_goto C (tgt := 211) dL_areNodes_207 (by decide) ?_
                  refine v_istore C (lv' := [(4, .int 1), (11, .int 0), (10, .int x3), (9, .int x2), (8, .int x1), (0, .ref a0), (1, .int a1), (2, .int a2), (5, .int a5), (6, .int a6), (7, .int a7)]) dL_areNodes_211 (by decide) rfl ?_
                  refine v_iconst C (v := 0) dL_areNodes_213 (by decide) ?_
                  refine v_istore C (lv' := [(12, .int 0), (4, .int 1), (11, .int 0), (10, .int x3), (9, .int x2), (8, .int x1), (0, .ref a0), (1, .int a1), (2, .int a2), (5, .int a5), (6, .int a6), (7, .int a7)]) dL_areNodes_214 (by decide) rfl ?_
                  refine v_sub [6, 7, 8, 1, 9, 10, 11, 5, 4, 3, 2, 0] rfl ?_
                  exact r_L_areNodes_p216 C n ih n _ _ _ _ _ _ _ _ _ _ _ _ _ h
                · have h := ite_f q h
                  refine v_aload_n C 4 dL_areNodes_188 rfl rfl ?_
                  refine v_iload_n C 5 dL_areNodes_189 rfl rfl ?_
                  refine v_iconst C (v := 1) dL_areNodes_190 (by decide) ?_
                  refine v_isub C dL_areNodes_191 ?_
                  refine v_iload C 3 dL_areNodes_192 rfl ?_
                  refine v_iload C 2 dL_areNodes_194 rfl ?_
                  refine v_iload C 1 dL_areNodes_196 rfl ?_
                  refine v_at (pc' := 198) rfl ?_
                  obtain ⟨x8, e_x8, h⟩ := bnd h
                  refine v_callSi C (av := [.ref a0, .int (a1 - 1), .int x1, .int x2, .int x3]) (rest := []) gL_areNodes_L_indexOf rfl ⟨rfl, rfl⟩ hS_L_indexOf ⟨(Nat.le_of_ble_eq_true rfl), (Nat.le_of_ble_eq_true rfl)⟩ (r_L_indexOf (A := A) e_x8) rfl rfl (Nat.le_of_ble_eq_true rfl) dL_areNodes_198 ?_
                  refine v_iload C 10 dL_areNodes_201 rfl ?_
                  refine v_icmp_lt C (tgt := 210) dL_areNodes_203 (by decide) (fun q => ?_) (fun q => ?_)
                  · have h := ite_t q h
                    refine v_iconst C (v := 0) dL_areNodes_210 (by decide) ?_
                    refine v_istore C (lv' := [(4, .int 0), (11, .int 0), (10, .int x3), (9, .int x2), (8, .int x1), (0, .ref a0), (1, .int a1), (2, .int a2), (5, .int a5), (6, .int a6), (7, .int a7)]) dL_areNodes_211 (by decide) rfl ?_
                    refine v_iconst C (v := 0) dL_areNodes_213 (by decide) ?_
                    refine v_istore C (lv' := [(12, .int 0), (4, .int 0), (11, .int 0), (10, .int x3), (9, .int x2), (8, .int x1), (0, .ref a0), (1, .int a1), (2, .int a2), (5, .int a5), (6, .int a6), (7, .int a7)]) dL_areNodes_214 (by decide) rfl ?_
                    refine v_sub [6, 7, 8, 1, 9, 10, 11, 5, 4, 3, 2, 0] rfl ?_
                    exact r_L_areNodes_p216 C n ih n _ _ _ _ _ _ _ _ _ _ _ _ _ h
                  · have h := ite_f q h
                    refine v_iconst C (v := 1) dL_areNodes_206 (by decide) ?_
                    refine v_goto C (tgt := 211) dL_areNodes_207 (by decide) ?_
                    refine v_istore C (lv' := [(4, .int 1), (11, .int 0), (10, .int x3), (9, .int x2), (8, .int x1), (0, .ref a0), (1, .int a1), (2, .int a2), (5, .int a5), (6, .int a6), (7, .int a7)]) dL_areNodes_211 (by decide) rfl ?_
                    refine v_iconst C (v := 0) dL_areNodes_213 (by decide) ?_
                    refine v_istore C (lv' := [(12, .int 0), (4, .int 1), (11, .int 0), (10, .int x3), (9, .int x2), (8, .int x1), (0, .ref a0), (1, .int a1), (2, .int a2), (5, .int a5), (6, .int a6), (7, .int a7)]) dL_areNodes_214 (by decide) rfl ?_
                    refine v_sub [6, 7, 8, 1, 9, 10, 11, 5, 4, 3, 2, 0] rfl ?_
                    exact r_L_areNodes_p216 C n ih n _ _ _ _ _ _ _ _ _ _ _ _ _ h
set_option maxRecDepth 100000 in
set_option maxHeartbeats 4000000 in
theorem r_L_areNodes_p95 {p : Program} {l : Launch} {e : Env} {s : State} {m : MethodId} {args : Array Value} {below : List Frame} {meth : Method} {c : Code} {G : GG} {A : Nat → Prop} (C : Cx p s m args meth c G A cL_areNodes 16 RL wsL_areNodes (some .boolean)) (n : Nat) {z : Int32} : ∀ (w : Wd) (a0 : Nat) (a1 : Int32) (a2 : Int32), m_L_areNodes_p95 n w a0 a1 a2 = some z → V p l e { frames := 10, cells := 0, slots := 0, locals := 186 } s m args below meth c G A 16 95 [(0, .ref a0), (1, .int a1), (2, .int a2)] [] w (some (.int z)) w := by
  intro w a0 a1 a2 h
  unfold m_L_areNodes_p95 at h
  refine v_iconst C (v := 0) dL_areNodes_95 (by decide) ?_
  refine v_istore C (lv' := [(4, .int 0), (0, .ref a0), (1, .int a1), (2, .int a2)]) dL_areNodes_96 (by decide) rfl ?_
  refine v_iconst C (v := 0) dL_areNodes_98 (by decide) ?_
  refine v_istore C (lv' := [(5, .int 0), (4, .int 0), (0, .ref a0), (1, .int a1), (2, .int a2)]) dL_areNodes_99 (by decide) rfl ?_
  refine v_iconst C (v := 0) dL_areNodes_101 (by decide) ?_
  refine v_istore C (lv' := [(6, .int 0), (5, .int 0), (4, .int 0), (0, .ref a0), (1, .int a1), (2, .int a2)]) dL_areNodes_102 (by decide) rfl ?_
  refine v_iconst C (v := 0) dL_areNodes_104 (by decide) ?_
  refine v_at (pc' := 105) rfl ?_
  refine v_istore C (lv' := [(7, .int 0), (6, .int 0), (5, .int 0), (4, .int 0), (0, .ref a0), (1, .int a1), (2, .int a2)]) dL_areNodes_105 (by decide) rfl ?_
  refine v_sub [4, 5, 6, 3, 2, 1, 0] rfl ?_
  exact r_L_areNodes_p107 C n n _ _ _ _ _ _ _ _ h
set_option maxRecDepth 100000 in
set_option maxHeartbeats 4000000 in
theorem r_L_areNodes_p53 {p : Program} {l : Launch} {e : Env} {s : State} {m : MethodId} {args : Array Value} {below : List Frame} {meth : Method} {c : Code} {G : GG} {A : Nat → Prop} (C : Cx p s m args meth c G A cL_areNodes 16 RL wsL_areNodes (some .boolean)) (n : Nat) {z : Int32} : ∀ (w : Wd) (a0 : Nat) (a1 : Int32) (a2 : Int32) (a3 : Int32), m_L_areNodes_p53 n w a0 a1 a2 a3 = some z → V p l e { frames := 10, cells := 0, slots := 0, locals := 186 } s m args below meth c G A 16 53 [(0, .ref a0), (1, .int a1), (2, .int a2), (3, .int a3)] [] w (some (.int z)) w := by
  intro w a0 a1 a2 a3 h
  unfold m_L_areNodes_p53 at h
  refine v_aload_n C 0 dL_areNodes_53 rfl rfl ?_
  refine v_iload_n C 1 dL_areNodes_54 rfl rfl ?_
  refine v_iconst C (v := 4) dL_areNodes_55 (by decide) ?_
  obtain ⟨x1, e_x1, h⟩ := bnd h
  refine v_callSWi C (av := [.ref a0, .int a1, .int 4]) (rest := []) gL_areNodes_L_level rfl ⟨rfl, rfl⟩ hS_L_level ⟨(Nat.le_of_ble_eq_true rfl), (Nat.le_of_ble_eq_true rfl)⟩ (r_LX_level (A := A) e_x1) rfl rfl (Nat.le_of_ble_eq_true rfl) dL_areNodes_56 ?_
  refine v_iload_n C 3 dL_areNodes_59 rfl rfl ?_
  refine v_icmp_gt C (tgt := 95) dL_areNodes_60 (by decide) (fun q => ?_) (fun q => ?_)
  · have h := ite_t q h
    refine v_sub [0, 1, 2] rfl ?_
    exact r_L_areNodes_p95 C n _ _ _ _ h
  · have h := ite_f q h
    refine v_iload_n C 1 dL_areNodes_63 rfl rfl ?_
    refine v_if_eq C (tgt := 91) dL_areNodes_64 (by decide) (fun q => ?_) (fun q => ?_)
    · have h := ite_t q h
      refine v_iconst C (v := 1) dL_areNodes_91 (by decide) ?_
      refine v_goto C (tgt := 96) dL_areNodes_92 (by decide) ?_
      refine v_istore C (lv' := [(4, .int 1), (0, .ref a0), (1, .int a1), (2, .int a2), (3, .int a3)]) dL_areNodes_96 (by decide) rfl ?_
      refine v_iconst C (v := 0) dL_areNodes_98 (by decide) ?_
      refine v_istore C (lv' := [(5, .int 0), (4, .int 1), (0, .ref a0), (1, .int a1), (2, .int a2), (3, .int a3)]) dL_areNodes_99 (by decide) rfl ?_
      refine v_iconst C (v := 0) dL_areNodes_101 (by decide) ?_
      refine v_istore C (lv' := [(6, .int 0), (5, .int 0), (4, .int 1), (0, .ref a0), (1, .int a1), (2, .int a2), (3, .int a3)]) dL_areNodes_102 (by decide) rfl ?_
      refine v_at (pc' := 104) rfl ?_
      refine v_iconst C (v := 0) dL_areNodes_104 (by decide) ?_
      refine v_istore C (lv' := [(7, .int 0), (6, .int 0), (5, .int 0), (4, .int 1), (0, .ref a0), (1, .int a1), (2, .int a2), (3, .int a3)]) dL_areNodes_105 (by decide) rfl ?_
      refine v_sub [4, 5, 6, 3, 2, 1, 0] rfl ?_
      exact r_L_areNodes_p107 C n n _ _ _ _ _ _ _ _ h
    · have h := ite_f q h
      refine v_iload_n C 3 dL_areNodes_67 rfl rfl ?_
      refine v_aload_n C 0 dL_areNodes_68 rfl rfl ?_
      refine v_iload_n C 1 dL_areNodes_69 rfl rfl ?_
      refine v_iconst C (v := 1) dL_areNodes_70 (by decide) ?_
      refine v_isub C dL_areNodes_71 ?_
      refine v_iconst C (v := 0) dL_areNodes_72 (by decide) ?_
      obtain ⟨x2, e_x2, h⟩ := bnd h
      refine v_callSWi C (av := [.ref a0, .int (a1 - 1), .int 0]) (rest := [.int a3]) gL_areNodes_L_level rfl ⟨rfl, rfl⟩ hS_L_level ⟨(Nat.le_of_ble_eq_true rfl), (Nat.le_of_ble_eq_true rfl)⟩ (r_LX_level (A := A) e_x2) rfl rfl (Nat.le_of_ble_eq_true rfl) dL_areNodes_73 ?_
      refine v_at (pc' := 76) rfl ?_
      refine v_icmp_gt C (tgt := 95) dL_areNodes_76 (by decide) (fun q => ?_) (fun q => ?_)
      · have h := ite_t q h
        refine v_sub [0, 1, 2] rfl ?_
        exact r_L_areNodes_p95 C n _ _ _ _ h
      · have h := ite_f q h
        refine v_iload_n C 2 dL_areNodes_79 rfl rfl ?_
        refine v_aload_n C 0 dL_areNodes_80 rfl rfl ?_
        refine v_iload_n C 1 dL_areNodes_81 rfl rfl ?_
        refine v_iconst C (v := 1) dL_areNodes_82 (by decide) ?_
        refine v_isub C dL_areNodes_83 ?_
        refine v_iconst C (v := 1) dL_areNodes_84 (by decide) ?_
        obtain ⟨x3, e_x3, h⟩ := bnd h
        refine v_callSWi C (av := [.ref a0, .int (a1 - 1), .int 1]) (rest := [.int a2]) gL_areNodes_L_level rfl ⟨rfl, rfl⟩ hS_L_level ⟨(Nat.le_of_ble_eq_true rfl), (Nat.le_of_ble_eq_true rfl)⟩ (r_LX_level (A := A) e_x3) rfl rfl (Nat.le_of_ble_eq_true rfl) dL_areNodes_85 ?_
        refine v_at (pc' := 88) rfl ?_
        refine v_icmp_gt C (tgt := 95) dL_areNodes_88 (by decide) (fun q => ?_) (fun q => ?_)
        · have h := ite_t q h
          refine v_sub [0, 1, 2] rfl ?_
          exact r_L_areNodes_p95 C n _ _ _ _ h
        · have h := ite_f q h
          refine v_iconst C (v := 1) dL_areNodes_91 (by decide) ?_
          refine v_goto C (tgt := 96) dL_areNodes_92 (by decide) ?_
          refine v_istore C (lv' := [(4, .int 1), (0, .ref a0), (1, .int a1), (2, .int a2), (3, .int a3)]) dL_areNodes_96 (by decide) rfl ?_
          refine v_iconst C (v := 0) dL_areNodes_98 (by decide) ?_
          refine v_istore C (lv' := [(5, .int 0), (4, .int 1), (0, .ref a0), (1, .int a1), (2, .int a2), (3, .int a3)]) dL_areNodes_99 (by decide) rfl ?_
          refine v_iconst C (v := 0) dL_areNodes_101 (by decide) ?_
          refine v_istore C (lv' := [(6, .int 0), (5, .int 0), (4, .int 1), (0, .ref a0), (1, .int a1), (2, .int a2), (3, .int a3)]) dL_areNodes_102 (by decide) rfl ?_
          refine v_at (pc' := 104) rfl ?_
          refine v_iconst C (v := 0) dL_areNodes_104 (by decide) ?_
          refine v_istore C (lv' := [(7, .int 0), (6, .int 0), (5, .int 0), (4, .int 1), (0, .ref a0), (1, .int a1), (2, .int a2), (3, .int a3)]) dL_areNodes_105 (by decide) rfl ?_
          refine v_sub [4, 5, 6, 3, 2, 1, 0] rfl ?_
          exact r_L_areNodes_p107 C n n _ _ _ _ _ _ _ _ h
set_option maxRecDepth 100000 in
set_option maxHeartbeats 4000000 in
theorem r_L_areNodes {l : Launch} {G : GG} {A : Nat → Prop} {n : Nat} {w : Wd} {a0 : Nat} {a1 : Int32} {z : Int32} (h : m_L_areNodes n w a0 a1 = some z) : Con l yL_areNodes wsL_areNodes { frames := 10, cells := 0, slots := 0, locals := 186 } G A [.ref a0, .int a1] w (some (.int z)) w := by
  refine Con.of (own := RL) (cc := cL_areNodes) (maxL := 16) (ret := (some .boolean)) rfl (by decide) rfl (Nat.le_of_ble_eq_true rfl) ?_
  intro p e s m args below meth c C
  show V p l e { frames := 10, cells := 0, slots := 0, locals := 186 } s m args below meth c G A 16 0 [(0, .ref a0), (1, .int a1)] [] w (some (.int z)) w
  unfold m_L_areNodes at h
  refine v_aload_n C 0 dL_areNodes_0 rfl rfl ?_
  refine v_iload_n C 1 dL_areNodes_1 rfl rfl ?_
  refine v_iconst C (v := 1) dL_areNodes_2 (by decide) ?_
  obtain ⟨x1, e_x1, h⟩ := bnd h
  refine v_callSWi C (av := [.ref a0, .int a1, .int 1]) (rest := []) gL_areNodes_L_level rfl ⟨rfl, rfl⟩ hS_L_level ⟨(Nat.le_of_ble_eq_true rfl), (Nat.le_of_ble_eq_true rfl)⟩ (r_LX_level (A := A) e_x1) rfl rfl (Nat.le_of_ble_eq_true rfl) dL_areNodes_3 ?_
  refine v_istore_n C (lv' := [(2, .int x1), (0, .ref a0), (1, .int a1)]) dL_areNodes_6 rfl (by decide) rfl ?_
  refine v_aload_n C 1 dL_areNodes_7 rfl rfl ?_
  refine v_iload_n C 2 dL_areNodes_8 rfl rfl ?_
  refine v_at (pc' := 9) rfl ?_
  refine v_iconst C (v := 0) dL_areNodes_9 (by decide) ?_
  obtain ⟨x2, e_x2, h⟩ := bnd h
  refine v_callSWi C (av := [.ref a0, .int a1, .int 0]) (rest := []) gL_areNodes_L_level rfl ⟨rfl, rfl⟩ hS_L_level ⟨(Nat.le_of_ble_eq_true rfl), (Nat.le_of_ble_eq_true rfl)⟩ (r_LX_level (A := A) e_x2) rfl rfl (Nat.le_of_ble_eq_true rfl) dL_areNodes_10 ?_
  refine v_istore_n C (lv' := [(3, .int x2), (2, .int x1), (0, .ref a0), (1, .int a1)]) dL_areNodes_13 rfl (by decide) rfl ?_
  refine v_iload_n C 1 dL_areNodes_14 rfl rfl ?_
  refine v_if_le C (tgt := 95) dL_areNodes_15 (by decide) (fun q => ?_) (fun q => ?_)
  · have h := ite_t q h
    refine v_sub [2, 3, 1] rfl ?_
    exact r_L_areNodes_p95 C n _ _ _ _ h
  · have h := ite_f q h
    refine v_aload_n C 2 dL_areNodes_18 rfl rfl ?_
    refine v_iload_n C 3 dL_areNodes_19 rfl rfl ?_
    refine v_iconst C (v := 0) dL_areNodes_20 (by decide) ?_
    refine v_iconst C (v := 2) dL_areNodes_21 (by decide) ?_
    obtain ⟨x3, e_x3, h⟩ := bnd h
    refine v_callSWi C (av := [.ref a0, .int a1, .int 0, .int 2]) (rest := []) gL_areNodes_L_node rfl ⟨rfl, rfl⟩ hS_L_node ⟨(Nat.le_of_ble_eq_true rfl), (Nat.le_of_ble_eq_true rfl)⟩ (r_LX_node (A := A) e_x3) rfl rfl (Nat.le_of_ble_eq_true rfl) dL_areNodes_22 ?_
    refine v_bipush C (v := 64) dL_areNodes_25 (by decide) ?_
    refine v_icmp_ne C (tgt := 95) dL_areNodes_27 (by decide) (fun q => ?_) (fun q => ?_)
    · have h := ite_f q h
      refine v_sub [2, 3, 1] rfl ?_
      exact r_L_areNodes_p95 C n _ _ _ _ h
    · have h := ite_t q h
      refine v_aload_n C 2 dL_areNodes_30 rfl rfl ?_
      refine v_iload_n C 3 dL_areNodes_31 rfl rfl ?_
      refine v_iconst C (v := 0) dL_areNodes_32 (by decide) ?_
      refine v_iconst C (v := 4) dL_areNodes_33 (by decide) ?_
      obtain ⟨x4, e_x4, h⟩ := bnd h
      refine v_callSWi C (av := [.ref a0, .int a1, .int 0, .int 4]) (rest := []) gL_areNodes_L_node rfl ⟨rfl, rfl⟩ hS_L_node ⟨(Nat.le_of_ble_eq_true rfl), (Nat.le_of_ble_eq_true rfl)⟩ (r_LX_node (A := A) e_x4) rfl rfl (Nat.le_of_ble_eq_true rfl) dL_areNodes_34 ?_
      refine v_iload_n C 0 dL_areNodes_37 rfl rfl ?_
      refine v_icmp_ne C (tgt := 95) dL_areNodes_38 (by decide) (fun q => ?_) (fun q => ?_)
      · have h := ite_f q h
        refine v_sub [2, 3, 1] rfl ?_
        exact r_L_areNodes_p95 C n _ _ _ _ h
      · have h := ite_t q h
        refine v_iload_n C 0 dL_areNodes_41 rfl rfl ?_
        refine v_iconst C (v := 2) dL_areNodes_42 (by decide) ?_
        refine v_icmp_lt C (tgt := 53) dL_areNodes_43 (by decide) (fun q => ?_) (fun q => ?_)
        · have h := ite_t q h
          refine v_sub [2, 3, 1, 0] rfl ?_
          exact r_L_areNodes_p53 C n _ _ _ _ _ h
        · have h := ite_f q h
          refine v_iload_n C 1 dL_areNodes_46 rfl rfl ?_
          refine v_iload_n C 0 dL_areNodes_47 rfl rfl ?_
          refine v_iconst C (v := 1) dL_areNodes_48 (by decide) ?_
          refine v_iadd C dL_areNodes_49 ?_
          refine v_icmp_ge C (tgt := 95) dL_areNodes_50 (by decide) (fun q => ?_) (fun q => ?_)
          · have h := ite_t q h
            refine v_sub [2, 3, 1] rfl ?_
            exact r_L_areNodes_p95 C n _ _ _ _ h
          · have h := ite_f q h
            refine v_sub [2, 3, 1, 0] rfl ?_
            exact r_L_areNodes_p53 C n _ _ _ _ _ h
set_option maxRecDepth 100000 in
set_option maxHeartbeats 4000000 in
theorem r_L_areSearches_p241 {p : Program} {l : Launch} {e : Env} {s : State} {m : MethodId} {args : Array Value} {below : List Frame} {meth : Method} {c : Code} {G : GG} {A : Nat → Prop} (C : Cx p s m args meth c G A cL_areSearches 6 RL wsL_areSearches (some .boolean)) (n : Nat) {z : Int32} : ∀ (w : Wd) (a0 : Nat) (a3 : Int32), m_L_areSearches_p241 n w a0 a3 = some z → V p l e { frames := 9, cells := 0, slots := 0, locals := 194 } s m args below meth c G A 6 241 [(0, .ref a0), (3, .int a3)] [] w (some (.int z)) w := by
  intro w a0 a3 h
  unfold m_L_areSearches_p241 at h
  refine v_iload_n C 1 dL_areSearches_241 rfl rfl ?_
  refine v_if_eq C (tgt := 263) dL_areSearches_242 (by decide) (fun q => ?_) (fun q => ?_)
  · have h := ite_t q h
    refine v_iconst C (v := 0) dL_areSearches_263 (by decide) ?_
    obtain rfl := Option.some.inj h
    exact v_zret C dL_areSearches_264 bo_0
  · have h := ite_f q h
    refine v_aload_n C 0 dL_areSearches_245 rfl rfl ?_
    refine v_iconst C (v := 0) dL_areSearches_246 (by decide) ?_
    obtain ⟨u1, e_u1, h⟩ := bnd h
    obtain ⟨x2, e_x2, h⟩ := bnd h
    refine v_callVi C (ci := 5) (av := [.int 0]) (rest := []) rfl gL_areSearches_X6_worst rfl ⟨rfl, rfl⟩ hV_X6_worst ⟨(Nat.le_of_ble_eq_true rfl), (Nat.le_of_ble_eq_true rfl)⟩ e_u1 (r_X6_worst (A := A) e_x2) rfl rfl (Nat.le_of_ble_eq_true rfl) dL_areSearches_247 ?_
    refine v_aload_n C 0 dL_areSearches_250 rfl rfl ?_
    refine v_iconst C (v := 0) dL_areSearches_251 (by decide) ?_
    refine v_iconst C (v := 2) dL_areSearches_252 (by decide) ?_
    obtain ⟨x3, e_x3, h⟩ := bnd h
    refine v_callSWi C (av := [.ref a0, .int 0, .int 2]) (rest := [.int x2]) gL_areSearches_L_level rfl ⟨rfl, rfl⟩ hS_L_level ⟨(Nat.le_of_ble_eq_true rfl), (Nat.le_of_ble_eq_true rfl)⟩ (r_LX_level (A := A) e_x3) rfl rfl (Nat.le_of_ble_eq_true rfl) dL_areSearches_253 ?_
    refine v_at (pc' := 256) rfl ?_
    refine v_icmp_gt C (tgt := 263) dL_areSearches_256 (by decide) (fun q => ?_) (fun q => ?_)
    · have h := ite_t q h
      refine v_iconst C (v := 0) dL_areSearches_263 (by decide) ?_
      obtain rfl := Option.some.inj h
      exact v_zret C dL_areSearches_264 bo_0
    · have h := ite_f q h
      refine v_iconst C (v := 1) dL_areSearches_259 (by decide) ?_
      refine v_goto C (tgt := 264) dL_areSearches_260 (by decide) ?_
      obtain rfl := Option.some.inj h
      exact v_zret C dL_areSearches_264 bo_1
set_option maxRecDepth 100000 in
set_option maxHeartbeats 4000000 in
theorem r_L_areSearches_p152 {p : Program} {l : Launch} {e : Env} {s : State} {m : MethodId} {args : Array Value} {below : List Frame} {meth : Method} {c : Code} {G : GG} {A : Nat → Prop} (C : Cx p s m args meth c G A cL_areSearches 6 RL wsL_areSearches (some .boolean)) (n : Nat) {z : Int32} : ∀ (t : Nat), ∀ (w : Wd) (a0 : Nat) (a3 : Int32) (a5 : Int32), m_L_areSearches_p152 n t w a0 a3 a5 = some z → V p l e { frames := 9, cells := 0, slots := 0, locals := 194 } s m args below meth c G A 6 152 [(0, .ref a0), (3, .int a3), (5, .int a5)] [] w (some (.int z)) w := by
  intro t
  induction t with
  | zero =>
    intro w a0 a3 a5 h
    rw [m_L_areSearches_p152] at h
    cases h
  | succ t ih =>
    intro w a0 a3 a5 h
    rw [m_L_areSearches_p152] at h
    refine v_iload C 2 dL_areSearches_152 rfl ?_
    refine v_bipush C (v := 24) dL_areSearches_154 (by decide) ?_
    refine v_icmp_ge C (tgt := 241) dL_areSearches_156 (by decide) (fun q => ?_) (fun q => ?_)
    · have h := ite_t q h
      refine v_sub [0, 1] rfl ?_
      exact r_L_areSearches_p241 C n _ _ _ h
    · have h := ite_f q h
      refine v_iload_n C 1 dL_areSearches_159 rfl rfl ?_
      refine v_if_eq C (tgt := 241) dL_areSearches_160 (by decide) (fun q => ?_) (fun q => ?_)
      · have h := ite_t q h
        refine v_sub [0, 1] rfl ?_
        exact r_L_areSearches_p241 C n _ _ _ h
      · have h := ite_f q h
        refine v_aload_n C 0 dL_areSearches_163 rfl rfl ?_
        refine v_iload C 2 dL_areSearches_164 rfl ?_
        refine v_iconst C (v := 0) dL_areSearches_166 (by decide) ?_
        obtain ⟨x1, e_x1, h⟩ := bnd h
        refine v_callSWi C (av := [.ref a0, .int a5, .int 0]) (rest := []) gL_areSearches_L_point rfl ⟨rfl, rfl⟩ hS_L_point ⟨(Nat.le_of_ble_eq_true rfl), (Nat.le_of_ble_eq_true rfl)⟩ (r_LX_point (A := A) e_x1) rfl rfl (Nat.le_of_ble_eq_true rfl) dL_areSearches_167 ?_
        refine v_if_eq C (tgt := 229) dL_areSearches_170 (by decide) (fun q => ?_) (fun q => ?_)
        · have h := ite_t q h
          refine v_iconst C (v := 1) dL_areSearches_229 (by decide) ?_
          refine v_goto C (tgt := 234) dL_areSearches_230 (by decide) ?_
          refine v_istore_n C (lv' := [(3, .int 1), (0, .ref a0), (5, .int a5)]) dL_areSearches_234 rfl (by decide) rfl ?_
          refine v_iinc C (k := 2) (v := (a5 + 1)) (lv' := [(5, .int (a5 + 1)), (3, .int 1), (0, .ref a0)]) dL_areSearches_235 rfl rfl (by decide) rfl ?_
          refine v_goto C (tgt := 152) dL_areSearches_238 (by decide) ?_
          refine v_sub [2, 1, 0] rfl ?_
          exact ih _ _ _ _ h
        · have h := ite_f q h
          refine v_aload_n C 0 dL_areSearches_173 rfl rfl ?_
          refine v_aload_n C 0 dL_areSearches_174 rfl rfl ?_
          refine v_iload C 2 dL_areSearches_175 rfl ?_
          refine v_iconst C (v := 1) dL_areSearches_177 (by decide) ?_
          obtain ⟨x2, e_x2, h⟩ := bnd h
          refine v_callSWi C (av := [.ref a0, .int a5, .int 1]) (rest := [.ref a0]) gL_areSearches_L_point rfl ⟨rfl, rfl⟩ hS_L_point ⟨(Nat.le_of_ble_eq_true rfl), (Nat.le_of_ble_eq_true rfl)⟩ (r_LX_point (A := A) e_x2) rfl rfl (Nat.le_of_ble_eq_true rfl) dL_areSearches_178 ?_
          refine v_aload_n C 0 dL_areSearches_181 rfl rfl ?_
          refine v_iload C 2 dL_areSearches_182 rfl ?_
          refine v_at (pc' := 184) rfl ?_
          refine v_iconst C (v := 2) dL_areSearches_184 (by decide) ?_
          obtain ⟨x3, e_x3, h⟩ := bnd h
          refine v_callSWi C (av := [.ref a0, .int a5, .int 2]) (rest := [.int x2, .ref a0]) gL_areSearches_L_point rfl ⟨rfl, rfl⟩ hS_L_point ⟨(Nat.le_of_ble_eq_true rfl), (Nat.le_of_ble_eq_true rfl)⟩ (r_LX_point (A := A) e_x3) rfl rfl (Nat.le_of_ble_eq_true rfl) dL_areSearches_185 ?_
          refine v_iconst C (v := 1) dL_areSearches_188 (by decide) ?_
          refine v_iconst C (v := 0) dL_areSearches_189 (by decide) ?_
          obtain ⟨x4, e_x4, h⟩ := bnd h
          refine v_callSWi C (av := [.ref a0, .int x2, .int x3, .int 1, .int 0]) (rest := []) gL_areSearches_L_search rfl ⟨rfl, rfl⟩ hS_L_search ⟨(Nat.le_of_ble_eq_true rfl), (Nat.le_of_ble_eq_true rfl)⟩ (r_LX_search (A := A) e_x4) rfl rfl (Nat.le_of_ble_eq_true rfl) dL_areSearches_190 ?_
          refine v_aload_n C 0 dL_areSearches_193 rfl rfl ?_
          refine v_iconst C (v := 1) dL_areSearches_194 (by decide) ?_
          obtain ⟨u5, e_u5, h⟩ := bnd h
          obtain ⟨x6, e_x6, h⟩ := bnd h
          refine v_callVi C (ci := 5) (av := [.int 1]) (rest := [.int x4]) rfl gL_areSearches_X6_worst rfl ⟨rfl, rfl⟩ hV_X6_worst ⟨(Nat.le_of_ble_eq_true rfl), (Nat.le_of_ble_eq_true rfl)⟩ e_u5 (r_X6_worst (A := A) e_x6) rfl rfl (Nat.le_of_ble_eq_true rfl) dL_areSearches_195 ?_
          refine v_at (pc' := 198) rfl ?_
          refine v_icmp_gt C (tgt := 233) dL_areSearches_198 (by decide) (fun q => ?_) (fun q => ?_)
          · have h := ite_t q h
            refine v_iconst C (v := 0) dL_areSearches_233 (by decide) ?_
            refine v_istore_n C (lv' := [(3, .int 0), (0, .ref a0), (5, .int a5)]) dL_areSearches_234 rfl (by decide) rfl ?_
            refine v_iinc C (k := 2) (v := (a5 + 1)) (lv' := [(5, .int (a5 + 1)), (3, .int 0), (0, .ref a0)]) dL_areSearches_235 rfl rfl (by decide) rfl ?_
            refine v_goto C (tgt := 152) dL_areSearches_238 (by decide) ?_
            refine v_sub [2, 1, 0] rfl ?_
            exact ih _ _ _ _ h
          · have h := ite_f q h
            refine v_aload_n C 0 dL_areSearches_201 rfl rfl ?_
            refine v_aload_n C 0 dL_areSearches_202 rfl rfl ?_
            refine v_iload C 2 dL_areSearches_203 rfl ?_
            refine v_iconst C (v := 1) dL_areSearches_205 (by decide) ?_
            obtain ⟨x7, e_x7, h⟩ := bnd h
            refine v_callSWi C (av := [.ref a0, .int a5, .int 1]) (rest := [.ref a0]) gL_areSearches_L_point rfl ⟨rfl, rfl⟩ hS_L_point ⟨(Nat.le_of_ble_eq_true rfl), (Nat.le_of_ble_eq_true rfl)⟩ (r_LX_point (A := A) e_x7) rfl rfl (Nat.le_of_ble_eq_true rfl) dL_areSearches_206 ?_
            refine v_aload_n C 0 dL_areSearches_209 rfl rfl ?_
            refine v_iload C 2 dL_areSearches_210 rfl ?_
            refine v_at (pc' := 212) rfl ?_
            refine v_iconst C (v := 2) dL_areSearches_212 (by decide) ?_
            obtain ⟨x8, e_x8, h⟩ := bnd h
            refine v_callSWi C (av := [.ref a0, .int a5, .int 2]) (rest := [.int x7, .ref a0]) gL_areSearches_L_point rfl ⟨rfl, rfl⟩ hS_L_point ⟨(Nat.le_of_ble_eq_true rfl), (Nat.le_of_ble_eq_true rfl)⟩ (r_LX_point (A := A) e_x8) rfl rfl (Nat.le_of_ble_eq_true rfl) dL_areSearches_213 ?_
            refine v_iconst C (v := 0) dL_areSearches_216 (by decide) ?_
            refine v_iconst C (v := 0) dL_areSearches_217 (by decide) ?_
            obtain ⟨x9, e_x9, h⟩ := bnd h
            refine v_callSWi C (av := [.ref a0, .int x7, .int x8, .int 0, .int 0]) (rest := []) gL_areSearches_L_search rfl ⟨rfl, rfl⟩ hS_L_search ⟨(Nat.le_of_ble_eq_true rfl), (Nat.le_of_ble_eq_true rfl)⟩ (r_LX_search (A := A) e_x9) rfl rfl (Nat.le_of_ble_eq_true rfl) dL_areSearches_218 ?_
            refine v_aload_n C 0 dL_areSearches_221 rfl rfl ?_
            refine v_iconst C (v := 0) dL_areSearches_222 (by decide) ?_
            obtain ⟨u10, e_u10, h⟩ := bnd h
            obtain ⟨x11, e_x11, h⟩ := bnd h
            refine v_callVi C (ci := 5) (av := [.int 0]) (rest := [.int x9]) rfl gL_areSearches_X6_worst rfl ⟨rfl, rfl⟩ hV_X6_worst ⟨(Nat.le_of_ble_eq_true rfl), (Nat.le_of_ble_eq_true rfl)⟩ e_u10 (r_X6_worst (A := A) e_x11) rfl rfl (Nat.le_of_ble_eq_true rfl) dL_areSearches_223 ?_
            refine v_at (pc' := 226) rfl ?_
            refine v_icmp_gt C (tgt := 233) dL_areSearches_226 (by decide) (fun q => ?_) (fun q => ?_)
            · have h := ite_t q h
              refine v_iconst C (v := 0) dL_areSearches_233 (by decide) ?_
              refine v_istore_n C (lv' := [(3, .int 0), (0, .ref a0), (5, .int a5)]) dL_areSearches_234 rfl (by decide) rfl ?_
              refine v_iinc C (k := 2) (v := (a5 + 1)) (lv' := [(5, .int (a5 + 1)), (3, .int 0), (0, .ref a0)]) dL_areSearches_235 rfl rfl (by decide) rfl ?_
              refine v_goto C (tgt := 152) dL_areSearches_238 (by decide) ?_
              refine v_sub [2, 1, 0] rfl ?_
              exact ih _ _ _ _ h
            · have h := ite_f q h
              refine v_iconst C (v := 1) dL_areSearches_229 (by decide) ?_
              refine v_goto C (tgt := 234) dL_areSearches_230 (by decide) ?_
              refine v_istore_n C (lv' := [(3, .int 1), (0, .ref a0), (5, .int a5)]) dL_areSearches_234 rfl (by decide) rfl ?_
              refine v_iinc C (k := 2) (v := (a5 + 1)) (lv' := [(5, .int (a5 + 1)), (3, .int 1), (0, .ref a0)]) dL_areSearches_235 rfl rfl (by decide) rfl ?_
              refine v_goto C (tgt := 152) dL_areSearches_238 (by decide) ?_
              refine v_sub [2, 1, 0] rfl ?_
              exact ih _ _ _ _ h
set_option maxRecDepth 100000 in
set_option maxHeartbeats 4000000 in
theorem r_L_areSearches_p43 {p : Program} {l : Launch} {e : Env} {s : State} {m : MethodId} {args : Array Value} {below : List Frame} {meth : Method} {c : Code} {G : GG} {A : Nat → Prop} (C : Cx p s m args meth c G A cL_areSearches 6 RL wsL_areSearches (some .boolean)) (n : Nat) {z : Int32} : ∀ (w : Wd) (s0 : Int32) (a0 : Nat) (a1 : Int32) (a2 : Int32), m_L_areSearches_p43 n w s0 a0 a1 a2 = some z → V p l e { frames := 9, cells := 0, slots := 0, locals := 194 } s m args below meth c G A 6 43 [(0, .ref a0), (1, .int a1), (2, .int a2)] [.int s0] w (some (.int z)) w := by
  intro w s0 a0 a1 a2 h
  unfold m_L_areSearches_p43 at h
  refine v_istore_n C (lv' := [(3, .int s0), (0, .ref a0), (1, .int a1), (2, .int a2)]) dL_areSearches_43 rfl (by decide) rfl ?_
  refine v_aload_n C 1 dL_areSearches_44 rfl rfl ?_
  refine v_iload_n C 2 dL_areSearches_45 rfl rfl ?_
  refine v_iload_n C 3 dL_areSearches_46 rfl rfl ?_
  refine v_iconst C (v := 0) dL_areSearches_47 (by decide) ?_
  refine v_iconst C (v := 1) dL_areSearches_48 (by decide) ?_
  obtain ⟨x1, e_x1, h⟩ := bnd h
  refine v_callSWi C (av := [.ref a0, .int a1, .int a2, .int 0, .int 1]) (rest := []) gL_areSearches_L_search rfl ⟨rfl, rfl⟩ hS_L_search ⟨(Nat.le_of_ble_eq_true rfl), (Nat.le_of_ble_eq_true rfl)⟩ (r_LX_search (A := A) e_x1) rfl rfl (Nat.le_of_ble_eq_true rfl) dL_areSearches_49 ?_
  refine v_at (pc' := 52) rfl ?_
  refine v_istore C (lv' := [(4, .int x1), (3, .int s0), (0, .ref a0), (1, .int a1), (2, .int a2)]) dL_areSearches_52 (by decide) rfl ?_
  refine v_iload_n C 1 dL_areSearches_54 rfl rfl ?_
  refine v_if_eq C (tgt := 147) dL_areSearches_55 (by decide) (fun q => ?_) (fun q => ?_)
  · have h := ite_t q h
    refine v_iconst C (v := 0) dL_areSearches_147 (by decide) ?_
    refine v_istore_n C (lv' := [(3, .int 0), (4, .int x1), (0, .ref a0), (1, .int a1), (2, .int a2)]) dL_areSearches_148 rfl (by decide) rfl ?_
    refine v_iconst C (v := 0) dL_areSearches_149 (by decide) ?_
    refine v_istore C (lv' := [(5, .int 0), (3, .int 0), (4, .int x1), (0, .ref a0), (1, .int a1), (2, .int a2)]) dL_areSearches_150 (by decide) rfl ?_
    refine v_sub [3, 1, 0] rfl ?_
    exact r_L_areSearches_p152 C n n _ _ _ _ h
  · have h := ite_f q h
    refine v_iload_n C 3 dL_areSearches_58 rfl rfl ?_
    refine v_aload_n C 2 dL_areSearches_59 rfl rfl ?_
    refine v_iconst C (v := 0) dL_areSearches_60 (by decide) ?_
    refine v_iload C 0 dL_areSearches_61 rfl ?_
    refine v_iconst C (v := 0) dL_areSearches_63 (by decide) ?_
    obtain ⟨x2, e_x2, h⟩ := bnd h
    refine v_callSWi C (av := [.ref a0, .int 0, .int x1, .int 0]) (rest := [.int a1]) gL_areSearches_L_node rfl ⟨rfl, rfl⟩ hS_L_node ⟨(Nat.le_of_ble_eq_true rfl), (Nat.le_of_ble_eq_true rfl)⟩ (r_LX_node (A := A) e_x2) rfl rfl (Nat.le_of_ble_eq_true rfl) dL_areSearches_64 ?_
    refine v_icmp_lt C (tgt := 147) dL_areSearches_67 (by decide) (fun q => ?_) (fun q => ?_)
    · have h := ite_t q h
      refine v_iconst C (v := 0) dL_areSearches_147 (by decide) ?_
      refine v_istore_n C (lv' := [(3, .int 0), (4, .int x1), (0, .ref a0), (1, .int a1), (2, .int a2)]) dL_areSearches_148 rfl (by decide) rfl ?_
      refine v_iconst C (v := 0) dL_areSearches_149 (by decide) ?_
      refine v_istore C (lv' := [(5, .int 0), (3, .int 0), (4, .int x1), (0, .ref a0), (1, .int a1), (2, .int a2)]) dL_areSearches_150 (by decide) rfl ?_
      refine v_sub [3, 1, 0] rfl ?_
      exact r_L_areSearches_p152 C n n _ _ _ _ h
    · have h := ite_f q h
      refine v_iload_n C 4 dL_areSearches_70 rfl rfl ?_
      refine v_aload_n C 2 dL_areSearches_71 rfl rfl ?_
      refine v_iconst C (v := 0) dL_areSearches_72 (by decide) ?_
      refine v_iload C 0 dL_areSearches_73 rfl ?_
      refine v_iconst C (v := 1) dL_areSearches_75 (by decide) ?_
      obtain ⟨x3, e_x3, h⟩ := bnd h
      refine v_callSWi C (av := [.ref a0, .int 0, .int x1, .int 1]) (rest := [.int a2]) gL_areSearches_L_node rfl ⟨rfl, rfl⟩ hS_L_node ⟨(Nat.le_of_ble_eq_true rfl), (Nat.le_of_ble_eq_true rfl)⟩ (r_LX_node (A := A) e_x3) rfl rfl (Nat.le_of_ble_eq_true rfl) dL_areSearches_76 ?_
      refine v_icmp_lt C (tgt := 147) dL_areSearches_79 (by decide) (fun q => ?_) (fun q => ?_)
      · have h := ite_t q h
        refine v_iconst C (v := 0) dL_areSearches_147 (by decide) ?_
        refine v_istore_n C (lv' := [(3, .int 0), (4, .int x1), (0, .ref a0), (1, .int a1), (2, .int a2)]) dL_areSearches_148 rfl (by decide) rfl ?_
        refine v_iconst C (v := 0) dL_areSearches_149 (by decide) ?_
        refine v_istore C (lv' := [(5, .int 0), (3, .int 0), (4, .int x1), (0, .ref a0), (1, .int a1), (2, .int a2)]) dL_areSearches_150 (by decide) rfl ?_
        refine v_sub [3, 1, 0] rfl ?_
        exact r_L_areSearches_p152 C n n _ _ _ _ h
      · have h := ite_f q h
        refine v_iload_n C 3 dL_areSearches_82 rfl rfl ?_
        refine v_aload_n C 2 dL_areSearches_83 rfl rfl ?_
        refine v_iconst C (v := 0) dL_areSearches_84 (by decide) ?_
        refine v_iload C 0 dL_areSearches_85 rfl ?_
        refine v_iconst C (v := 0) dL_areSearches_87 (by decide) ?_
        obtain ⟨x4, e_x4, h⟩ := bnd h
        refine v_callSWi C (av := [.ref a0, .int 0, .int x1, .int 0]) (rest := [.int a1]) gL_areSearches_L_node rfl ⟨rfl, rfl⟩ hS_L_node ⟨(Nat.le_of_ble_eq_true rfl), (Nat.le_of_ble_eq_true rfl)⟩ (r_LX_node (A := A) e_x4) rfl rfl (Nat.le_of_ble_eq_true rfl) dL_areSearches_88 ?_
        refine v_aload_n C 2 dL_areSearches_91 rfl rfl ?_
        refine v_at (pc' := 92) rfl ?_
        refine v_iconst C (v := 0) dL_areSearches_92 (by decide) ?_
        refine v_iload C 0 dL_areSearches_93 rfl ?_
        refine v_iconst C (v := 2) dL_areSearches_95 (by decide) ?_
        obtain ⟨x5, e_x5, h⟩ := bnd h
        refine v_callSWi C (av := [.ref a0, .int 0, .int x1, .int 2]) (rest := [.int x4, .int a1]) gL_areSearches_L_node rfl ⟨rfl, rfl⟩ hS_L_node ⟨(Nat.le_of_ble_eq_true rfl), (Nat.le_of_ble_eq_true rfl)⟩ (r_LX_node (A := A) e_x5) rfl rfl (Nat.le_of_ble_eq_true rfl) dL_areSearches_96 ?_
        refine v_iadd C dL_areSearches_99 ?_
        refine v_icmp_ge C (tgt := 147) dL_areSearches_100 (by decide) (fun q => ?_) (fun q => ?_)
        · have h := ite_t q h
          refine v_iconst C (v := 0) dL_areSearches_147 (by decide) ?_
          refine v_istore_n C (lv' := [(3, .int 0), (4, .int x1), (0, .ref a0), (1, .int a1), (2, .int a2)]) dL_areSearches_148 rfl (by decide) rfl ?_
          refine v_iconst C (v := 0) dL_areSearches_149 (by decide) ?_
          refine v_istore C (lv' := [(5, .int 0), (3, .int 0), (4, .int x1), (0, .ref a0), (1, .int a1), (2, .int a2)]) dL_areSearches_150 (by decide) rfl ?_
          refine v_sub [3, 1, 0] rfl ?_
          exact r_L_areSearches_p152 C n n _ _ _ _ h
        · have h := ite_f q h
          refine v_iload_n C 4 dL_areSearches_103 rfl rfl ?_
          refine v_aload_n C 2 dL_areSearches_104 rfl rfl ?_
          refine v_iconst C (v := 0) dL_areSearches_105 (by decide) ?_
          refine v_iload C 0 dL_areSearches_106 rfl ?_
          refine v_iconst C (v := 1) dL_areSearches_108 (by decide) ?_
          obtain ⟨x6, e_x6, h⟩ := bnd h
          refine v_callSWi C (av := [.ref a0, .int 0, .int x1, .int 1]) (rest := [.int a2]) gL_areSearches_L_node rfl ⟨rfl, rfl⟩ hS_L_node ⟨(Nat.le_of_ble_eq_true rfl), (Nat.le_of_ble_eq_true rfl)⟩ (r_LX_node (A := A) e_x6) rfl rfl (Nat.le_of_ble_eq_true rfl) dL_areSearches_109 ?_
          refine v_aload_n C 2 dL_areSearches_112 rfl rfl ?_
          refine v_at (pc' := 113) rfl ?_
          refine v_iconst C (v := 0) dL_areSearches_113 (by decide) ?_
          refine v_iload C 0 dL_areSearches_114 rfl ?_
          refine v_iconst C (v := 2) dL_areSearches_116 (by decide) ?_
          obtain ⟨x7, e_x7, h⟩ := bnd h
          refine v_callSWi C (av := [.ref a0, .int 0, .int x1, .int 2]) (rest := [.int x6, .int a2]) gL_areSearches_L_node rfl ⟨rfl, rfl⟩ hS_L_node ⟨(Nat.le_of_ble_eq_true rfl), (Nat.le_of_ble_eq_true rfl)⟩ (r_LX_node (A := A) e_x7) rfl rfl (Nat.le_of_ble_eq_true rfl) dL_areSearches_117 ?_
          refine v_iadd C dL_areSearches_120 ?_
          refine v_icmp_ge C (tgt := 147) dL_areSearches_121 (by decide) (fun q => ?_) (fun q => ?_)
          · have h := ite_t q h
            refine v_iconst C (v := 0) dL_areSearches_147 (by decide) ?_
            refine v_istore_n C (lv' := [(3, .int 0), (4, .int x1), (0, .ref a0), (1, .int a1), (2, .int a2)]) dL_areSearches_148 rfl (by decide) rfl ?_
            refine v_iconst C (v := 0) dL_areSearches_149 (by decide) ?_
            refine v_istore C (lv' := [(5, .int 0), (3, .int 0), (4, .int x1), (0, .ref a0), (1, .int a1), (2, .int a2)]) dL_areSearches_150 (by decide) rfl ?_
            refine v_sub [3, 1, 0] rfl ?_
            exact r_L_areSearches_p152 C n n _ _ _ _ h
          · have h := ite_f q h
            refine v_aload_n C 2 dL_areSearches_124 rfl rfl ?_
            refine v_iload_n C 3 dL_areSearches_125 rfl rfl ?_
            refine v_iload_n C 4 dL_areSearches_126 rfl rfl ?_
            refine v_iconst C (v := 0) dL_areSearches_127 (by decide) ?_
            refine v_iconst C (v := 0) dL_areSearches_128 (by decide) ?_
            obtain ⟨x8, e_x8, h⟩ := bnd h
            refine v_callSWi C (av := [.ref a0, .int a1, .int a2, .int 0, .int 0]) (rest := []) gL_areSearches_L_search rfl ⟨rfl, rfl⟩ hS_L_search ⟨(Nat.le_of_ble_eq_true rfl), (Nat.le_of_ble_eq_true rfl)⟩ (r_LX_search (A := A) e_x8) rfl rfl (Nat.le_of_ble_eq_true rfl) dL_areSearches_129 ?_
            refine v_aload_n C 2 dL_areSearches_132 rfl rfl ?_
            refine v_at (pc' := 133) rfl ?_
            refine v_iconst C (v := 0) dL_areSearches_133 (by decide) ?_
            refine v_iload C 0 dL_areSearches_134 rfl ?_
            refine v_iconst C (v := 3) dL_areSearches_136 (by decide) ?_
            obtain ⟨x9, e_x9, h⟩ := bnd h
            refine v_callSWi C (av := [.ref a0, .int 0, .int x1, .int 3]) (rest := [.int x8]) gL_areSearches_L_node rfl ⟨rfl, rfl⟩ hS_L_node ⟨(Nat.le_of_ble_eq_true rfl), (Nat.le_of_ble_eq_true rfl)⟩ (r_LX_node (A := A) e_x9) rfl rfl (Nat.le_of_ble_eq_true rfl) dL_areSearches_137 ?_
            refine v_icmp_ne C (tgt := 147) dL_areSearches_140 (by decide) (fun q => ?_) (fun q => ?_)
            · have h := ite_f q h
              refine v_iconst C (v := 0) dL_areSearches_147 (by decide) ?_
              refine v_istore_n C (lv' := [(3, .int 0), (4, .int x1), (0, .ref a0), (1, .int a1), (2, .int a2)]) dL_areSearches_148 rfl (by decide) rfl ?_
              refine v_iconst C (v := 0) dL_areSearches_149 (by decide) ?_
              refine v_istore C (lv' := [(5, .int 0), (3, .int 0), (4, .int x1), (0, .ref a0), (1, .int a1), (2, .int a2)]) dL_areSearches_150 (by decide) rfl ?_
              refine v_sub [3, 1, 0] rfl ?_
              exact r_L_areSearches_p152 C n n _ _ _ _ h
            · have h := ite_t q h
              refine v_iconst C (v := 1) dL_areSearches_143 (by decide) ?_
              refine v_goto C (tgt := 148) dL_areSearches_144 (by decide) ?_
              refine v_istore_n C (lv' := [(3, .int 1), (4, .int x1), (0, .ref a0), (1, .int a1), (2, .int a2)]) dL_areSearches_148 rfl (by decide) rfl ?_
              refine v_iconst C (v := 0) dL_areSearches_149 (by decide) ?_
              refine v_istore C (lv' := [(5, .int 0), (3, .int 1), (4, .int x1), (0, .ref a0), (1, .int a1), (2, .int a2)]) dL_areSearches_150 (by decide) rfl ?_
              refine v_sub [3, 1, 0] rfl ?_
              exact r_L_areSearches_p152 C n n _ _ _ _ h
set_option maxRecDepth 100000 in
set_option maxHeartbeats 4000000 in
theorem r_L_areSearches {l : Launch} {G : GG} {A : Nat → Prop} {n : Nat} {w : Wd} {a0 : Nat} {a1 : Int32} {a2 : Int32} {z : Int32} (h : m_L_areSearches n w a0 a1 a2 = some z) : Con l yL_areSearches wsL_areSearches { frames := 9, cells := 0, slots := 0, locals := 194 } G A [.ref a0, .int a1, .int a2] w (some (.int z)) w := by
  refine Con.of (own := RL) (cc := cL_areSearches) (maxL := 6) (ret := (some .boolean)) rfl (by decide) rfl (Nat.le_of_ble_eq_true rfl) ?_
  intro p e s m args below meth c C
  show V p l e { frames := 9, cells := 0, slots := 0, locals := 194 } s m args below meth c G A 6 0 [(0, .ref a0), (1, .int a1), (2, .int a2)] [] w (some (.int z)) w
  unfold m_L_areSearches at h
  refine v_aload_n C 0 dL_areSearches_0 rfl rfl ?_
  refine v_iload_n C 1 dL_areSearches_1 rfl rfl ?_
  refine v_iload_n C 2 dL_areSearches_2 rfl rfl ?_
  refine v_iconst C (v := 1) dL_areSearches_3 (by decide) ?_
  refine v_iconst C (v := 1) dL_areSearches_4 (by decide) ?_
  obtain ⟨x1, e_x1, h⟩ := bnd h
  refine v_callSWi C (av := [.ref a0, .int a1, .int a2, .int 1, .int 1]) (rest := []) gL_areSearches_L_search rfl ⟨rfl, rfl⟩ hS_L_search ⟨(Nat.le_of_ble_eq_true rfl), (Nat.le_of_ble_eq_true rfl)⟩ (r_LX_search (A := A) e_x1) rfl rfl (Nat.le_of_ble_eq_true rfl) dL_areSearches_5 ?_
  refine v_aload_n C 0 dL_areSearches_8 rfl rfl ?_
  refine v_at (pc' := 9) rfl ?_
  refine v_iload_n C 1 dL_areSearches_9 rfl rfl ?_
  refine v_iload_n C 2 dL_areSearches_10 rfl rfl ?_
  refine v_iconst C (v := 0) dL_areSearches_11 (by decide) ?_
  refine v_iconst C (v := 1) dL_areSearches_12 (by decide) ?_
  obtain ⟨x2, e_x2, h⟩ := bnd h
  refine v_callSWi C (av := [.ref a0, .int a1, .int a2, .int 0, .int 1]) (rest := [.int x1]) gL_areSearches_L_search rfl ⟨rfl, rfl⟩ hS_L_search ⟨(Nat.le_of_ble_eq_true rfl), (Nat.le_of_ble_eq_true rfl)⟩ (r_LX_search (A := A) e_x2) rfl rfl (Nat.le_of_ble_eq_true rfl) dL_areSearches_13 ?_
  refine v_icmp_ne C (tgt := 42) dL_areSearches_16 (by decide) (fun q => ?_) (fun q => ?_)
  · have h := ite_f q h
    refine v_iconst C (v := 0) dL_areSearches_42 (by decide) ?_
    exact r_L_areSearches_p43 C n _ _ _ _ _ h
  · have h := ite_t q h
    refine v_aload_n C 0 dL_areSearches_19 rfl rfl ?_
    refine v_iload_n C 1 dL_areSearches_20 rfl rfl ?_
    refine v_iload_n C 2 dL_areSearches_21 rfl rfl ?_
    refine v_iconst C (v := 1) dL_areSearches_22 (by decide) ?_
    refine v_iconst C (v := 2) dL_areSearches_23 (by decide) ?_
    obtain ⟨x3, e_x3, h⟩ := bnd h
    refine v_callSWi C (av := [.ref a0, .int a1, .int a2, .int 1, .int 2]) (rest := []) gL_areSearches_L_search rfl ⟨rfl, rfl⟩ hS_L_search ⟨(Nat.le_of_ble_eq_true rfl), (Nat.le_of_ble_eq_true rfl)⟩ (r_LX_search (A := A) e_x3) rfl rfl (Nat.le_of_ble_eq_true rfl) dL_areSearches_24 ?_
    refine v_aload_n C 0 dL_areSearches_27 rfl rfl ?_
    refine v_at (pc' := 28) rfl ?_
    refine v_iload_n C 1 dL_areSearches_28 rfl rfl ?_
    refine v_iload_n C 2 dL_areSearches_29 rfl rfl ?_
    refine v_iconst C (v := 0) dL_areSearches_30 (by decide) ?_
    refine v_iconst C (v := 2) dL_areSearches_31 (by decide) ?_
    obtain ⟨x4, e_x4, h⟩ := bnd h
    refine v_callSWi C (av := [.ref a0, .int a1, .int a2, .int 0, .int 2]) (rest := [.int x3]) gL_areSearches_L_search rfl ⟨rfl, rfl⟩ hS_L_search ⟨(Nat.le_of_ble_eq_true rfl), (Nat.le_of_ble_eq_true rfl)⟩ (r_LX_search (A := A) e_x4) rfl rfl (Nat.le_of_ble_eq_true rfl) dL_areSearches_32 ?_
    refine v_icmp_ne C (tgt := 42) dL_areSearches_35 (by decide) (fun q => ?_) (fun q => ?_)
    · have h := ite_f q h
      refine v_iconst C (v := 0) dL_areSearches_42 (by decide) ?_
      exact r_L_areSearches_p43 C n _ _ _ _ _ h
    · have h := ite_t q h
      refine v_iconst C (v := 1) dL_areSearches_38 (by decide) ?_
      refine v_goto C (tgt := 43) dL_areSearches_39 (by decide) ?_
      exact r_L_areSearches_p43 C n _ _ _ _ _ h
theorem hS_L_undo : yL_undo.cls ≠ "java/lang/invoke/MethodHandle" ∧ yL_undo.cls ≠ "java/lang/invoke/VarHandle" ∧ (parseMethodDescriptor yL_undo.desc).map (fun d => d.parameters.length) = some 1 := by decide +kernel
theorem cL_isMoved_23 : Cond.constant RL 23 (-5000002) ∈ wsL_isMoved := by decide +kernel
set_option maxRecDepth 100000 in
set_option maxHeartbeats 4000000 in
theorem r_L_isMoved_p156 {p : Program} {l : Launch} {e : Env} {s : State} {m : MethodId} {args : Array Value} {below : List Frame} {meth : Method} {c : Code} {G : GG} {A : Nat → Prop} (hst : l.stackTraces = false) (C : Cx p s m args meth c G A cL_isMoved 10 RL wsL_isMoved (some .boolean)) (n : Nat) {z : (Int32 × Wd)} : ∀ (w : Wd) (a2 : Int32) (a3 : Int32) (a6 : Int32) (a7 : Int32) (a8 : Int32), m_L_isMoved_p156 n w a2 a3 a6 a7 a8 = some z → VQ p l e { frames := 10, cells := 1, slots := 6, locals := 190 } s m args below meth c G A 10 1 6 (MQ below (QQ G A (some (.int z.1)) z.2) args s 1 6 A) 156 [(2, .int a2), (3, .int a3), (6, .int a6), (7, .int a7), (8, .int a8)] [] w := by
  intro w a2 a3 a6 a7 a8 h
  unfold m_L_isMoved_p156 at h
  refine v_iconst C (v := 0) dL_isMoved_156 (by decide) ?_
  refine v_istore C (lv' := [(9, .int 0), (2, .int a2), (3, .int a3), (6, .int a6), (7, .int a7), (8, .int a8)]) dL_isMoved_157 (by decide) rfl ?_
  refine v_iload C 0 dL_isMoved_159 rfl ?_
  refine v_if_eq C (tgt := 185) dL_isMoved_161 (by decide) (fun _ => ?_) (fun q => absurd (by decide) q)
  refine v_iconst C (v := 0) dL_isMoved_185 (by decide) ?_
  obtain rfl := Option.some.inj h
  exact v_zretK (k1 := 1) (s1 := 6) (Nat.le_of_ble_eq_true rfl) (Nat.le_of_ble_eq_true rfl) C dL_isMoved_186 bo_0
set_option maxRecDepth 100000 in
set_option maxHeartbeats 4000000 in
theorem r_L_isMoved {l : Launch} (hst : l.stackTraces = false) {G : GG} {A : Nat → Prop} {n : Nat} {w : Wd} {a0 : Nat} {a1 : Int32} {a2 : Int32} {a3 : Int32} {z : (Int32 × Wd)} (h : m_L_isMoved n w a0 a1 a2 a3 = some z) : KCon 1 6 l yL_isMoved wsL_isMoved { frames := 10, cells := 1, slots := 6, locals := 190 } G A [.ref a0, .int a1, .int a2, .int a3] w (some (.int z.1)) z.2 := by
  refine KCon.of (own := RL) (cc := cL_isMoved) (maxL := 10) (ret := (some .boolean)) rfl (by decide) rfl (Nat.le_of_ble_eq_true rfl) ?_
  intro p e s m args below meth c C
  show VQ p l e { frames := 10, cells := 1, slots := 6, locals := 190 } s m args below meth c G A 10 0 0 (MQ below (QQ G A (some (.int z.1)) z.2) args s 1 6 A) 0 [(0, .ref a0), (1, .int a1), (2, .int a2), (3, .int a3)] [] w
  unfold m_L_isMoved at h
  refine v_aload_n C 0 dL_isMoved_0 rfl rfl ?_
  obtain ⟨z1, e_z1, h⟩ := bnd h
  refine v_callSJ C (av := [.ref a0]) (rest := []) gL_isMoved_L_print rfl ⟨rfl, rfl⟩ hS_L_print ⟨(Nat.le_of_ble_eq_true rfl), (Nat.le_of_ble_eq_true rfl)⟩ (r_L_print (A := A) e_z1) rfl rfl (Nat.le_of_ble_eq_true rfl) dL_isMoved_1 (hk := ⟨(Nat.le_of_ble_eq_true rfl), (Nat.le_of_ble_eq_true rfl)⟩) ?_
  refine v_lstore C (lv' := [(4, .long z1), (0, .ref a0), (1, .int a1), (2, .int a2), (3, .int a3)]) dL_isMoved_4 (by decide) rfl ?_
  refine v_aload_n C 1 dL_isMoved_6 rfl rfl ?_
  refine v_iload_n C 2 dL_isMoved_7 rfl rfl ?_
  refine v_iload_n C 3 dL_isMoved_8 rfl rfl ?_
  refine v_iload_n C 4 dL_isMoved_9 rfl rfl ?_
  refine v_at (pc' := 10) rfl ?_
  obtain ⟨z2, e_z2, h⟩ := bnd h
  refine v_callSW C (av := [.ref a0, .int a1, .int a2, .int a3]) (rest := []) gL_isMoved_L_wouldTouch rfl ⟨rfl, rfl⟩ hS_L_wouldTouch ⟨(Nat.le_of_ble_eq_true rfl), (Nat.le_of_ble_eq_true rfl)⟩ (r_L_wouldTouch (A := A) hst e_z2) rfl rfl (Nat.le_of_ble_eq_true rfl) dL_isMoved_10 (hk := ⟨(Nat.le_of_ble_eq_true rfl), (Nat.le_of_ble_eq_true rfl)⟩) ?_
  refine v_istore C (lv' := [(6, .int z2.1), (4, .long z1), (0, .ref a0), (1, .int a1), (2, .int a2), (3, .int a3)]) dL_isMoved_13 (by decide) rfl ?_
  refine v_aload_n C 2 dL_isMoved_15 rfl rfl ?_
  refine v_iload_n C 3 dL_isMoved_16 rfl rfl ?_
  refine v_iconst C (v := 0) dL_isMoved_17 (by decide) ?_
  obtain ⟨x3, e_x3, h⟩ := bnd h
  refine v_callSWi C (av := [.ref a0, .int a1, .int 0]) (rest := []) gL_isMoved_L_point rfl ⟨rfl, rfl⟩ hS_L_point ⟨(Nat.le_of_ble_eq_true rfl), (Nat.le_of_ble_eq_true rfl)⟩ (r_LX_point (A := A) e_x3) rfl rfl (Nat.le_of_ble_eq_true rfl) dL_isMoved_18 (hk := ⟨(Nat.le_of_ble_eq_true rfl), (Nat.le_of_ble_eq_true rfl)⟩) ?_
  refine v_if_ne C (tgt := 47) dL_isMoved_21 (by decide) (fun q => ?_) (fun q => ?_)
  · have h := ite_f q h
    refine v_aload_n C 2 dL_isMoved_47 rfl rfl ?_
    refine v_iload_n C 3 dL_isMoved_48 rfl rfl ?_
    refine v_iconst C (v := 1) dL_isMoved_49 (by decide) ?_
    obtain ⟨x4, e_x4, h⟩ := bnd h
    refine v_callSWi C (av := [.ref a0, .int a1, .int 1]) (rest := []) gL_isMoved_L_point rfl ⟨rfl, rfl⟩ hS_L_point ⟨(Nat.le_of_ble_eq_true rfl), (Nat.le_of_ble_eq_true rfl)⟩ (r_LX_point (A := A) e_x4) rfl rfl (Nat.le_of_ble_eq_true rfl) dL_isMoved_50 (hk := ⟨(Nat.le_of_ble_eq_true rfl), (Nat.le_of_ble_eq_true rfl)⟩) ?_
    refine v_istore C (lv' := [(7, .int x4), (6, .int z2.1), (4, .long z1), (0, .ref a0), (1, .int a1), (2, .int a2), (3, .int a3)]) dL_isMoved_53 (by decide) rfl ?_
    refine v_aload_n C 3 dL_isMoved_55 rfl rfl ?_
    refine v_iload_n C 4 dL_isMoved_56 rfl rfl ?_
    refine v_at (pc' := 57) rfl ?_
    refine v_iconst C (v := 2) dL_isMoved_57 (by decide) ?_
    obtain ⟨x5, e_x5, h⟩ := bnd h
    refine v_callSWi C (av := [.ref a0, .int a1, .int 2]) (rest := []) gL_isMoved_L_point rfl ⟨rfl, rfl⟩ hS_L_point ⟨(Nat.le_of_ble_eq_true rfl), (Nat.le_of_ble_eq_true rfl)⟩ (r_LX_point (A := A) e_x5) rfl rfl (Nat.le_of_ble_eq_true rfl) dL_isMoved_58 (hk := ⟨(Nat.le_of_ble_eq_true rfl), (Nat.le_of_ble_eq_true rfl)⟩) ?_
    refine v_istore C (lv' := [(8, .int x5), (7, .int x4), (6, .int z2.1), (4, .long z1), (0, .ref a0), (1, .int a1), (2, .int a2), (3, .int a3)]) dL_isMoved_61 (by decide) rfl ?_
    refine v_aload_n C 4 dL_isMoved_63 rfl rfl ?_
    obtain ⟨z6, e_z6, h⟩ := bnd h
    refine v_callSJ C (av := [.ref a0]) (rest := []) gL_isMoved_L_print rfl ⟨rfl, rfl⟩ hS_L_print ⟨(Nat.le_of_ble_eq_true rfl), (Nat.le_of_ble_eq_true rfl)⟩ (r_L_print (A := A) e_z6) rfl rfl (Nat.le_of_ble_eq_true rfl) dL_isMoved_64 (hk := ⟨(Nat.le_of_ble_eq_true rfl), (Nat.le_of_ble_eq_true rfl)⟩) ?_
    refine v_lload C 3 dL_isMoved_67 rfl ?_
    refine v_lcmp C dL_isMoved_69 ?_
    refine v_if_ne C (tgt := 156) dL_isMoved_70 (by decide) (fun q => ?_) (fun q => ?_)
    · have h := ite_f q h
      refine v_widen (k1 := 1) (s1 := 6) (Nat.le_of_ble_eq_true rfl) (Nat.le_of_ble_eq_true rfl) ?_
      refine v_sub [6, 7, 2, 1, 0] rfl ?_
      exact r_L_isMoved_p156 hst C n _ _ _ _ _ _ h
    · have h := ite_t q h
      refine v_iload C 2 dL_isMoved_73 rfl ?_
      refine v_if_lt C (tgt := 156) dL_isMoved_75 (by decide) (fun q => ?_) (fun q => ?_)
      · have h := ite_t q h
        refine v_widen (k1 := 1) (s1 := 6) (Nat.le_of_ble_eq_true rfl) (Nat.le_of_ble_eq_true rfl) ?_
        refine v_sub [6, 7, 2, 1, 0] rfl ?_
        exact r_L_isMoved_p156 hst C n _ _ _ _ _ _ h
      · have h := ite_f q h
        refine v_aload_n C 4 dL_isMoved_78 rfl rfl ?_
        refine v_iload_n C 5 dL_isMoved_79 rfl rfl ?_
        refine v_iload_n C 6 dL_isMoved_80 rfl rfl ?_
        refine v_iload_n C 7 dL_isMoved_81 rfl rfl ?_
        obtain ⟨z7, e_z7, h⟩ := bnd h
        refine v_callSWi C (av := [.ref a0, .int a1, .int a2, .int a3]) (rest := []) gL_isMoved_L_move rfl ⟨rfl, rfl⟩ hS_L_move ⟨(Nat.le_of_ble_eq_true rfl), (Nat.le_of_ble_eq_true rfl)⟩ (r_LX_move (A := A) e_z7) rfl rfl (Nat.le_of_ble_eq_true rfl) dL_isMoved_82 (hk := ⟨(Nat.le_of_ble_eq_true rfl), (Nat.le_of_ble_eq_true rfl)⟩) ?_
        refine v_iload C 2 dL_isMoved_85 rfl ?_
        refine v_icmp_ne C (tgt := 156) dL_isMoved_87 (by decide) (fun q => ?_) (fun q => ?_)
        · have h := ite_f q h
          refine v_widen (k1 := 1) (s1 := 6) (Nat.le_of_ble_eq_true rfl) (Nat.le_of_ble_eq_true rfl) ?_
          refine v_sub [6, 7, 2, 1, 0] rfl ?_
          exact r_L_isMoved_p156 hst C n _ _ _ _ _ _ h
        · have h := ite_t q h
          refine v_aload_n C 4 dL_isMoved_90 rfl rfl ?_
          refine v_iload_n C 5 dL_isMoved_91 rfl rfl ?_
          refine v_iload C 1 dL_isMoved_92 rfl ?_
          refine v_iload C 0 dL_isMoved_94 rfl ?_
          obtain ⟨z8, e_z8, h⟩ := bnd h
          refine v_callSWi C (av := [.ref a0, .int a1, .int x4, .int x5]) (rest := []) gL_isMoved_L_wouldTouch rfl ⟨rfl, rfl⟩ hS_L_wouldTouch ⟨(Nat.le_of_ble_eq_true rfl), (Nat.le_of_ble_eq_true rfl)⟩ (r_LX_wouldTouch (A := A) e_z8) rfl rfl (Nat.le_of_ble_eq_true rfl) dL_isMoved_96 (hk := ⟨(Nat.le_of_ble_eq_true rfl), (Nat.le_of_ble_eq_true rfl)⟩) ?_
          refine v_iload C 2 dL_isMoved_99 rfl ?_
          refine v_icmp_ne C (tgt := 156) dL_isMoved_101 (by decide) (fun q => ?_) (fun q => ?_)
          · have h := ite_f q h
            refine v_widen (k1 := 1) (s1 := 6) (Nat.le_of_ble_eq_true rfl) (Nat.le_of_ble_eq_true rfl) ?_
            refine v_sub [6, 7, 2, 1, 0] rfl ?_
            exact r_L_isMoved_p156 hst C n _ _ _ _ _ _ h
          · have h := ite_t q h
            refine v_aload_n C 4 dL_isMoved_104 rfl rfl ?_
            refine v_iload_n C 5 dL_isMoved_105 rfl rfl ?_
            refine v_iload C 1 dL_isMoved_106 rfl ?_
            refine v_iload C 0 dL_isMoved_108 rfl ?_
            obtain ⟨z9, e_z9, h⟩ := bnd h
            refine v_callSWi C (av := [.ref a0, .int a1, .int x4, .int x5]) (rest := []) gL_isMoved_L_move rfl ⟨rfl, rfl⟩ hS_L_move ⟨(Nat.le_of_ble_eq_true rfl), (Nat.le_of_ble_eq_true rfl)⟩ (r_LX_move (A := A) e_z9) rfl rfl (Nat.le_of_ble_eq_true rfl) dL_isMoved_110 (hk := ⟨(Nat.le_of_ble_eq_true rfl), (Nat.le_of_ble_eq_true rfl)⟩) ?_
            refine v_iload C 2 dL_isMoved_113 rfl ?_
            refine v_icmp_ne C (tgt := 156) dL_isMoved_115 (by decide) (fun q => ?_) (fun q => ?_)
            · have h := ite_f q h
              refine v_widen (k1 := 1) (s1 := 6) (Nat.le_of_ble_eq_true rfl) (Nat.le_of_ble_eq_true rfl) ?_
              refine v_sub [6, 7, 2, 1, 0] rfl ?_
              exact r_L_isMoved_p156 hst C n _ _ _ _ _ _ h
            · have h := ite_t q h
              refine v_aload_n C 4 dL_isMoved_118 rfl rfl ?_
              obtain ⟨z10, e_z10, h⟩ := bnd h
              refine v_callSJ C (av := [.ref a0]) (rest := []) gL_isMoved_L_print rfl ⟨rfl, rfl⟩ hS_L_print ⟨(Nat.le_of_ble_eq_true rfl), (Nat.le_of_ble_eq_true rfl)⟩ (r_L_print (A := A) e_z10) rfl rfl (Nat.le_of_ble_eq_true rfl) dL_isMoved_119 (hk := ⟨(Nat.le_of_ble_eq_true rfl), (Nat.le_of_ble_eq_true rfl)⟩) ?_
              refine v_lload C 3 dL_isMoved_122 rfl ?_
              refine v_lcmp C dL_isMoved_124 ?_
              refine v_if_ne C (tgt := 156) dL_isMoved_125 (by decide) (fun q => ?_) (fun q => ?_)
              · have h := ite_f q h
                refine v_widen (k1 := 1) (s1 := 6) (Nat.le_of_ble_eq_true rfl) (Nat.le_of_ble_eq_true rfl) ?_
                refine v_sub [6, 7, 2, 1, 0] rfl ?_
                exact r_L_isMoved_p156 hst C n _ _ _ _ _ _ h
              · have h := ite_t q h
                refine v_aload_n C 4 dL_isMoved_128 rfl rfl ?_
                obtain ⟨z11, e_z11, h⟩ := bnd h
                refine v_callSWi C (av := [.ref a0]) (rest := []) gL_isMoved_L_undo rfl ⟨rfl, rfl⟩ hS_L_undo ⟨(Nat.le_of_ble_eq_true rfl), (Nat.le_of_ble_eq_true rfl)⟩ (r_LX_undo (A := A) e_z11) rfl rfl (Nat.le_of_ble_eq_true rfl) dL_isMoved_129 (hk := ⟨(Nat.le_of_ble_eq_true rfl), (Nat.le_of_ble_eq_true rfl)⟩) ?_
                refine v_if_lt C (tgt := 156) dL_isMoved_132 (by decide) (fun q => ?_) (fun q => ?_)
                · have h := ite_t q h
                  refine v_widen (k1 := 1) (s1 := 6) (Nat.le_of_ble_eq_true rfl) (Nat.le_of_ble_eq_true rfl) ?_
                  refine v_sub [6, 7, 2, 1, 0] rfl ?_
                  exact r_L_isMoved_p156 hst C n _ _ _ _ _ _ h
                · have h := ite_f q h
                  refine v_aload_n C 4 dL_isMoved_135 rfl rfl ?_
                  obtain ⟨z12, e_z12, h⟩ := bnd h
                  refine v_callSWi C (av := [.ref a0]) (rest := []) gL_isMoved_L_undo rfl ⟨rfl, rfl⟩ hS_L_undo ⟨(Nat.le_of_ble_eq_true rfl), (Nat.le_of_ble_eq_true rfl)⟩ (r_LX_undo (A := A) e_z12) rfl rfl (Nat.le_of_ble_eq_true rfl) dL_isMoved_136 (hk := ⟨(Nat.le_of_ble_eq_true rfl), (Nat.le_of_ble_eq_true rfl)⟩) ?_
                  refine v_if_lt C (tgt := 156) dL_isMoved_139 (by decide) (fun q => ?_) (fun q => ?_)
                  · have h := ite_t q h
                    refine v_widen (k1 := 1) (s1 := 6) (Nat.le_of_ble_eq_true rfl) (Nat.le_of_ble_eq_true rfl) ?_
                    refine v_sub [6, 7, 2, 1, 0] rfl ?_
                    exact r_L_isMoved_p156 hst C n _ _ _ _ _ _ h
                  · have h := ite_f q h
                    refine v_aload_n C 4 dL_isMoved_142 rfl rfl ?_
                    obtain ⟨z13, e_z13, h⟩ := bnd h
                    refine v_callSJ C (av := [.ref a0]) (rest := []) gL_isMoved_L_print rfl ⟨rfl, rfl⟩ hS_L_print ⟨(Nat.le_of_ble_eq_true rfl), (Nat.le_of_ble_eq_true rfl)⟩ (r_L_print (A := A) e_z13) rfl rfl (Nat.le_of_ble_eq_true rfl) dL_isMoved_143 (hk := ⟨(Nat.le_of_ble_eq_true rfl), (Nat.le_of_ble_eq_true rfl)⟩) ?_
                    refine v_lload C 3 dL_isMoved_146 rfl ?_
                    refine v_lcmp C dL_isMoved_148 ?_
                    refine v_if_ne C (tgt := 156) dL_isMoved_149 (by decide) (fun q => ?_) (fun q => ?_)
                    · have h := ite_f q h
                      refine v_widen (k1 := 1) (s1 := 6) (Nat.le_of_ble_eq_true rfl) (Nat.le_of_ble_eq_true rfl) ?_
                      refine v_sub [6, 7, 2, 1, 0] rfl ?_
                      exact r_L_isMoved_p156 hst C n _ _ _ _ _ _ h
                    · have h := ite_t q h
                      refine v_iconst C (v := 1) dL_isMoved_152 (by decide) ?_
                      refine v_goto C (tgt := 157) dL_isMoved_153 (by decide) ?_
                      refine v_istore C (lv' := [(9, .int 1), (8, .int x5), (7, .int x4), (6, .int z2.1), (4, .long z1), (0, .ref a0), (1, .int a1), (2, .int a2), (3, .int a3)]) dL_isMoved_157 (by decide) rfl ?_
                      refine v_iload C 0 dL_isMoved_159 rfl ?_
                      refine v_if_eq C (tgt := 185) dL_isMoved_161 (by decide) (fun q => absurd q (by decide)) (fun _ => ?_)
                      refine v_iload C 2 dL_isMoved_164 rfl ?_
                      refine v_iload_n C 7 dL_isMoved_166 rfl rfl ?_
                      refine v_at (pc' := 167) rfl ?_
                      refine v_icmp_ne C (tgt := 181) dL_isMoved_167 (by decide) (fun q => ?_) (fun q => ?_)
                      · have h := ite_f q h
                        refine v_iconst C (v := 1) dL_isMoved_181 (by decide) ?_
                        refine v_goto C (tgt := 186) dL_isMoved_182 (by decide) ?_
                        obtain rfl := Option.some.inj h
                        exact v_zretK (k1 := 1) (s1 := 6) (Nat.le_of_ble_eq_true rfl) (Nat.le_of_ble_eq_true rfl) C dL_isMoved_186 bo_1
                      · have h := ite_t q h
                        refine v_iload C 1 dL_isMoved_170 rfl ?_
                        refine v_iload_n C 8 dL_isMoved_172 rfl rfl ?_
                        refine v_icmp_ne C (tgt := 181) dL_isMoved_173 (by decide) (fun q => ?_) (fun q => ?_)
                        · have h := ite_f q h
                          refine v_iconst C (v := 1) dL_isMoved_181 (by decide) ?_
                          refine v_goto C (tgt := 186) dL_isMoved_182 (by decide) ?_
                          obtain rfl := Option.some.inj h
                          exact v_zretK (k1 := 1) (s1 := 6) (Nat.le_of_ble_eq_true rfl) (Nat.le_of_ble_eq_true rfl) C dL_isMoved_186 bo_1
                        · have h := ite_t q h
                          refine v_iload C 3 dL_isMoved_176 rfl ?_
                          refine v_if_ne C (tgt := 185) dL_isMoved_178 (by decide) (fun q => ?_) (fun q => ?_)
                          · have h := ite_f q h
                            refine v_iconst C (v := 0) dL_isMoved_185 (by decide) ?_
                            obtain rfl := Option.some.inj h
                            exact v_zretK (k1 := 1) (s1 := 6) (Nat.le_of_ble_eq_true rfl) (Nat.le_of_ble_eq_true rfl) C dL_isMoved_186 bo_0
                          · have h := ite_t q h
                            refine v_iconst C (v := 1) dL_isMoved_181 (by decide) ?_
                            refine v_goto C (tgt := 186) dL_isMoved_182 (by decide) ?_
                            obtain rfl := Option.some.inj h
                            exact v_zretK (k1 := 1) (s1 := 6) (Nat.le_of_ble_eq_true rfl) (Nat.le_of_ble_eq_true rfl) C dL_isMoved_186 bo_1
  · have h := ite_t q h
    refine v_iload C 0 dL_isMoved_24 rfl ?_
    refine v_ldc C dL_isMoved_26 cL_isMoved_23 ?_
    refine v_icmp_ne C (tgt := 45) dL_isMoved_28 (by decide) (fun q => ?_) (fun q => ?_)
    · have h := ite_f q h
      refine v_iconst C (v := 0) dL_isMoved_45 (by decide) ?_
      obtain rfl := Option.some.inj h
      exact v_zretK (k1 := 1) (s1 := 6) (Nat.le_of_ble_eq_true rfl) (Nat.le_of_ble_eq_true rfl) C dL_isMoved_46 bo_0
    · have h := ite_t q h
      refine v_aload_n C 2 dL_isMoved_31 rfl rfl ?_
      obtain ⟨z14, e_z14, h⟩ := bnd h
      refine v_callSJ C (av := [.ref a0]) (rest := []) gL_isMoved_L_print rfl ⟨rfl, rfl⟩ hS_L_print ⟨(Nat.le_of_ble_eq_true rfl), (Nat.le_of_ble_eq_true rfl)⟩ (r_L_print (A := A) e_z14) rfl rfl (Nat.le_of_ble_eq_true rfl) dL_isMoved_32 (hk := ⟨(Nat.le_of_ble_eq_true rfl), (Nat.le_of_ble_eq_true rfl)⟩) ?_
      refine v_lload C 1 dL_isMoved_35 rfl ?_
      refine v_lcmp C dL_isMoved_37 ?_
      refine v_if_ne C (tgt := 45) dL_isMoved_38 (by decide) (fun q => ?_) (fun q => ?_)
      · have h := ite_f q h
        refine v_iconst C (v := 0) dL_isMoved_45 (by decide) ?_
        obtain rfl := Option.some.inj h
        exact v_zretK (k1 := 1) (s1 := 6) (Nat.le_of_ble_eq_true rfl) (Nat.le_of_ble_eq_true rfl) C dL_isMoved_46 bo_0
      · have h := ite_t q h
        refine v_iconst C (v := 1) dL_isMoved_41 (by decide) ?_
        refine v_goto C (tgt := 46) dL_isMoved_42 (by decide) ?_
        obtain rfl := Option.some.inj h
        exact v_zretK (k1 := 1) (s1 := 6) (Nat.le_of_ble_eq_true rfl) (Nat.le_of_ble_eq_true rfl) C dL_isMoved_46 bo_1
set_option maxRecDepth 100000 in
set_option maxHeartbeats 4000000 in
theorem r_L_isGone_p146 {p : Program} {l : Launch} {e : Env} {s : State} {m : MethodId} {args : Array Value} {below : List Frame} {meth : Method} {c : Code} {G : GG} {A : Nat → Prop} (C : Cx p s m args meth c G A cL_isGone 9 RL wsL_isGone (some .boolean)) (n : Nat) {k58 : Wd → Nat → Int32 → Int32 → Int32 → Int32 → Int32 → Int32 → Int32 → Option (Int32 × Wd)} {z : (Int32 × Wd)} (H58 : ∀ (w : Wd) (b0 : Nat) (b1 : Int32) (b2 : Int32) (b3 : Int32) (b4 : Int32) (b5 : Int32) (b6 : Int32) (b7 : Int32), k58 w b0 b1 b2 b3 b4 b5 b6 b7 = some z → V p l e { frames := 9, cells := 0, slots := 0, locals := 154 } s m args below meth c G A 9 58 [(0, .ref b0), (1, .int b1), (2, .int b2), (3, .int b3), (4, .int b4), (5, .int b5), (6, .int b6), (7, .int b7)] [] w (some (.int z.1)) z.2) : ∀ (w : Wd) (a0 : Nat) (a1 : Int32) (a2 : Int32) (a3 : Int32) (a4 : Int32) (a6 : Int32) (a7 : Int32) (a8 : Int32), m_L_isGone_p146 n k58 w a0 a1 a2 a3 a4 a6 a7 a8 = some z → V p l e { frames := 9, cells := 0, slots := 0, locals := 154 } s m args below meth c G A 9 146 [(0, .ref a0), (1, .int a1), (2, .int a2), (3, .int a3), (4, .int a4), (6, .int a6), (7, .int a7), (8, .int a8)] [] w (some (.int z.1)) z.2 := by
  intro w a0 a1 a2 a3 a4 a6 a7 a8 h
  unfold m_L_isGone_p146 at h
  refine v_iconst C (v := 0) dL_isGone_146 (by decide) ?_
  refine v_istore C (lv' := [(5, .int 0), (0, .ref a0), (1, .int a1), (2, .int a2), (3, .int a3), (4, .int a4), (6, .int a6), (7, .int a7), (8, .int a8)]) dL_isGone_147 (by decide) rfl ?_
  refine v_iload C 6 dL_isGone_149 rfl ?_
  refine v_iconst C (v := 1) dL_isGone_151 (by decide) ?_
  refine v_iload C 8 dL_isGone_152 rfl ?_
  refine v_bipush C (v := 31) dL_isGone_154 (by decide) ?_
  refine v_iand C dL_isGone_156 ?_
  refine v_at (pc' := 157) rfl ?_
  refine v_ishl C dL_isGone_157 ?_
  refine v_ior C dL_isGone_158 ?_
  refine v_istore C (lv' := [(6, .int (a6 ||| (1 <<< ((a8 &&& 31) &&& 31 : Int32)))), (5, .int 0), (0, .ref a0), (1, .int a1), (2, .int a2), (3, .int a3), (4, .int a4), (7, .int a7), (8, .int a8)]) dL_isGone_159 (by decide) rfl ?_
  refine v_iinc C (k := 7) (v := (a7 + 1)) (lv' := [(7, .int (a7 + 1)), (6, .int (a6 ||| (1 <<< ((a8 &&& 31) &&& 31 : Int32)))), (5, .int 0), (0, .ref a0), (1, .int a1), (2, .int a2), (3, .int a3), (4, .int a4), (8, .int a8)]) dL_isGone_161 rfl rfl (by decide) rfl ?_
  refine v_goto C (tgt := 58) dL_isGone_164 (by decide) ?_
  refine v_sub [3, 4, 5, 6, 7, 2, 1, 0] rfl ?_
  exact H58 _ _ _ _ _ _ _ _ _ h
set_option maxRecDepth 100000 in
set_option maxHeartbeats 4000000 in
theorem r_L_isGone_p167 {p : Program} {l : Launch} {e : Env} {s : State} {m : MethodId} {args : Array Value} {below : List Frame} {meth : Method} {c : Code} {G : GG} {A : Nat → Prop} (C : Cx p s m args meth c G A cL_isGone 9 RL wsL_isGone (some .boolean)) (n : Nat) {z : (Int32 × Wd)} : ∀ (w : Wd) (a0 : Nat) (a1 : Int32) (a5 : Int32), m_L_isGone_p167 n w a0 a1 a5 = some z → V p l e { frames := 9, cells := 0, slots := 0, locals := 154 } s m args below meth c G A 9 167 [(0, .ref a0), (1, .int a1), (5, .int a5)] [] w (some (.int z.1)) z.2 := by
  intro w a0 a1 a5 h
  unfold m_L_isGone_p167 at h
  refine v_iload C 2 dL_isGone_167 rfl ?_
  refine v_if_eq C (tgt := 201) dL_isGone_169 (by decide) (fun q => ?_) (fun q => ?_)
  · have h := ite_t q h
    refine v_iconst C (v := 0) dL_isGone_201 (by decide) ?_
    obtain rfl := Option.some.inj h
    exact v_zret C dL_isGone_202 bo_0
  · have h := ite_f q h
    refine v_aload_n C 0 dL_isGone_172 rfl rfl ?_
    refine v_iload_n C 1 dL_isGone_173 rfl rfl ?_
    obtain ⟨z1, e_z1, h⟩ := bnd h
    refine v_callSWi C (av := [.ref a0, .int a1]) (rest := []) gL_isGone_L_next rfl ⟨rfl, rfl⟩ hS_L_next ⟨(Nat.le_of_ble_eq_true rfl), (Nat.le_of_ble_eq_true rfl)⟩ (r_LX_next (A := A) e_z1) rfl rfl (Nat.le_of_ble_eq_true rfl) dL_isGone_174 ?_
    refine v_iconst C (v := (-1)) dL_isGone_177 (by decide) ?_
    refine v_icmp_ne C (tgt := 201) dL_isGone_178 (by decide) (fun q => ?_) (fun q => ?_)
    · have h := ite_f q h
      refine v_iconst C (v := 0) dL_isGone_201 (by decide) ?_
      obtain rfl := Option.some.inj h
      exact v_zret C dL_isGone_202 bo_0
    · have h := ite_t q h
      refine v_aload_n C 0 dL_isGone_181 rfl rfl ?_
      refine v_iload_n C 1 dL_isGone_182 rfl rfl ?_
      refine v_iconst C (v := 4) dL_isGone_183 (by decide) ?_
      obtain ⟨x2, e_x2, h⟩ := bnd h
      refine v_callSWi C (av := [.ref a0, .int a1, .int 4]) (rest := []) gL_isGone_L_cursor rfl ⟨rfl, rfl⟩ hS_L_cursor ⟨(Nat.le_of_ble_eq_true rfl), (Nat.le_of_ble_eq_true rfl)⟩ (r_LX_cursor (A := A) e_x2) rfl rfl (Nat.le_of_ble_eq_true rfl) dL_isGone_184 ?_
      refine v_if_ne C (tgt := 201) dL_isGone_187 (by decide) (fun q => ?_) (fun q => ?_)
      · have h := ite_f q h
        refine v_iconst C (v := 0) dL_isGone_201 (by decide) ?_
        obtain rfl := Option.some.inj h
        exact v_zret C dL_isGone_202 bo_0
      · have h := ite_t q h
        refine v_aload_n C 0 dL_isGone_190 rfl rfl ?_
        obtain ⟨z3, e_z3, h⟩ := bnd h
        refine v_callSWi C (av := [.ref a0]) (rest := []) gL_isGone_L_undo rfl ⟨rfl, rfl⟩ hS_L_undo ⟨(Nat.le_of_ble_eq_true rfl), (Nat.le_of_ble_eq_true rfl)⟩ (r_LX_undo (A := A) e_z3) rfl rfl (Nat.le_of_ble_eq_true rfl) dL_isGone_191 ?_
        refine v_if_lt C (tgt := 201) dL_isGone_194 (by decide) (fun q => ?_) (fun q => ?_)
        · have h := ite_t q h
          refine v_iconst C (v := 0) dL_isGone_201 (by decide) ?_
          obtain rfl := Option.some.inj h
          exact v_zret C dL_isGone_202 bo_0
        · have h := ite_f q h
          refine v_iconst C (v := 1) dL_isGone_197 (by decide) ?_
          refine v_goto C (tgt := 202) dL_isGone_198 (by decide) ?_
          obtain rfl := Option.some.inj h
          exact v_zret C dL_isGone_202 bo_1
set_option maxRecDepth 100000 in
set_option maxHeartbeats 4000000 in
theorem r_L_isGone_p58 {p : Program} {l : Launch} {e : Env} {s : State} {m : MethodId} {args : Array Value} {below : List Frame} {meth : Method} {c : Code} {G : GG} {A : Nat → Prop} (C : Cx p s m args meth c G A cL_isGone 9 RL wsL_isGone (some .boolean)) (n : Nat) {z : (Int32 × Wd)} : ∀ (t : Nat), ∀ (w : Wd) (a0 : Nat) (a1 : Int32) (a2 : Int32) (a3 : Int32) (a4 : Int32) (a5 : Int32) (a6 : Int32) (a7 : Int32), m_L_isGone_p58 n t w a0 a1 a2 a3 a4 a5 a6 a7 = some z → V p l e { frames := 9, cells := 0, slots := 0, locals := 154 } s m args below meth c G A 9 58 [(0, .ref a0), (1, .int a1), (2, .int a2), (3, .int a3), (4, .int a4), (5, .int a5), (6, .int a6), (7, .int a7)] [] w (some (.int z.1)) z.2 := by
  intro t
  induction t with
  | zero =>
    intro w a0 a1 a2 a3 a4 a5 a6 a7 h
    rw [m_L_isGone_p58] at h
    cases h
  | succ t ih =>
    intro w a0 a1 a2 a3 a4 a5 a6 a7 h
    rw [m_L_isGone_p58] at h
    refine v_iload C 7 dL_isGone_58 rfl ?_
    refine v_iload C 4 dL_isGone_60 rfl ?_
    refine v_icmp_ge C (tgt := 167) dL_isGone_62 (by decide) (fun q => ?_) (fun q => ?_)
    · have h := ite_t q h
      refine v_sub [0, 1, 5] rfl ?_
      exact r_L_isGone_p167 C n _ _ _ _ h
    · have h := ite_f q h
      refine v_iload C 5 dL_isGone_65 rfl ?_
      refine v_if_eq C (tgt := 167) dL_isGone_67 (by decide) (fun q => ?_) (fun q => ?_)
      · have h := ite_t q h
        refine v_sub [0, 1, 5] rfl ?_
        exact r_L_isGone_p167 C n _ _ _ _ h
      · have h := ite_f q h
        refine v_aload_n C 0 dL_isGone_70 rfl rfl ?_
        refine v_iload_n C 1 dL_isGone_71 rfl rfl ?_
        obtain ⟨z1, e_z1, h⟩ := bnd h
        refine v_callSWi C (av := [.ref a0, .int a1]) (rest := []) gL_isGone_L_next rfl ⟨rfl, rfl⟩ hS_L_next ⟨(Nat.le_of_ble_eq_true rfl), (Nat.le_of_ble_eq_true rfl)⟩ (r_LX_next (A := A) e_z1) rfl rfl (Nat.le_of_ble_eq_true rfl) dL_isGone_72 ?_
        refine v_istore C (lv' := [(8, .int z1.1), (0, .ref a0), (1, .int a1), (2, .int a2), (3, .int a3), (4, .int a4), (5, .int a5), (6, .int a6), (7, .int a7)]) dL_isGone_75 (by decide) rfl ?_
        refine v_iload C 0 dL_isGone_77 rfl ?_
        refine v_if_lt C (tgt := 146) dL_isGone_79 (by decide) (fun q => ?_) (fun q => ?_)
        · have h := ite_t q h
          refine v_sub [1, 2, 3, 4, 5, 7, 8, 0] rfl ?_
          exact r_L_isGone_p146 C n ih _ _ _ _ _ _ _ _ _ h
        · have h := ite_f q h
          refine v_iload C 0 dL_isGone_82 rfl ?_
          refine v_aload_n C 1 dL_isGone_84 rfl rfl ?_
          refine v_iload_n C 3 dL_isGone_85 rfl rfl ?_
          refine v_iload_n C 4 dL_isGone_86 rfl rfl ?_
          refine v_iload C 8 dL_isGone_87 rfl ?_
          obtain ⟨x2, e_x2, h⟩ := bnd h
          refine v_callSWi C (av := [.ref a0, .int a2, .int a3, .int a7]) (rest := [.int z1.1]) gL_isGone_L_nearest rfl ⟨rfl, rfl⟩ hS_L_nearest ⟨(Nat.le_of_ble_eq_true rfl), (Nat.le_of_ble_eq_true rfl)⟩ (r_LX_nearest (A := A) e_x2) rfl rfl (Nat.le_of_ble_eq_true rfl) dL_isGone_89 ?_
          refine v_icmp_ne C (tgt := 146) dL_isGone_92 (by decide) (fun q => ?_) (fun q => ?_)
          · have h := ite_f q h
            refine v_sub [1, 2, 3, 4, 5, 7, 8, 0] rfl ?_
            exact r_L_isGone_p146 C n ih _ _ _ _ _ _ _ _ _ h
          · have h := ite_t q h
            refine v_iload C 7 dL_isGone_95 rfl ?_
            refine v_iload C 0 dL_isGone_97 rfl ?_
            refine v_ishr C dL_isGone_99 ?_
            refine v_iconst C (v := 1) dL_isGone_100 (by decide) ?_
            refine v_iand C dL_isGone_101 ?_
            refine v_if_ne C (tgt := 146) dL_isGone_102 (by decide) (fun q => ?_) (fun q => ?_)
            · have h := ite_f q h
              refine v_sub [1, 2, 3, 4, 5, 7, 8, 0] rfl ?_
              exact r_L_isGone_p146 C n ih _ _ _ _ _ _ _ _ _ h
            · have h := ite_t q h
              refine v_aload_n C 1 dL_isGone_105 rfl rfl ?_
              refine v_iload_n C 2 dL_isGone_106 rfl rfl ?_
              refine v_iconst C (v := 3) dL_isGone_107 (by decide) ?_
              obtain ⟨x3, e_x3, h⟩ := bnd h
              refine v_callSWi C (av := [.ref a0, .int a1, .int 3]) (rest := []) gL_isGone_L_cursor rfl ⟨rfl, rfl⟩ hS_L_cursor ⟨(Nat.le_of_ble_eq_true rfl), (Nat.le_of_ble_eq_true rfl)⟩ (r_LX_cursor (A := A) e_x3) rfl rfl (Nat.le_of_ble_eq_true rfl) dL_isGone_108 ?_
              refine v_iload C 0 dL_isGone_111 rfl ?_
              refine v_icmp_ne C (tgt := 146) dL_isGone_113 (by decide) (fun q => ?_) (fun q => ?_)
              · have h := ite_f q h
                refine v_sub [1, 2, 3, 4, 5, 7, 8, 0] rfl ?_
                exact r_L_isGone_p146 C n ih _ _ _ _ _ _ _ _ _ h
              · have h := ite_t q h
                refine v_aload_n C 1 dL_isGone_116 rfl rfl ?_
                refine v_iload_n C 2 dL_isGone_117 rfl rfl ?_
                refine v_iconst C (v := 4) dL_isGone_118 (by decide) ?_
                obtain ⟨x4, e_x4, h⟩ := bnd h
                refine v_callSWi C (av := [.ref a0, .int a1, .int 4]) (rest := []) gL_isGone_L_cursor rfl ⟨rfl, rfl⟩ hS_L_cursor ⟨(Nat.le_of_ble_eq_true rfl), (Nat.le_of_ble_eq_true rfl)⟩ (r_LX_cursor (A := A) e_x4) rfl rfl (Nat.le_of_ble_eq_true rfl) dL_isGone_119 ?_
                refine v_iload C 5 dL_isGone_122 rfl ?_
                refine v_iload C 8 dL_isGone_124 rfl ?_
                refine v_isub C dL_isGone_126 ?_
                refine v_at (pc' := 127) rfl ?_
                refine v_iconst C (v := 1) dL_isGone_127 (by decide) ?_
                refine v_isub C dL_isGone_128 ?_
                refine v_icmp_ne C (tgt := 146) dL_isGone_129 (by decide) (fun q => ?_) (fun q => ?_)
                · have h := ite_f q h
                  refine v_sub [1, 2, 3, 4, 5, 7, 8, 0] rfl ?_
                  exact r_L_isGone_p146 C n ih _ _ _ _ _ _ _ _ _ h
                · have h := ite_t q h
                  refine v_aload_n C 1 dL_isGone_132 rfl rfl ?_
                  refine v_iload_n C 2 dL_isGone_133 rfl rfl ?_
                  refine v_iconst C (v := 5) dL_isGone_134 (by decide) ?_
                  obtain ⟨x5, e_x5, h⟩ := bnd h
                  refine v_callSWi C (av := [.ref a0, .int a1, .int 5]) (rest := []) gL_isGone_L_cursor rfl ⟨rfl, rfl⟩ hS_L_cursor ⟨(Nat.le_of_ble_eq_true rfl), (Nat.le_of_ble_eq_true rfl)⟩ (r_LX_cursor (A := A) e_x5) rfl rfl (Nat.le_of_ble_eq_true rfl) dL_isGone_135 ?_
                  refine v_iconst C (v := 1) dL_isGone_138 (by decide) ?_
                  refine v_icmp_lt C (tgt := 146) dL_isGone_139 (by decide) (fun q => ?_) (fun q => ?_)
                  · have h := ite_t q h
                    refine v_sub [1, 2, 3, 4, 5, 7, 8, 0] rfl ?_
                    exact r_L_isGone_p146 C n ih _ _ _ _ _ _ _ _ _ h
                  · have h := ite_f q h
                    refine v_iconst C (v := 1) dL_isGone_142 (by decide) ?_
                    refine v_goto C (tgt := 147) dL_isGone_143 (by decide) ?_
                    refine v_istore C (lv' := [(5, .int 1), (8, .int z1.1), (0, .ref a0), (1, .int a1), (2, .int a2), (3, .int a3), (4, .int a4), (6, .int a6), (7, .int a7)]) dL_isGone_147 (by decide) rfl ?_
                    refine v_iload C 7 dL_isGone_149 rfl ?_
                    refine v_iconst C (v := 1) dL_isGone_151 (by decide) ?_
                    refine v_iload C 1 dL_isGone_152 rfl ?_
                    refine v_bipush C (v := 31) dL_isGone_154 (by decide) ?_
                    refine v_at (pc' := 156) rfl ?_
                    refine v_iand C dL_isGone_156 ?_
                    refine v_ishl C dL_isGone_157 ?_
                    refine v_ior C dL_isGone_158 ?_
                    refine v_istore C (lv' := [(6, .int (a6 ||| (1 <<< ((z1.1 &&& 31) &&& 31 : Int32)))), (5, .int 1), (8, .int z1.1), (0, .ref a0), (1, .int a1), (2, .int a2), (3, .int a3), (4, .int a4), (7, .int a7)]) dL_isGone_159 (by decide) rfl ?_
                    refine v_iinc C (k := 8) (v := (a7 + 1)) (lv' := [(7, .int (a7 + 1)), (6, .int (a6 ||| (1 <<< ((z1.1 &&& 31) &&& 31 : Int32)))), (5, .int 1), (8, .int z1.1), (0, .ref a0), (1, .int a1), (2, .int a2), (3, .int a3), (4, .int a4)]) dL_isGone_161 rfl rfl (by decide) rfl ?_
                    refine v_goto C (tgt := 58) dL_isGone_164 (by decide) ?_
                    refine v_sub [4, 5, 6, 7, 8, 2, 1, 0] rfl ?_
                    exact ih _ _ _ _ _ _ _ _ _ h
set_option maxRecDepth 100000 in
set_option maxHeartbeats 4000000 in
theorem r_L_isGone {l : Launch} {G : GG} {A : Nat → Prop} {n : Nat} {w : Wd} {a0 : Nat} {a1 : Int32} {a2 : Int32} {a3 : Int32} {z : (Int32 × Wd)} (h : m_L_isGone n w a0 a1 a2 a3 = some z) : Con l yL_isGone wsL_isGone { frames := 9, cells := 0, slots := 0, locals := 154 } G A [.ref a0, .int a1, .int a2, .int a3] w (some (.int z.1)) z.2 := by
  refine Con.of (own := RL) (cc := cL_isGone) (maxL := 9) (ret := (some .boolean)) rfl (by decide) rfl (Nat.le_of_ble_eq_true rfl) ?_
  intro p e s m args below meth c C
  show V p l e { frames := 9, cells := 0, slots := 0, locals := 154 } s m args below meth c G A 9 0 [(0, .ref a0), (1, .int a1), (2, .int a2), (3, .int a3)] [] w (some (.int z.1)) z.2
  unfold m_L_isGone at h
  refine v_aload_n C 0 dL_isGone_0 rfl rfl ?_
  refine v_iload_n C 1 dL_isGone_1 rfl rfl ?_
  refine v_iload_n C 2 dL_isGone_2 rfl rfl ?_
  refine v_iload_n C 3 dL_isGone_3 rfl rfl ?_
  obtain ⟨z1, e_z1, h⟩ := bnd h
  refine v_callSWi C (av := [.ref a0, .int a1, .int a2, .int a3]) (rest := []) gL_isGone_L_open rfl ⟨rfl, rfl⟩ hS_L_open ⟨(Nat.le_of_ble_eq_true rfl), (Nat.le_of_ble_eq_true rfl)⟩ (r_LX_open (A := A) e_z1) rfl rfl (Nat.le_of_ble_eq_true rfl) dL_isGone_4 ?_
  refine v_istore C (lv' := [(4, .int z1.1), (0, .ref a0), (1, .int a1), (2, .int a2), (3, .int a3)]) dL_isGone_7 (by decide) rfl ?_
  refine v_iload C 0 dL_isGone_9 rfl ?_
  refine v_at (pc' := 11) rfl ?_
  refine v_aload_n C 1 dL_isGone_11 rfl rfl ?_
  refine v_iconst C (v := 0) dL_isGone_12 (by decide) ?_
  refine v_iconst C (v := 0) dL_isGone_13 (by decide) ?_
  refine v_bipush C (v := 63) dL_isGone_14 (by decide) ?_
  refine v_bipush C (v := 63) dL_isGone_16 (by decide) ?_
  obtain ⟨x2, e_x2, h⟩ := bnd h
  refine v_callSWi C (av := [.ref a0, .int 0, .int 0, .int 63, .int 63]) (rest := [.int z1.1]) gL_isGone_L_within rfl ⟨rfl, rfl⟩ hS_L_within ⟨(Nat.le_of_ble_eq_true rfl), (Nat.le_of_ble_eq_true rfl)⟩ (r_LX_within (A := A) e_x2) rfl rfl (Nat.le_of_ble_eq_true rfl) dL_isGone_18 ?_
  refine v_icmp_ne C (tgt := 49) dL_isGone_21 (by decide) (fun q => ?_) (fun q => ?_)
  · have h := ite_f q h
    refine v_iconst C (v := 0) dL_isGone_49 (by decide) ?_
    refine v_istore C (lv' := [(5, .int 0), (4, .int z1.1), (0, .ref a0), (1, .int a1), (2, .int a2), (3, .int a3)]) dL_isGone_50 (by decide) rfl ?_
    refine v_iconst C (v := 0) dL_isGone_52 (by decide) ?_
    refine v_istore C (lv' := [(6, .int 0), (5, .int 0), (4, .int z1.1), (0, .ref a0), (1, .int a1), (2, .int a2), (3, .int a3)]) dL_isGone_53 (by decide) rfl ?_
    refine v_iconst C (v := 0) dL_isGone_55 (by decide) ?_
    refine v_istore C (lv' := [(7, .int 0), (6, .int 0), (5, .int 0), (4, .int z1.1), (0, .ref a0), (1, .int a1), (2, .int a2), (3, .int a3)]) dL_isGone_56 (by decide) rfl ?_
    refine v_sub [4, 5, 6, 7, 3, 2, 1, 0] rfl ?_
    exact r_L_isGone_p58 C n n _ _ _ _ _ _ _ _ _ h
  · have h := ite_t q h
    refine v_aload_n C 1 dL_isGone_24 rfl rfl ?_
    refine v_iload_n C 2 dL_isGone_25 rfl rfl ?_
    refine v_iconst C (v := 4) dL_isGone_26 (by decide) ?_
    obtain ⟨x3, e_x3, h⟩ := bnd h
    refine v_callSWi C (av := [.ref a0, .int a1, .int 4]) (rest := []) gL_isGone_L_cursor rfl ⟨rfl, rfl⟩ hS_L_cursor ⟨(Nat.le_of_ble_eq_true rfl), (Nat.le_of_ble_eq_true rfl)⟩ (r_LX_cursor (A := A) e_x3) rfl rfl (Nat.le_of_ble_eq_true rfl) dL_isGone_27 ?_
    refine v_iload C 0 dL_isGone_30 rfl ?_
    refine v_icmp_ne C (tgt := 49) dL_isGone_32 (by decide) (fun q => ?_) (fun q => ?_)
    · have h := ite_f q h
      refine v_iconst C (v := 0) dL_isGone_49 (by decide) ?_
      refine v_istore C (lv' := [(5, .int 0), (4, .int z1.1), (0, .ref a0), (1, .int a1), (2, .int a2), (3, .int a3)]) dL_isGone_50 (by decide) rfl ?_
      refine v_iconst C (v := 0) dL_isGone_52 (by decide) ?_
      refine v_istore C (lv' := [(6, .int 0), (5, .int 0), (4, .int z1.1), (0, .ref a0), (1, .int a1), (2, .int a2), (3, .int a3)]) dL_isGone_53 (by decide) rfl ?_
      refine v_iconst C (v := 0) dL_isGone_55 (by decide) ?_
      refine v_istore C (lv' := [(7, .int 0), (6, .int 0), (5, .int 0), (4, .int z1.1), (0, .ref a0), (1, .int a1), (2, .int a2), (3, .int a3)]) dL_isGone_56 (by decide) rfl ?_
      refine v_sub [4, 5, 6, 7, 3, 2, 1, 0] rfl ?_
      exact r_L_isGone_p58 C n n _ _ _ _ _ _ _ _ _ h
    · have h := ite_t q h
      refine v_aload_n C 1 dL_isGone_35 rfl rfl ?_
      refine v_iload_n C 2 dL_isGone_36 rfl rfl ?_
      refine v_iconst C (v := 2) dL_isGone_37 (by decide) ?_
      obtain ⟨x4, e_x4, h⟩ := bnd h
      refine v_callSWi C (av := [.ref a0, .int a1, .int 2]) (rest := []) gL_isGone_L_cursor rfl ⟨rfl, rfl⟩ hS_L_cursor ⟨(Nat.le_of_ble_eq_true rfl), (Nat.le_of_ble_eq_true rfl)⟩ (r_LX_cursor (A := A) e_x4) rfl rfl (Nat.le_of_ble_eq_true rfl) dL_isGone_38 ?_
      refine v_iconst C (v := (-1)) dL_isGone_41 (by decide) ?_
      refine v_icmp_ne C (tgt := 49) dL_isGone_42 (by decide) (fun q => ?_) (fun q => ?_)
      · have h := ite_f q h
        refine v_iconst C (v := 0) dL_isGone_49 (by decide) ?_
        refine v_istore C (lv' := [(5, .int 0), (4, .int z1.1), (0, .ref a0), (1, .int a1), (2, .int a2), (3, .int a3)]) dL_isGone_50 (by decide) rfl ?_
        refine v_iconst C (v := 0) dL_isGone_52 (by decide) ?_
        refine v_istore C (lv' := [(6, .int 0), (5, .int 0), (4, .int z1.1), (0, .ref a0), (1, .int a1), (2, .int a2), (3, .int a3)]) dL_isGone_53 (by decide) rfl ?_
        refine v_iconst C (v := 0) dL_isGone_55 (by decide) ?_
        refine v_istore C (lv' := [(7, .int 0), (6, .int 0), (5, .int 0), (4, .int z1.1), (0, .ref a0), (1, .int a1), (2, .int a2), (3, .int a3)]) dL_isGone_56 (by decide) rfl ?_
        refine v_sub [4, 5, 6, 7, 3, 2, 1, 0] rfl ?_
        exact r_L_isGone_p58 C n n _ _ _ _ _ _ _ _ _ h
      · have h := ite_t q h
        refine v_iconst C (v := 1) dL_isGone_45 (by decide) ?_
        refine v_goto C (tgt := 50) dL_isGone_46 (by decide) ?_
        refine v_istore C (lv' := [(5, .int 1), (4, .int z1.1), (0, .ref a0), (1, .int a1), (2, .int a2), (3, .int a3)]) dL_isGone_50 (by decide) rfl ?_
        refine v_iconst C (v := 0) dL_isGone_52 (by decide) ?_
        refine v_istore C (lv' := [(6, .int 0), (5, .int 1), (4, .int z1.1), (0, .ref a0), (1, .int a1), (2, .int a2), (3, .int a3)]) dL_isGone_53 (by decide) rfl ?_
        refine v_iconst C (v := 0) dL_isGone_55 (by decide) ?_
        refine v_istore C (lv' := [(7, .int 0), (6, .int 0), (5, .int 1), (4, .int z1.1), (0, .ref a0), (1, .int a1), (2, .int a2), (3, .int a3)]) dL_isGone_56 (by decide) rfl ?_
        refine v_sub [4, 5, 6, 7, 3, 2, 1, 0] rfl ?_
        exact r_L_isGone_p58 C n n _ _ _ _ _ _ _ _ _ h
set_option maxRecDepth 100000 in
set_option maxHeartbeats 4000000 in
theorem r_L_isClosest {l : Launch} {G : GG} {A : Nat → Prop} {n : Nat} {w : Wd} {a0 : Nat} {z : Int32} (h : m_L_isClosest n w a0 = some z) : Con l yL_isClosest wsL_isClosest { frames := 9, cells := 0, slots := 0, locals := 160 } G A [.ref a0] w (some (.int z)) w := by
  refine Con.of (own := RL) (cc := cL_isClosest) (maxL := 7) (ret := (some .boolean)) rfl (by decide) rfl (Nat.le_of_ble_eq_true rfl) ?_
  intro p e s m args below meth c C
  show V p l e { frames := 9, cells := 0, slots := 0, locals := 160 } s m args below meth c G A 7 0 [(0, .ref a0)] [] w (some (.int z)) w
  unfold m_L_isClosest at h
  refine v_aload_n C 0 dL_isClosest_0 rfl rfl ?_
  refine v_iconst C (v := 0) dL_isClosest_1 (by decide) ?_
  refine v_iconst C (v := 0) dL_isClosest_2 (by decide) ?_
  refine v_bipush C (v := 63) dL_isClosest_3 (by decide) ?_
  refine v_bipush C (v := 63) dL_isClosest_5 (by decide) ?_
  obtain ⟨x1, e_x1, h⟩ := bnd h
  refine v_callSWi C (av := [.ref a0, .int 0, .int 0, .int 63, .int 63]) (rest := []) gL_isClosest_L_within rfl ⟨rfl, rfl⟩ hS_L_within ⟨(Nat.le_of_ble_eq_true rfl), (Nat.le_of_ble_eq_true rfl)⟩ (r_LX_within (A := A) e_x1) rfl rfl (Nat.le_of_ble_eq_true rfl) dL_isClosest_7 ?_
  refine v_istore_n C (lv' := [(1, .int x1), (0, .ref a0)]) dL_isClosest_10 rfl (by decide) rfl ?_
  refine v_at (pc' := 11) rfl ?_
  refine v_aload_n C 1 dL_isClosest_11 rfl rfl ?_
  refine v_iconst C (v := 0) dL_isClosest_12 (by decide) ?_
  obtain ⟨x2, e_x2, h⟩ := bnd h
  refine v_callSWi C (av := [.ref a0, .int 0]) (rest := []) gL_isClosest_L_closest rfl ⟨rfl, rfl⟩ hS_L_closest ⟨(Nat.le_of_ble_eq_true rfl), (Nat.le_of_ble_eq_true rfl)⟩ (r_LX_closest (A := A) e_x2) rfl rfl (Nat.le_of_ble_eq_true rfl) dL_isClosest_13 ?_
  refine v_istore_n C (lv' := [(2, .int x2), (1, .int x1), (0, .ref a0)]) dL_isClosest_16 rfl (by decide) rfl ?_
  refine v_aload_n C 2 dL_isClosest_17 rfl rfl ?_
  refine v_iconst C (v := 1) dL_isClosest_18 (by decide) ?_
  obtain ⟨x3, e_x3, h⟩ := bnd h
  refine v_callSWi C (av := [.ref a0, .int 1]) (rest := []) gL_isClosest_L_closest rfl ⟨rfl, rfl⟩ hS_L_closest ⟨(Nat.le_of_ble_eq_true rfl), (Nat.le_of_ble_eq_true rfl)⟩ (r_LX_closest (A := A) e_x3) rfl rfl (Nat.le_of_ble_eq_true rfl) dL_isClosest_19 ?_
  refine v_istore_n C (lv' := [(3, .int x3), (2, .int x2), (1, .int x1), (0, .ref a0)]) dL_isClosest_22 rfl (by decide) rfl ?_
  refine v_at (pc' := 23) rfl ?_
  refine v_aload_n C 3 dL_isClosest_23 rfl rfl ?_
  refine v_iconst C (v := 2) dL_isClosest_24 (by decide) ?_
  obtain ⟨x4, e_x4, h⟩ := bnd h
  refine v_callSWi C (av := [.ref a0, .int 2]) (rest := []) gL_isClosest_L_closest rfl ⟨rfl, rfl⟩ hS_L_closest ⟨(Nat.le_of_ble_eq_true rfl), (Nat.le_of_ble_eq_true rfl)⟩ (r_LX_closest (A := A) e_x4) rfl rfl (Nat.le_of_ble_eq_true rfl) dL_isClosest_25 ?_
  refine v_istore C (lv' := [(4, .int x4), (3, .int x3), (2, .int x2), (1, .int x1), (0, .ref a0)]) dL_isClosest_28 (by decide) rfl ?_
  refine v_iload_n C 3 dL_isClosest_30 rfl rfl ?_
  refine v_iconst C (v := 2) dL_isClosest_31 (by decide) ?_
  refine v_icmp_ge C (tgt := 57) dL_isClosest_32 (by decide) (fun q => ?_) (fun q => ?_)
  · have h := ite_t q h
    refine v_aload_n C 4 dL_isClosest_57 rfl rfl ?_
    refine v_iload_n C 1 dL_isClosest_58 rfl rfl ?_
    refine v_iconst C (v := 1) dL_isClosest_59 (by decide) ?_
    obtain ⟨x5, e_x5, h⟩ := bnd h
    refine v_callSWi C (av := [.ref a0, .int x3, .int 1]) (rest := []) gL_isClosest_L_point rfl ⟨rfl, rfl⟩ hS_L_point ⟨(Nat.le_of_ble_eq_true rfl), (Nat.le_of_ble_eq_true rfl)⟩ (r_LX_point (A := A) e_x5) rfl rfl (Nat.le_of_ble_eq_true rfl) dL_isClosest_60 ?_
    refine v_aload_n C 4 dL_isClosest_63 rfl rfl ?_
    refine v_iload C 0 dL_isClosest_64 rfl ?_
    refine v_iconst C (v := 1) dL_isClosest_66 (by decide) ?_
    refine v_at (pc' := 67) rfl ?_
    obtain ⟨x6, e_x6, h⟩ := bnd h
    refine v_callSWi C (av := [.ref a0, .int x4, .int 1]) (rest := [.int x5]) gL_isClosest_L_point rfl ⟨rfl, rfl⟩ hS_L_point ⟨(Nat.le_of_ble_eq_true rfl), (Nat.le_of_ble_eq_true rfl)⟩ (r_LX_point (A := A) e_x6) rfl rfl (Nat.le_of_ble_eq_true rfl) dL_isClosest_67 ?_
    refine v_isub C dL_isClosest_70 ?_
    refine v_istore C (lv' := [(5, .int (x5 - x6)), (4, .int x4), (3, .int x3), (2, .int x2), (1, .int x1), (0, .ref a0)]) dL_isClosest_71 (by decide) rfl ?_
    refine v_aload_n C 5 dL_isClosest_73 rfl rfl ?_
    refine v_iload_n C 2 dL_isClosest_74 rfl rfl ?_
    refine v_iconst C (v := 2) dL_isClosest_75 (by decide) ?_
    obtain ⟨x7, e_x7, h⟩ := bnd h
    refine v_callSWi C (av := [.ref a0, .int x3, .int 2]) (rest := []) gL_isClosest_L_point rfl ⟨rfl, rfl⟩ hS_L_point ⟨(Nat.le_of_ble_eq_true rfl), (Nat.le_of_ble_eq_true rfl)⟩ (r_LX_point (A := A) e_x7) rfl rfl (Nat.le_of_ble_eq_true rfl) dL_isClosest_76 ?_
    refine v_aload_n C 5 dL_isClosest_79 rfl rfl ?_
    refine v_at (pc' := 80) rfl ?_
    refine v_iload C 1 dL_isClosest_80 rfl ?_
    refine v_iconst C (v := 2) dL_isClosest_82 (by decide) ?_
    obtain ⟨x8, e_x8, h⟩ := bnd h
    refine v_callSWi C (av := [.ref a0, .int x4, .int 2]) (rest := [.int x7]) gL_isClosest_L_point rfl ⟨rfl, rfl⟩ hS_L_point ⟨(Nat.le_of_ble_eq_true rfl), (Nat.le_of_ble_eq_true rfl)⟩ (r_LX_point (A := A) e_x8) rfl rfl (Nat.le_of_ble_eq_true rfl) dL_isClosest_83 ?_
    refine v_isub C dL_isClosest_86 ?_
    refine v_istore C (lv' := [(6, .int (x7 - x8)), (5, .int (x5 - x6)), (4, .int x4), (3, .int x3), (2, .int x2), (1, .int x1), (0, .ref a0)]) dL_isClosest_87 (by decide) rfl ?_
    refine v_iload_n C 3 dL_isClosest_89 rfl rfl ?_
    refine v_iload C 2 dL_isClosest_90 rfl ?_
    refine v_icmp_ge C (tgt := 141) dL_isClosest_92 (by decide) (fun q => ?_) (fun q => ?_)
    · have h := ite_t q h
      refine v_iconst C (v := 0) dL_isClosest_141 (by decide) ?_
      obtain rfl := Option.some.inj h
      exact v_zret C dL_isClosest_142 bo_0
    · have h := ite_f q h
      refine v_iload C 1 dL_isClosest_95 rfl ?_
      refine v_iload C 1 dL_isClosest_97 rfl ?_
      refine v_imul C dL_isClosest_99 ?_
      refine v_iload C 0 dL_isClosest_100 rfl ?_
      refine v_iload C 0 dL_isClosest_102 rfl ?_
      refine v_imul C dL_isClosest_104 ?_
      refine v_iadd C dL_isClosest_105 ?_
      refine v_at (pc' := 106) rfl ?_
      refine v_iload_n C 4 dL_isClosest_106 rfl rfl ?_
      refine v_icmp_ne C (tgt := 141) dL_isClosest_107 (by decide) (fun q => ?_) (fun q => ?_)
      · have h := ite_f q h
        refine v_iconst C (v := 0) dL_isClosest_141 (by decide) ?_
        obtain rfl := Option.some.inj h
        exact v_zret C dL_isClosest_142 bo_0
      · have h := ite_t q h
        refine v_iload_n C 4 dL_isClosest_110 rfl rfl ?_
        refine v_if_ne C (tgt := 118) dL_isClosest_111 (by decide) (fun q => ?_) (fun q => ?_)
        · have h := ite_f q h
          refine v_iconst C (v := 0) dL_isClosest_118 (by decide) ?_
          refine v_aload_n C 6 dL_isClosest_119 rfl rfl ?_
          refine v_iconst C (v := 0) dL_isClosest_120 (by decide) ?_
          refine v_iconst C (v := 4) dL_isClosest_121 (by decide) ?_
          obtain ⟨x9, e_x9, h⟩ := bnd h
          refine v_callSWi C (av := [.ref a0, .int 0, .int 4]) (rest := [.int 0]) gL_isClosest_L_level rfl ⟨rfl, rfl⟩ hS_L_level ⟨(Nat.le_of_ble_eq_true rfl), (Nat.le_of_ble_eq_true rfl)⟩ (r_LX_level (A := A) e_x9) rfl rfl (Nat.le_of_ble_eq_true rfl) dL_isClosest_122 ?_
          refine v_iload_n C 5 dL_isClosest_125 rfl rfl ?_
          refine v_icmp_ge C (tgt := 133) dL_isClosest_126 (by decide) (fun q => ?_) (fun q => ?_)
          · have h := ite_t q h
            refine v_iconst C (v := 0) dL_isClosest_133 (by decide) ?_
            refine v_icmp_ne C (tgt := 141) dL_isClosest_134 (by decide) (fun q => absurd (by decide) q) (fun _ => ?_)
            refine v_iconst C (v := 1) dL_isClosest_137 (by decide) ?_
            refine v_goto C (tgt := 142) dL_isClosest_138 (by decide) ?_
            obtain rfl := Option.some.inj h
            exact v_zret C dL_isClosest_142 bo_1
          · have h := ite_f q h
            refine v_iconst C (v := 1) dL_isClosest_129 (by decide) ?_
            refine v_goto C (tgt := 134) dL_isClosest_130 (by decide) ?_
            refine v_icmp_ne C (tgt := 141) dL_isClosest_134 (by decide) (fun _ => ?_) (fun q => absurd q (by decide))
            refine v_iconst C (v := 0) dL_isClosest_141 (by decide) ?_
            obtain rfl := Option.some.inj h
            exact v_zret C dL_isClosest_142 bo_0
        · have h := ite_t q h
          refine v_iconst C (v := 1) dL_isClosest_114 (by decide) ?_
          refine v_goto C (tgt := 119) dL_isClosest_115 (by decide) ?_
          refine v_aload_n C 6 dL_isClosest_119 rfl rfl ?_
          refine v_iconst C (v := 0) dL_isClosest_120 (by decide) ?_
          refine v_iconst C (v := 4) dL_isClosest_121 (by decide) ?_
          obtain ⟨x10, e_x10, h⟩ := bnd h
          refine v_callSWi C (av := [.ref a0, .int 0, .int 4]) (rest := [.int 1]) gL_isClosest_L_level rfl ⟨rfl, rfl⟩ hS_L_level ⟨(Nat.le_of_ble_eq_true rfl), (Nat.le_of_ble_eq_true rfl)⟩ (r_LX_level (A := A) e_x10) rfl rfl (Nat.le_of_ble_eq_true rfl) dL_isClosest_122 ?_
          refine v_iload_n C 5 dL_isClosest_125 rfl rfl ?_
          refine v_at (pc' := 126) rfl ?_
          refine v_icmp_ge C (tgt := 133) dL_isClosest_126 (by decide) (fun q => ?_) (fun q => ?_)
          · have h := ite_t q h
            refine v_iconst C (v := 0) dL_isClosest_133 (by decide) ?_
            refine v_icmp_ne C (tgt := 141) dL_isClosest_134 (by decide) (fun _ => ?_) (fun q => absurd q (by decide))
            refine v_iconst C (v := 0) dL_isClosest_141 (by decide) ?_
            obtain rfl := Option.some.inj h
            exact v_zret C dL_isClosest_142 bo_0
          · have h := ite_f q h
            refine v_iconst C (v := 1) dL_isClosest_129 (by decide) ?_
            refine v_goto C (tgt := 134) dL_isClosest_130 (by decide) ?_
            refine v_icmp_ne C (tgt := 141) dL_isClosest_134 (by decide) (fun q => absurd (by decide) q) (fun _ => ?_)
            refine v_iconst C (v := 1) dL_isClosest_137 (by decide) ?_
            refine v_goto C (tgt := 142) dL_isClosest_138 (by decide) ?_
            obtain rfl := Option.some.inj h
            exact v_zret C dL_isClosest_142 bo_1
  · have h := ite_f q h
    refine v_iload_n C 2 dL_isClosest_35 rfl rfl ?_
    refine v_iconst C (v := (-1)) dL_isClosest_36 (by decide) ?_
    refine v_icmp_ne C (tgt := 55) dL_isClosest_37 (by decide) (fun q => ?_) (fun q => ?_)
    · have h := ite_f q h
      refine v_iconst C (v := 0) dL_isClosest_55 (by decide) ?_
      obtain rfl := Option.some.inj h
      exact v_zret C dL_isClosest_56 bo_0
    · have h := ite_t q h
      refine v_iload_n C 1 dL_isClosest_40 rfl rfl ?_
      refine v_iconst C (v := (-1)) dL_isClosest_41 (by decide) ?_
      refine v_icmp_ne C (tgt := 55) dL_isClosest_42 (by decide) (fun q => ?_) (fun q => ?_)
      · have h := ite_f q h
        refine v_iconst C (v := 0) dL_isClosest_55 (by decide) ?_
        obtain rfl := Option.some.inj h
        exact v_zret C dL_isClosest_56 bo_0
      · have h := ite_t q h
        refine v_iload C 0 dL_isClosest_45 rfl ?_
        refine v_iconst C (v := (-1)) dL_isClosest_47 (by decide) ?_
        refine v_icmp_ne C (tgt := 55) dL_isClosest_48 (by decide) (fun q => ?_) (fun q => ?_)
        · have h := ite_f q h
          refine v_iconst C (v := 0) dL_isClosest_55 (by decide) ?_
          obtain rfl := Option.some.inj h
          exact v_zret C dL_isClosest_56 bo_0
        · have h := ite_t q h
          refine v_iconst C (v := 1) dL_isClosest_51 (by decide) ?_
          refine v_goto C (tgt := 56) dL_isClosest_52 (by decide) ?_
          obtain rfl := Option.some.inj h
          exact v_zret C dL_isClosest_56 bo_1
