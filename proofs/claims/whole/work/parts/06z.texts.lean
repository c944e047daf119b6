/-! THE TEXTS: String.length and String.charAt over the program's own constants -/
section VT
variable {p : Program} {l : Launch} {e : Env} {R : Room} {s : State} {m : MethodId} {args : Array Value} {below : List Frame} {meth : Method} {c : Code} {G : GG} {A : Nat → Prop} {cc : ByteArray} {nL : Nat} {own : String} {Ts : List Cond} {ret : Option FieldType}
variable {pc : Nat} {lv : List (Nat × Value)} {st : List Value} {w w' w1 : Wd} {o : Option Value} {kc ks : Nat} {Q : State → Prop}
theorem v_gets (C : Cx p s m args meth c G A cc nL own Ts ret) {K n d0 : String} {v : Value} {idx : Nat} (hZ : va_Z K n d0 v A s s.heap) (hl0 : Cond.fieldLink own idx K n d0 ∈ Ts) (d : decode cc pc = .ok (.getstatic idx, 3)) (k : VQ p l e R s m args below meth c G A nL kc ks Q (pc + 3) lv (v :: st) w) : VQ p l e R s m args below meth c G A nL kc ks Q pc lv st w :=
  fun H locs ls hl hP hS => va_gets C.1 C.2.1 hZ hS C.2.2.2.1 (C.2.2.2.2.1 _ hl0) (fun _ h => h) d (k H locs ls hl hP hS)
theorem v_strGet (C : Cx p s m args meth c G A cc nL own Ts ret) {o1 n d0 : String} {v : Value} {idx q : Nat} (hE : va_OF o1 n d0 v q A s s.heap) (hl0 : Cond.fieldLink own idx o1 n d0 ∈ Ts) (d : decode cc pc = .ok (.getfield idx, 3)) (k : VQ p l e R s m args below meth c G A nL kc ks Q (pc + 3) lv (v :: st) w) : VQ p l e R s m args below meth c G A nL kc ks Q pc lv (.ref q :: st) w :=
  fun H locs ls hl hP hS => vk_getf C.1 C.2.1 hE hS C.2.2.2.1 (C.2.2.2.2.1 _ hl0) (fun _ h => h) d (k H locs ls hl hP hS)
theorem v_tlen (C : Cx p s m args meth c G A cc nL own Ts ret) {ty : FieldType} {t N : Nat} {f : Nat → Value} (hT : va_T ty t N f A s s.heap) (d : decode cc pc = .ok (.arraylength, 1)) (k : VQ p l e R s m args below meth c G A nL kc ks Q (pc + 1) lv (.int (nI N) :: st) w) : VQ p l e R s m args below meth c G A nL kc ks Q pc lv (.ref t :: st) w :=
  fun H locs ls hl hP hS => va_tlen C.1 C.2.1 hT hS rfl d (k H locs ls hl hP hS)
theorem v_tb (C : Cx p s m args meth c G A cc nL own Ts ret) {t N : Nat} {f : Nat → Value} {i : Int32} {v : Value} (hT : va_T .byte t N f A s s.heap) (hin : vp_in i N) (hv : f i.toNatClampNeg = v) (d : decode cc pc = .ok (.baload, 1)) (k : VQ p l e R s m args below meth c G A nL kc ks Q (pc + 1) lv (v :: st) w) : VQ p l e R s m args below meth c G A nL kc ks Q pc lv (.int i :: .ref t :: st) w :=
  fun H locs ls hl hP hS => va_tb C.1 C.2.1 hT hS hin hv d (k H locs ls hl hP hS)
theorem v_i2c (C : Cx p s m args meth c G A cc nL own Ts ret) {x v : Int32} (d : decode cc pc = .ok (.i2c, 1)) (hv : (x.toUInt32 % 65536).toInt32 = v) (k : VQ p l e R s m args below meth c G A nL kc ks Q (pc + 1) lv (.int v :: st) w) : VQ p l e R s m args below meth c G A nL kc ks Q pc lv (.int x :: st) w :=
  fun H locs ls hl hP hS => lv_i2c C.1 C.2.1 d hv (k H locs ls hl hP hS)
theorem v_zretT {v : Int32} {ty : FieldType} (C : Cx p s m args meth c G A cc nL own Ts (some ty)) (d : decode cc pc = .ok (.ireturn, 1)) (hn : narrow ty (.int v) = .int v) : V p l e R s m args below meth c G A nL pc lv [.int v] w (some (.int v)) w := by
  intro H locs ls hl hP hS
  exact W.zret C.1 C.2.1 C.2.2.2.2.2.2.2 hn (fun t ht hW => ⟨⟨rfl, by rw [ht]; exact hP⟩, hS.F ht⟩) hS.2.2 d C.2.2.2.2.2.2.1
theorem v_callX (C : Cx p s m args meth c G A cc nL own Ts ret) {y : MethodName} {ws ws' : List Cond} {bytes : ByteArray} {maxL n index b : Nat} {K : String} {rt : Option FieldType} {rm : Room} {av rest : List Value} {r1 : Int32}
    (hrec : ∀ (H : Heap) (locs : List Loc), va_S A s.heap H locs → ∃ cell : Cell, H[b]? = some cell ∧ cell.vm.isStatics = false ∧ s.vm.findClass K = some cell.cls) (hT : GoodIn Ts (wsV own index K y ws)) (hw : ws = Cond.code y bytes maxL rt :: ws') (hrm : rm.cells = 0 ∧ rm.slots = 0)
    (hd0 : y.cls = K ∧ y.cls ≠ "java/lang/invoke/MethodHandle" ∧ y.cls ≠ "java/lang/invoke/VarHandle" ∧ (parseMethodDescriptor y.desc).map (fun d => d.parameters.length) = some n) (hR : rm.frames + 1 ≤ R.frames ∧ 8 + (maxL + 11) + rm.locals ≤ R.locals)
    (hM : Con l y ws rm G A (.ref b :: av) w (some (.int r1)) w) (hn : av.length = n) (hst : st = av.reverse ++ .ref b :: rest) (hW : (rest.map fun v => v.category).sum ≤ 8) (d : decode cc pc = .ok (.invokevirtual index, 3))
    (k : VQ p l e R s m args below meth c G A nL kc ks Q (pc + 3) lv (.int r1 :: rest) w) (hk : kc ≤ R.cells ∧ ks ≤ R.slots := by exact ⟨Nat.zero_le _, Nat.zero_le _⟩) : VQ p l e R s m args below meth c G A nL kc ks Q pc lv st w := by
  intro H locs ls hl hP hS
  exact W.vrun hS (va_runV (C := K) (As := av) (rest := rest) (n := n) ⟨C.1, C.2.1, C.2.2.1, C.2.2.2.1, C.2.2.2.2.1⟩ hM (cwV n C.2.2.2.2.1 hT hw hrm.1 hrm.2 hd0 hR) ⟨PP.blind, hrec H locs hS, fun U hU hWm => ⟨rfl, by rw [hU]; exact hP, by rw [hU]; exact C.2.2.2.2.2.1.next hS hWm⟩⟩ rfl hn hl.1 hst (lv_room hW) d hk) (fun H1 locs1 h1 h2 => k H1 locs1 ls hl h1 h2)
end VT
theorem Cx.str {p : Program} {s : State} {m : MethodId} {args : Array Value} {meth : Method} {c : Code} {G : GG} {A : Nat → Prop} {cc : ByteArray} {nL : Nat} {own : String} {Ts : List Cond} {ret : Option FieldType} (C : Cx p s m args meth c G A cc nL own Ts ret) : vk_S 5 slen sbyt G.2.2.1 G.2.2.2 A s s.heap := C.2.2.2.2.2.1.2.2.1.1
theorem Cx.cs {p : Program} {s : State} {m : MethodId} {args : Array Value} {meth : Method} {c : Code} {G : GG} {A : Nat → Prop} {cc : ByteArray} {nL : Nat} {own : String} {Ts : List Cond} {ret : Option FieldType} (C : Cx p s m args meth c G A cc nL own Ts ret) : va_Z "java/lang/String" "COMPACT_STRINGS" "Z" (.int 1) A s s.heap := C.2.2.2.2.2.1.2.2.1.2.2.2.1
theorem Cx.fo {p : Program} {s : State} {m : MethodId} {args : Array Value} {meth : Method} {c : Code} {G : GG} {A : Nat → Prop} {cc : ByteArray} {nL : Nat} {own : String} {Ts : List Cond} {ret : Option FieldType} (C : Cx p s m args meth c G A cc nL own Ts ret) : va_Zq "jdk/internal/util/Preconditions" "SIOOBE_FORMATTER" "Ljava/util/function/BiFunction;" A s s.heap := C.2.2.2.2.2.1.2.2.1.2.2.2.2
theorem hV_J0_coder : yJ0_coder_7d493.cls = RJ0 ∧ yJ0_coder_7d493.cls ≠ "java/lang/invoke/MethodHandle" ∧ yJ0_coder_7d493.cls ≠ "java/lang/invoke/VarHandle" ∧ (parseMethodDescriptor yJ0_coder_7d493.desc).map (fun d => d.parameters.length) = some 0 := by decide +kernel
theorem hV_J0_isLatin1 : yJ0_isLatin1_aae02.cls = RJ0 ∧ yJ0_isLatin1_aae02.cls ≠ "java/lang/invoke/MethodHandle" ∧ yJ0_isLatin1_aae02.cls ≠ "java/lang/invoke/VarHandle" ∧ (parseMethodDescriptor yJ0_isLatin1_aae02.desc).map (fun d => d.parameters.length) = some 0 := by decide +kernel
theorem hV_J0_length : yJ0_length_8abf5.cls = RJ0 ∧ yJ0_length_8abf5.cls ≠ "java/lang/invoke/MethodHandle" ∧ yJ0_length_8abf5.cls ≠ "java/lang/invoke/VarHandle" ∧ (parseMethodDescriptor yJ0_length_8abf5.desc).map (fun d => d.parameters.length) = some 0 := by decide +kernel
theorem hV_J0_charAt : yJ0_charAt_5068e.cls = RJ0 ∧ yJ0_charAt_5068e.cls ≠ "java/lang/invoke/MethodHandle" ∧ yJ0_charAt_5068e.cls ≠ "java/lang/invoke/VarHandle" ∧ (parseMethodDescriptor yJ0_charAt_5068e.desc).map (fun d => d.parameters.length) = some 1 := by decide +kernel
theorem hS_J1_charAt : yJ1_charAt_3b067.cls ≠ "java/lang/invoke/MethodHandle" ∧ yJ1_charAt_3b067.cls ≠ "java/lang/invoke/VarHandle" ∧ (parseMethodDescriptor yJ1_charAt_3b067.desc).map (fun d => d.parameters.length) = some 2 := by decide +kernel
theorem hS_J0_checkIndex : yJ0_checkIndex_df160.cls ≠ "java/lang/invoke/MethodHandle" ∧ yJ0_checkIndex_df160.cls ≠ "java/lang/invoke/VarHandle" ∧ (parseMethodDescriptor yJ0_checkIndex_df160.desc).map (fun d => d.parameters.length) = some 2 := by decide +kernel
theorem hS_J3_checkIndex : yJ3_checkIndex_8e157.cls ≠ "java/lang/invoke/MethodHandle" ∧ yJ3_checkIndex_8e157.cls ≠ "java/lang/invoke/VarHandle" ∧ (parseMethodDescriptor yJ3_checkIndex_8e157.desc).map (fun d => d.parameters.length) = some 3 := by decide +kernel
set_option maxRecDepth 100000 in
set_option maxHeartbeats 4000000 in
theorem r_J0_coder {l : Launch} {G : GG} {A : Nat → Prop} {w : Wd} {i : Nat} (hi : i < 5) : Con l yJ0_coder_7d493 wsJ0_coder_7d493 { frames := 0, cells := 0, slots := 0, locals := 0 } G A [.ref (G.2.2.1 i)] w (some (.int 0)) w := by
  refine Con.of (own := RJ0) (cc := cJ0_coder_7d493) (maxL := 1) (ret := (some .byte)) rfl (by decide) rfl (Nat.le_of_ble_eq_true rfl) ?_
  intro p e s m args below meth c C
  show V p l e { frames := 0, cells := 0, slots := 0, locals := 0 } s m args below meth c G A 1 0 [(0, .ref (G.2.2.1 i))] [] w (some (.int 0)) w
  refine v_gets C C.cs (by decide +kernel) dJ0_coder_7d493_0 ?_
  refine v_if_eq C (tgt := 13) dJ0_coder_7d493_3 (by decide) (fun q => absurd q (by decide)) (fun _ => ?_)
  refine v_aload_n C 0 dJ0_coder_7d493_6 rfl rfl ?_
  refine v_strGet C (C.str.1 i hi).2.1 (by decide +kernel) dJ0_coder_7d493_7 ?_
  refine v_goto C (tgt := 14) dJ0_coder_7d493_10 (by decide) ?_
  exact v_zretT C dJ0_coder_7d493_14 rfl
set_option maxRecDepth 100000 in
set_option maxHeartbeats 4000000 in
theorem r_J0_isLatin1 {l : Launch} {G : GG} {A : Nat → Prop} {w : Wd} {i : Nat} (hi : i < 5) : Con l yJ0_isLatin1_aae02 wsJ0_isLatin1_aae02 { frames := 0, cells := 0, slots := 0, locals := 0 } G A [.ref (G.2.2.1 i)] w (some (.int 1)) w := by
  refine Con.of (own := RJ0) (cc := cJ0_isLatin1_aae02) (maxL := 1) (ret := (some .boolean)) rfl (by decide) rfl (Nat.le_of_ble_eq_true rfl) ?_
  intro p e s m args below meth c C
  show V p l e { frames := 0, cells := 0, slots := 0, locals := 0 } s m args below meth c G A 1 0 [(0, .ref (G.2.2.1 i))] [] w (some (.int 1)) w
  refine v_gets C C.cs (by decide +kernel) dJ0_isLatin1_aae02_0 ?_
  refine v_if_eq C (tgt := 17) dJ0_isLatin1_aae02_3 (by decide) (fun q => absurd q (by decide)) (fun _ => ?_)
  refine v_aload_n C 0 dJ0_isLatin1_aae02_6 rfl rfl ?_
  refine v_strGet C (C.str.1 i hi).2.1 (by decide +kernel) dJ0_isLatin1_aae02_7 ?_
  refine v_if_ne C (tgt := 17) dJ0_isLatin1_aae02_10 (by decide) (fun q => absurd rfl q) (fun _ => ?_)
  refine v_iconst C (v := 1) dJ0_isLatin1_aae02_13 (by decide) ?_
  refine v_goto C (tgt := 18) dJ0_isLatin1_aae02_14 (by decide) ?_
  exact v_zretT C dJ0_isLatin1_aae02_18 rfl
theorem st_sh : ∀ i, i < 5 → (nI (slen.getD i 0)) >>> ((0 : Int32) &&& 31) = nI (slen.getD i 0) := by decide +kernel
set_option maxRecDepth 100000 in
set_option maxHeartbeats 4000000 in
theorem r_J0_length {l : Launch} {G : GG} {A : Nat → Prop} {w : Wd} {i : Nat} (hi : i < 5) : Con l yJ0_length_8abf5 wsJ0_length_8abf5 { frames := 1, cells := 0, slots := 0, locals := 20 } G A [.ref (G.2.2.1 i)] w (some (.int (nI (slen.getD i 0)))) w := by
  refine Con.of (own := RJ0) (cc := cJ0_length_8abf5) (maxL := 1) (ret := (some .int)) rfl (by decide) rfl (Nat.le_of_ble_eq_true rfl) ?_
  intro p e s m args below meth c C
  show V p l e { frames := 1, cells := 0, slots := 0, locals := 20 } s m args below meth c G A 1 0 [(0, .ref (G.2.2.1 i))] [] w (some (.int (nI (slen.getD i 0)))) w
  refine v_aload_n C 0 dJ0_length_8abf5_0 rfl rfl ?_
  refine v_strGet C (C.str.1 i hi).2.2.1 (by decide +kernel) dJ0_length_8abf5_1 ?_
  refine v_tlen C (C.str.1 i hi).2.2.2 dJ0_length_8abf5_4 ?_
  refine v_aload_n C 0 dJ0_length_8abf5_5 rfl rfl ?_
  refine v_callX C (av := []) (rest := [.int (nI (slen.getD i 0))]) (fun H locs hS => vk_recv C.str hi hS) gJ0_length_8abf5_J0_coder_7d493 rfl ⟨rfl, rfl⟩ hV_J0_coder ⟨Nat.le_of_ble_eq_true rfl, Nat.le_of_ble_eq_true rfl⟩ (r_J0_coder hi) rfl rfl (Nat.le_of_ble_eq_true rfl) dJ0_length_8abf5_6 ?_
  refine v_ishr C dJ0_length_8abf5_9 ?_
  rw [st_sh i hi]
  exact v_iret C dJ0_length_8abf5_10
set_option maxRecDepth 100000 in
set_option maxHeartbeats 4000000 in
theorem r_J3_checkIndexN {l : Launch} {G : GG} {A : Nat → Prop} {w : Wd} {k n : Int32} (h1 : ¬ k < 0) (h2 : k < n) : Con l yJ3_checkIndex_8e157 wsJ3_checkIndex_8e157 { frames := 0, cells := 0, slots := 0, locals := 0 } G A [.int k, .int n, .null] w (some (.int k)) w := by
  refine Con.of (own := RJ3) (cc := cJ3_checkIndex_8e157) (maxL := 3) (ret := (some .int)) rfl (by decide) rfl (Nat.le_of_ble_eq_true rfl) ?_
  intro p e s m args below meth c C
  show V p l e { frames := 0, cells := 0, slots := 0, locals := 0 } s m args below meth c G A 3 0 [(0, .int k), (1, .int n), (2, .null)] [] w (some (.int k)) w
  refine v_iload_n C 0 dJ3_checkIndex_8e157_0 rfl rfl ?_
  refine v_if_lt C (tgt := 9) dJ3_checkIndex_8e157_1 (by decide) (fun q => absurd q h1) (fun _ => ?_)
  refine v_iload_n C 0 dJ3_checkIndex_8e157_4 rfl rfl ?_
  refine v_iload_n C 1 dJ3_checkIndex_8e157_5 rfl rfl ?_
  refine v_icmp_lt C (tgt := 16) dJ3_checkIndex_8e157_6 (by decide) (fun _ => ?_) (fun q => absurd h2 q)
  refine v_iload_n C 0 dJ3_checkIndex_8e157_16 rfl rfl ?_
  exact v_iret C dJ3_checkIndex_8e157_17
set_option maxRecDepth 100000 in
set_option maxHeartbeats 4000000 in
theorem r_J3_checkIndexR {l : Launch} {G : GG} {A : Nat → Prop} {w : Wd} {k n : Int32} {tq : Nat} (h1 : ¬ k < 0) (h2 : k < n) : Con l yJ3_checkIndex_8e157 wsJ3_checkIndex_8e157 { frames := 0, cells := 0, slots := 0, locals := 0 } G A [.int k, .int n, .ref tq] w (some (.int k)) w := by
  refine Con.of (own := RJ3) (cc := cJ3_checkIndex_8e157) (maxL := 3) (ret := (some .int)) rfl (by decide) rfl (Nat.le_of_ble_eq_true rfl) ?_
  intro p e s m args below meth c C
  show V p l e { frames := 0, cells := 0, slots := 0, locals := 0 } s m args below meth c G A 3 0 [(0, .int k), (1, .int n), (2, .ref tq)] [] w (some (.int k)) w
  refine v_iload_n C 0 dJ3_checkIndex_8e157_0 rfl rfl ?_
  refine v_if_lt C (tgt := 9) dJ3_checkIndex_8e157_1 (by decide) (fun q => absurd q h1) (fun _ => ?_)
  refine v_iload_n C 0 dJ3_checkIndex_8e157_4 rfl rfl ?_
  refine v_iload_n C 1 dJ3_checkIndex_8e157_5 rfl rfl ?_
  refine v_icmp_lt C (tgt := 16) dJ3_checkIndex_8e157_6 (by decide) (fun _ => ?_) (fun q => absurd h2 q)
  refine v_iload_n C 0 dJ3_checkIndex_8e157_16 rfl rfl ?_
  exact v_iret C dJ3_checkIndex_8e157_17
set_option maxRecDepth 100000 in
set_option maxHeartbeats 4000000 in
theorem r_J0_checkIndex {l : Launch} {G : GG} {A : Nat → Prop} {w : Wd} {k n : Int32} (h1 : ¬ k < 0) (h2 : k < n) : Con l yJ0_checkIndex_df160 wsJ0_checkIndex_df160 { frames := 1, cells := 0, slots := 0, locals := 22 } G A [.int k, .int n] w none w := by
  refine Con.of (own := RJ0) (cc := cJ0_checkIndex_df160) (maxL := 2) (ret := none) rfl (by decide) rfl (Nat.le_of_ble_eq_true rfl) ?_
  intro p e s m args below meth c C
  show V p l e { frames := 1, cells := 0, slots := 0, locals := 22 } s m args below meth c G A 2 0 [(0, .int k), (1, .int n)] [] w none w
  refine v_iload_n C 0 dJ0_checkIndex_df160_0 rfl rfl ?_
  refine v_iload_n C 1 dJ0_checkIndex_df160_1 rfl rfl ?_
  rcases C.fo with hz | ⟨t, hz⟩
  · refine v_gets C hz (by decide +kernel) dJ0_checkIndex_df160_2 ?_
    refine v_callSi C (av := [.int k, .int n, .null]) (rest := []) gJ0_checkIndex_df160_J3_checkIndex_8e157 rfl ⟨rfl, rfl⟩ hS_J3_checkIndex ⟨Nat.le_of_ble_eq_true rfl, Nat.le_of_ble_eq_true rfl⟩ (r_J3_checkIndexN h1 h2) rfl rfl (Nat.le_of_ble_eq_true rfl) dJ0_checkIndex_df160_5 ?_
    refine v_pop C dJ0_checkIndex_df160_8 rfl ?_
    exact v_vret C dJ0_checkIndex_df160_9
  · refine v_gets C hz (by decide +kernel) dJ0_checkIndex_df160_2 ?_
    refine v_callSi C (av := [.int k, .int n, .ref t]) (rest := []) gJ0_checkIndex_df160_J3_checkIndex_8e157 rfl ⟨rfl, rfl⟩ hS_J3_checkIndex ⟨Nat.le_of_ble_eq_true rfl, Nat.le_of_ble_eq_true rfl⟩ (r_J3_checkIndexR h1 h2) rfl rfl (Nat.le_of_ble_eq_true rfl) dJ0_checkIndex_df160_5 ?_
    refine v_pop C dJ0_checkIndex_df160_8 rfl ?_
    exact v_vret C dJ0_checkIndex_df160_9
theorem st_ch : ∀ i, i < 5 → ∀ k, k < slen.getD i 0 → (((sbyt.getD i []).getD k 0 &&& 255).toUInt32 % 65536).toInt32 = (sbyt.getD i []).getD k 0 ∧ narrow .char (.int ((sbyt.getD i []).getD k 0)) = .int ((sbyt.getD i []).getD k 0) := by decide +kernel
theorem st_le : ∀ i, i < 5 → slen.getD i 0 < 2 ^ 31 := by decide +kernel
set_option maxRecDepth 100000 in
set_option maxHeartbeats 4000000 in
theorem r_J1_charAt {l : Launch} {G : GG} {A : Nat → Prop} {w : Wd} {i k : Nat} (hi : i < 5) (hk : k < slen.getD i 0) : Con l yJ1_charAt_3b067 wsJ1_charAt_3b067 { frames := 2, cells := 0, slots := 0, locals := 43 } G A [.ref (G.2.2.2 i), .int (nI k)] w (some (.int ((sbyt.getD i []).getD k 0))) w := by
  refine Con.of (own := RJ1) (cc := cJ1_charAt_3b067) (maxL := 2) (ret := (some .char)) rfl (by decide) rfl (Nat.le_of_ble_eq_true rfl) ?_
  intro p e s m args below meth c C
  show V p l e { frames := 2, cells := 0, slots := 0, locals := 43 } s m args below meth c G A 2 0 [(0, .ref (G.2.2.2 i)), (1, .int (nI k))] [] w (some (.int ((sbyt.getD i []).getD k 0))) w
  have hn := st_le i hi
  refine v_iload_n C 1 dJ1_charAt_3b067_0 rfl rfl ?_
  refine v_aload_n C 0 dJ1_charAt_3b067_1 rfl rfl ?_
  refine v_tlen C (C.str.1 i hi).2.2.2 dJ1_charAt_3b067_2 ?_
  refine v_callSv C (av := [.int (nI k), .int (nI (slen.getD i 0))]) (rest := []) gJ1_charAt_3b067_J0_checkIndex_df160 rfl ⟨rfl, rfl⟩ hS_J0_checkIndex ⟨Nat.le_of_ble_eq_true rfl, Nat.le_of_ble_eq_true rfl⟩ (r_J0_checkIndex (A := A) (w := w) (nI_pos (Nat.lt_trans hk hn)) (nI_lt hk hn)) rfl rfl (Nat.le_of_ble_eq_true rfl) dJ1_charAt_3b067_3 ?_
  refine v_aload_n C 0 dJ1_charAt_3b067_6 rfl rfl ?_
  refine v_iload_n C 1 dJ1_charAt_3b067_7 rfl rfl ?_
  refine v_tb C (C.str.1 i hi).2.2.2 (vp_in_nI hk hn) (by rw [nI_clamp (Nat.lt_trans hk hn)]) dJ1_charAt_3b067_8 ?_
  refine v_sipush C (v := 255) dJ1_charAt_3b067_9 (by decide) ?_
  refine v_iand C dJ1_charAt_3b067_12 ?_
  refine v_i2c C dJ1_charAt_3b067_13 (st_ch i hi k hk).1 ?_
  exact v_zretT C dJ1_charAt_3b067_14 (st_ch i hi k hk).2
set_option maxRecDepth 100000 in
set_option maxHeartbeats 4000000 in
theorem r_J0_charAt {l : Launch} {G : GG} {A : Nat → Prop} {w : Wd} {i k : Nat} (hi : i < 5) (hk : k < slen.getD i 0) : Con l yJ0_charAt_5068e wsJ0_charAt_5068e { frames := 3, cells := 0, slots := 0, locals := 64 } G A [.ref (G.2.2.1 i), .int (nI k)] w (some (.int ((sbyt.getD i []).getD k 0))) w := by
  refine Con.of (own := RJ0) (cc := cJ0_charAt_5068e) (maxL := 2) (ret := (some .char)) rfl (by decide) rfl (Nat.le_of_ble_eq_true rfl) ?_
  intro p e s m args below meth c C
  show V p l e { frames := 3, cells := 0, slots := 0, locals := 64 } s m args below meth c G A 2 0 [(0, .ref (G.2.2.1 i)), (1, .int (nI k))] [] w (some (.int ((sbyt.getD i []).getD k 0))) w
  refine v_aload_n C 0 dJ0_charAt_5068e_0 rfl rfl ?_
  refine v_callX C (av := []) (rest := []) (fun H locs hS => vk_recv C.str hi hS) gJ0_charAt_5068e_J0_isLatin1_aae02 rfl ⟨rfl, rfl⟩ hV_J0_isLatin1 ⟨Nat.le_of_ble_eq_true rfl, Nat.le_of_ble_eq_true rfl⟩ (r_J0_isLatin1 hi) rfl rfl (Nat.le_of_ble_eq_true rfl) dJ0_charAt_5068e_1 ?_
  refine v_if_eq C (tgt := 16) dJ0_charAt_5068e_4 (by decide) (fun q => absurd q (by decide)) (fun _ => ?_)
  refine v_aload_n C 0 dJ0_charAt_5068e_7 rfl rfl ?_
  refine v_strGet C (C.str.1 i hi).2.2.1 (by decide +kernel) dJ0_charAt_5068e_8 ?_
  refine v_iload_n C 1 dJ0_charAt_5068e_11 rfl rfl ?_
  refine v_callSi C (av := [.ref (G.2.2.2 i), .int (nI k)]) (rest := []) gJ0_charAt_5068e_J1_charAt_3b067 rfl ⟨rfl, rfl⟩ hS_J1_charAt ⟨Nat.le_of_ble_eq_true rfl, Nat.le_of_ble_eq_true rfl⟩ (r_J1_charAt hi hk) rfl rfl (Nat.le_of_ble_eq_true rfl) dJ0_charAt_5068e_12 ?_
  exact v_zretT C dJ0_charAt_5068e_15 (st_ch i hi k hk).2
theorem strIx_e {K : Nat → Nat} {a i : Nat} (h : strIx K a = some i) : i < 5 ∧ a = K i := by
  unfold strIx at h
  split at h
  · next q => cases h; exact ⟨by decide, q⟩
  · split at h
    · next q => cases h; exact ⟨by decide, q⟩
    · split at h
      · next q => cases h; exact ⟨by decide, q⟩
      · split at h
        · next q => cases h; exact ⟨by decide, q⟩
        · split at h
          · next q => cases h; exact ⟨by decide, q⟩
          · cases h
section VT2
variable {p : Program} {l : Launch} {e : Env} {R : Room} {s : State} {m : MethodId} {args : Array Value} {below : List Frame} {meth : Method} {c : Code} {G : GG} {A : Nat → Prop} {cc : ByteArray} {nL : Nat} {own : String} {Ts : List Cond} {ret : Option FieldType}
variable {pc : Nat} {lv : List (Nat × Value)} {st : List Value} {w w' w1 : Wd} {o : Option Value} {kc ks : Nat} {Q : State → Prop}
theorem v_strLen (C : Cx p s m args meth c G A cc nL own Ts ret) {index a : Nat} {x : Int32} (rest : List Value) (hT : GoodIn Ts (wsV own index RJ0 yJ0_length_8abf5 wsJ0_length_8abf5)) (d : decode cc pc = .ok (.invokevirtual index, 3)) (h : strLen G.2.2.1 a = some x) (hf : 2 ≤ R.frames) (hlo : 40 ≤ R.locals) (hW : (rest.map fun v => v.category).sum ≤ 8) (k : VQ p l e R s m args below meth c G A nL kc ks Q (pc + 3) lv (.int x :: rest) w) (hk : kc ≤ R.cells ∧ ks ≤ R.slots := by exact ⟨Nat.zero_le _, Nat.zero_le _⟩) : VQ p l e R s m args below meth c G A nL kc ks Q pc lv (.ref a :: rest) w := by
  unfold strLen at h
  obtain ⟨i, e1, h2⟩ := bnd h
  obtain ⟨hi, rfl⟩ := strIx_e e1
  cases h2
  exact v_callX C (rm := { frames := 1, cells := 0, slots := 0, locals := 20 }) (av := []) (rest := rest) (fun H locs hS => vk_recv C.str hi hS) hT rfl ⟨rfl, rfl⟩ hV_J0_length ⟨hf, hlo⟩ (r_J0_length hi) rfl rfl hW d k hk
theorem v_strAt (C : Cx p s m args meth c G A cc nL own Ts ret) {index a : Nat} {x i0 : Int32} (rest : List Value) (hT : GoodIn Ts (wsV own index RJ0 yJ0_charAt_5068e wsJ0_charAt_5068e)) (d : decode cc pc = .ok (.invokevirtual index, 3)) (h : strAt G.2.2.1 a i0 = some x) (hf : 4 ≤ R.frames) (hlo : 85 ≤ R.locals) (hW : (rest.map fun v => v.category).sum ≤ 8) (k : VQ p l e R s m args below meth c G A nL kc ks Q (pc + 3) lv (.int x :: rest) w) (hk : kc ≤ R.cells ∧ ks ≤ R.slots := by exact ⟨Nat.zero_le _, Nat.zero_le _⟩) : VQ p l e R s m args below meth c G A nL kc ks Q pc lv (.int i0 :: .ref a :: rest) w := by
  unfold strAt at h
  obtain ⟨i, e1, h2⟩ := bnd h
  obtain ⟨hi, rfl⟩ := strIx_e e1
  split at h2
  · cases h2
  · next q =>
    cases h2
    have q' : vp_in i0 (slen.getD i 0) := q
    obtain ⟨j, hj, rfl⟩ := vp_in_of q' (st_le i hi)
    rw [nI_clamp (Nat.lt_trans hj (st_le i hi))] at k
    exact v_callX C (rm := { frames := 3, cells := 0, slots := 0, locals := 64 }) (av := [.int (nI j)]) (rest := rest) (fun H locs hS => vk_recv C.str hi hS) hT rfl ⟨rfl, rfl⟩ hV_J0_charAt ⟨hf, hlo⟩ (r_J0_charAt hi hj) rfl rfl hW d k hk
end VT2
