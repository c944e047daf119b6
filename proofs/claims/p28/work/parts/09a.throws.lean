/-! THROWS: what throwIf throws, and its way through the methods that call it -/
def XQ (G : GG) (A : Nat → Prop) (w : Wd) (E : String) : String → State → State → Prop := fun E' st t => E' = E ∧ hd G A w t.heap ∧ va_F A st t
def XCon (l : Launch) (y : MethodName) (ws : List Cond) (rm : Room) (G : GG) (A : Nat → Prop) (av : List Value) (w : Wd) (E : String) : Prop :=
  vx_Met l y ws rm (PP G A av w) (fun _ _ _ _ => False) (XQ G A w E) 1 6 A
def WCon (l : Launch) (y : MethodName) (ws : List Cond) (rm : Room) (G : GG) (A : Nat → Prop) (av : List Value) (w : Wd) (o : Option Value) (w' : Wd) : Prop :=
  Met l y ws rm (PP G A av w) (QQ G A o w') 1 6 A
def EX (z : Int32) (E : String) : Prop := (z = 1 ∧ E = eI) ∨ (z = 2 ∧ E = eA) ∨ (z = 3 ∧ E = eS)
theorem Met.ofWH {l : Launch} {y : MethodName} {ws ws' : List Cond} {rm : Room} {Pc : Array Value → State → Prop} {Qc : Array Value → State → Outcome → State → Prop} {mc ms : Nat} {free : Addr → Prop} {cc : ByteArray} {maxL : Nat} {ret : Option FieldType} {hh : List (Nat × Nat × Nat × Nat)}
    (hy : plainName y.cls = true) (hw : ws = Cond.codeWith y cc maxL ret hh :: ws')
    (body : ∀ p e s m args below meth c s₁, BodyLoose p l y (headSpec ws rm) cc maxL ret e s m args below meth c s₁ → c.maxLocals = maxL → Pc args s →
      W p l e (headSpec ws rm).room s m args below meth c s.heap [] 0 0 (MQ below Qc args s mc ms free) (entryFrame m args maxL)) : Met l y ws rm Pc Qc mc ms free := by
  refine MetFree.of_bodyS (code := cc) (maxLocals := maxL) (ret := ret) hy ?_ ?_
  · intro args s m h hn
    obtain ⟨m9, meth, c, hn9, h1, h2, h3, h4, -, h5, h6, -⟩ := Cond.codeWith_spec (atoms_spec (ws := ws) h _ (by rw [hw]; exact List.mem_cons_self))
    cases hn.symm.trans hn9
    exact ⟨meth, c, h1, h2, h3, h4, h5, h6⟩
  · intro p e s m args below meth c s₁ B hml hP _
    have hh0 : s₁.heap = s.heap := by rw [B.state]; rfl
    obtain ⟨t, a1, o, b1, b2, b3⟩ := body p e s m args below meth c s₁ B hml hP s₁ hh0 (Stand.of_body B)
    exact ⟨t, o, a1, b1, b2, ⟨b3.1, b3.2⟩⟩
section VX
variable {p : Program} {l : Launch} {e : Env} {R : Room} {s : State} {m : MethodId} {args : Array Value} {below : List Frame} {meth : Method} {c : Code} {G : GG} {A : Nat → Prop} {cc : ByteArray} {nL : Nat} {own : String} {Ts : List Cond} {ret : Option FieldType}
variable {pc : Nat} {lv : List (Nat × Value)} {st : List Value} {w w' w1 : Wd} {o : Option Value} {kc ks : Nat} {Q : State → Prop}
theorem XCon.of {y : MethodName} {ws ws' : List Cond} {rm : Room} {av : List Value} {maxL : Nat} {E : String} (hown : y.cls = own) (hy : plainName y.cls = true) (hw : ws = Cond.code y cc maxL ret :: ws') (hlen : (lg_sl av).length ≤ maxL)
    (body : ∀ (p : Program) (e : Env) (s : State) (m : MethodId) (args : Array Value) (below : List Frame) (meth : Method) (c : Code), Cx p s m args meth c G A cc maxL own ws ret → (∀ x ∈ c.exceptionTable.toList, False) → VQ p l e rm s m args below meth c G A maxL 0 0 (vx_MQ below (fun _ _ _ _ => False) (XQ G A w E) args s 1 6 A) 0 (lv_args 0 av) [] w) : XCon l y ws rm G A av w E := by
  refine vx_ofW (cc := cc) (maxL := maxL) (ret := ret) hy hw ?_
  subst hown
  intro p e s m args below meth c s₁ B hml hT hv
  obtain ⟨rfl, hP, hE⟩ := hv
  have hl := lv_entry av hlen
  rw [lg_entry_eq]
  exact body p e s m _ below meth c ⟨B.exec, B.bytes, hml, findClass_of_methodNamed B.named, atoms_spec B.pre, hE, B.notSynchronized, B.returns⟩ hT s.heap [] _ hl hP va_S.rf
theorem WCon.of {y : MethodName} {ws ws' : List Cond} {rm : Room} {av : List Value} {maxL : Nat} {hh : List (Nat × Nat × Nat × Nat)} (hown : y.cls = own) (hy : plainName y.cls = true) (hw : ws = Cond.codeWith y cc maxL ret hh :: ws') (hlen : (lg_sl av).length ≤ maxL)
    (body : ∀ (p : Program) (e : Env) (s : State) (m : MethodId) (args : Array Value) (below : List Frame) (meth : Method) (c : Code), Cx p s m args meth c G A cc maxL own ws ret → c.exceptionTable.toList = tableOf hh → VQ p l e rm s m args below meth c G A maxL 0 0 (MQ below (QQ G A o w') args s 1 6 A) 0 (lv_args 0 av) [] w) : WCon l y ws rm G A av w o w' := by
  refine Met.ofWH (cc := cc) (maxL := maxL) (ret := ret) hy hw ?_
  subst hown
  intro p e s m args below meth c s₁ B hml hv
  obtain ⟨rfl, hP, hE⟩ := hv
  have hl := lv_entry av hlen
  rw [lg_entry_eq]
  have hts := atoms_spec B.pre
  exact body p e s m _ below meth c ⟨B.exec, B.bytes, hml, findClass_of_methodNamed B.named, hts, hE, B.notSynchronized, B.returns⟩ (vx_table (x := y) B (hts _ (by rw [hw]; exact List.mem_cons_self))) s.heap [] _ hl hP va_S.rf
theorem v_widen {k1 s1 : Nat} (h1 : kc ≤ k1) (h2 : ks ≤ s1) (k : VQ p l e R s m args below meth c G A nL k1 s1 Q pc lv st w) : VQ p l e R s m args below meth c G A nL kc ks Q pc lv st w :=
  fun H locs ls hl hP hS => W.widen (k := k1) (n := s1) h1 h2 (k H locs ls hl hP hS)
theorem v_iretW {v : Int32} (C : Cx p s m args meth c G A cc nL own Ts (some .int)) (d : decode cc pc = .ok (.ireturn, 1)) : VQ p l e R s m args below meth c G A nL kc ks (MQ below (QQ G A (some (.int v)) w) args s kc ks A) pc lv [.int v] w := by
  intro H locs ls hl hP hS
  exact W.iret C.1 C.2.1 C.2.2.2.2.2.2.2 (fun t ht hW => ⟨⟨rfl, by rw [ht]; exact hP⟩, hS.F ht⟩) hS.2.2 d C.2.2.2.2.2.2.1
/-- a call that throws, in a method that doesn't catch -/
theorem xv_callS (C : Cx p s m args meth c G A cc nL own Ts ret) (hT0 : ∀ x ∈ c.exceptionTable.toList, False) {y : MethodName} {ws ws' : List Cond} {bytes : ByteArray} {maxL n index : Nat} {rt : Option FieldType} {rm : Room} {av rest : List Value} {E : String}
    (hT : GoodIn Ts (va_wsS own index y ws)) (hw : ws = Cond.code y bytes maxL rt :: ws') (hrm : rm.cells = 1 ∧ rm.slots = 6)
    (hd0 : y.cls ≠ "java/lang/invoke/MethodHandle" ∧ y.cls ≠ "java/lang/invoke/VarHandle" ∧ (parseMethodDescriptor y.desc).map (fun d => d.parameters.length) = some n) (hR : rm.frames + 1 ≤ R.frames ∧ 8 + (maxL + 11) + rm.locals ≤ R.locals) (hRc : 1 ≤ R.cells ∧ 6 ≤ R.slots)
    (hM : XCon l y ws rm G A av w E) (hn : av.length = n) (hst : st = av.reverse ++ rest) (hW : (rest.map fun v => v.category).sum ≤ 8) (d : decode cc pc = .ok (.invokestatic index, 3)) :
    VQ p l e R s m args below meth c G A nL 0 0 (vx_MQ below (fun _ _ _ _ => False) (XQ G A w E) args s 1 6 A) pc lv st w := by
  intro H locs ls hl hP hS T hT1 X
  have hr := vx_runS (e := e) (meth := meth) (cells := 0) (slots := 0) (locs := locs) (below := below) (As := av) (rest := rest) (n := n) (g := F0 m pc ls st) ⟨C.1, C.2.1, C.2.2.1, C.2.2.2.1, C.2.2.2.2.1⟩ hM (va_cwS n C.2.2.2.2.1 hT hw hrm.1 hrm.2 hd0 hR) ⟨PP.blind, fun U hU hWm => ⟨rfl, by rw [hU]; exact hP, by rw [hU]; exact C.2.2.2.2.2.1.next hS hWm⟩⟩ rfl hn hl.1 hst (lv_room hW) d ⟨by rw [Nat.zero_add]; exact hRc.1, by rw [Nat.zero_add]; exact hRc.2⟩
  rcases hr T hT1 X with ⟨v, st₀, t, T', L, h0, X', hL, e1, e2, hq, st1⟩ | ⟨q, st₀, t, T', L, E', ce, h0, X', hL, e1, e2, ⟨rfl, hh, hz, hk⟩, hce, hcv, hcl, st1⟩
  · exact hq.elim
  · rw [h0] at hz hk
    have hS1 : va_S A s.heap T'.heap (locs ++ L) := ⟨Nat.le_trans hS.1 (by rw [e1]; exact hz), fun q h1 h2 => by rw [e1, hk q (Nat.lt_of_lt_of_le h1 hS.1) h2]; exact hS.2.1 q h1 h2, fun q hq => by
      rcases List.mem_append.mp hq with h | h
      · exact hS.2.2 q h
      · exact hL q h⟩
    obtain ⟨t2, a1, b1⟩ := vx_out (Qc := fun _ _ _ _ => False) (XC := XQ G A w E') (rest := rest) (pc := pc) (ls := ls) (mc := 1) (ms := 6) (free := A) (H := T'.heap) (locs := locs ++ L) (cells := 0 + 1) (slots := 0 + 6) (fun x hx => (hT0 x hx).elim) C.2.2.2.2.2.2.1 (by rw [e1]; exact hce) hcv hcl (fun t' ht' hal => ⟨rfl, by rw [ht', e1]; exact hh, hS1.F ht'⟩) hS1.2.2 (by decide) (by decide) T' rfl X'
    exact ⟨t2, st1.trans a1, b1⟩
/-- a call that throws, caught -/
theorem xw_callV (C : Cx p s m args meth c G A cc nL own Ts ret) {y : MethodName} {ws ws' : List Cond} {bytes : ByteArray} {maxL n index ci b : Nat} {K : String} {T : u_T} {N : Nat} {rt : Option FieldType} {rm : Room} {av rest : List Value} {E name : String} {u : Unit}
    (pre : List ExceptionTableEntry) (x : ExceptionTableEntry) (suf : List ExceptionTableEntry) (hsplit : c.exceptionTable.toList = pre ++ x :: suf)
    (hpass : ∀ z ∈ pre, covers z pc = false ∨ (z.catchType ≠ 0 ∧ ∃ nm : String, (Cond.classLink own z.catchType nm).before args s = true ∧ va_Nc E nm s)) (hx : covers x pc = true) (h0 : x.catchType ≠ 0)
    (hlink : Cond.classLink own x.catchType name ∈ Ts) (hcast : va_Nw (.castable E name) s)
    (hc : vwCl[ci]? = some (K, T, N)) (hT : GoodIn Ts (wsV own index K y ws)) (hw : ws = Cond.code y bytes maxL rt :: ws') (hrm : rm.cells = 1 ∧ rm.slots = 6)
    (hd0 : y.cls = K ∧ y.cls ≠ "java/lang/invoke/MethodHandle" ∧ y.cls ≠ "java/lang/invoke/VarHandle" ∧ (parseMethodDescriptor y.desc).map (fun d => d.parameters.length) = some n) (hR : rm.frames + 1 ≤ R.frames ∧ 8 + (maxL + 11) + rm.locals ≤ R.locals) (hRc : 1 ≤ R.cells ∧ 6 ≤ R.slots)
    (hb : chk ci w b = some u) (hM : XCon l y ws rm G A (.ref b :: av) w E) (hn : av.length = n) (hst : st = av.reverse ++ .ref b :: rest) (hW : (rest.map fun v => v.category).sum ≤ 8) (d : decode cc pc = .ok (.invokevirtual index, 3))
    (k : ∀ q : Nat, VQ p l e R s m args below meth c G A nL 1 6 Q x.handlerPc lv [.ref q] w) : VQ p l e R s m args below meth c G A nL 0 0 Q pc lv st w := by
  intro H locs ls hl hP hS T1 hT1 X
  obtain ⟨fs, e0⟩ := chk_e hb
  have hP1 : va_P G.1 vwCl [(b, .inr (ci, fs))] H := hP.one e0
  have hr := vx_runV (e := e) (meth := meth) (cells := 0) (slots := 0) (locs := locs) (below := below) (C := K) (As := av) (rest := rest) (n := n) (g := F0 m pc ls st) ⟨C.1, C.2.1, C.2.2.1, C.2.2.2.1, C.2.2.2.2.1⟩ hM (cwV n C.2.2.2.2.1 hT hw hrm.1 hrm.2 hd0 hR) ⟨PP.blind, va_recv C.2.2.2.2.2.1.1 hP1 hc (q0 := 0) rfl, fun U hU hWm => ⟨rfl, by rw [hU]; exact hP, by rw [hU]; exact C.2.2.2.2.2.1.next hS hWm⟩⟩ rfl hn hl.1 hst (lv_room hW) d ⟨by rw [Nat.zero_add]; exact hRc.1, by rw [Nat.zero_add]; exact hRc.2⟩
  rcases hr T1 hT1 X with ⟨v, st₀, t, T', L, h0, X', hL, e1, e2, hq, st1⟩ | ⟨q, st₀, t, T', L, E', ce, h0', X', hL, e1, e2, ⟨rfl, hh, hz, hk⟩, hce, hcv, hcl, st1⟩
  · exact hq.elim
  · rw [h0'] at hz hk
    have hS1 : va_S A s.heap T'.heap (locs ++ L) := ⟨Nat.le_trans hS.1 (by rw [e1]; exact hz), fun q h1 h2 => by rw [e1, hk q (Nat.lt_of_lt_of_le h1 hS.1) h2]; exact hS.2.1 q h1 h2, fun q hq => by
      rcases List.mem_append.mp hq with h | h
      · exact hS.2.2 q h
      · exact hL q h⟩
    obtain ⟨t2, a1, b1⟩ := vx_catch (H := T'.heap) (locs := locs ++ L) (cells := 0 + 1) (slots := 0 + 6) (rest := rest) (pc := pc) (ls := ls) (Q := Q) C.2.2.2.1 pre x suf hsplit hpass hx h0 (C.2.2.2.2.1 _ hlink) (hcast.use rfl) (by rw [e1]; exact hce) hcv hcl (k q T'.heap (locs ++ L) ls hl (by rw [e1]; exact hh) hS1) T' rfl X'
    exact ⟨t2, st1.trans a1, b1⟩
end VX
theorem Cx.xe {p : Program} {s : State} {m : MethodId} {args : Array Value} {meth : Method} {c : Code} {G : GG} {A : Nat → Prop} {cc : ByteArray} {nL : Nat} {own : String} {Ts : List Cond} {ret : Option FieldType} (C : Cx p s m args meth c G A cc nL own Ts ret) : XE s := C.2.2.2.2.2.1.2.2.2.2.2.2.2
theorem xt_good1 : ∀ w ∈ Cond.classLink RX6 311 eI :: Cond.initialized eI :: (vx_atS RX6 315 eI ["java/lang/RuntimeException", "java/lang/Exception"]), vx_ot w = true := by decide +kernel
theorem xt_rest1 : ∀ w ∈ (vx_atS RX6 315 eI ["java/lang/RuntimeException", "java/lang/Exception"]).filter (fun w => !goodWord w), w ∈ [Cond.declares (Bundle.initS "java/lang/RuntimeException"), Cond.declares (Bundle.initS "java/lang/Exception"), Cond.declares (Bundle.initS Bundle.tN), Cond.castable eI eI] := by decide +kernel
theorem xt_l1 : Cond.classLink RX6 311 eI ∈ wsX6_throwIf := by decide +kernel
theorem xt_i1 : Cond.initialized eI ∈ wsX6_throwIf := by decide +kernel
theorem xt_f1 : Bundle.fit eI = true ∧ ∀ n ∈ ["java/lang/RuntimeException", "java/lang/Exception"], Bundle.fit n = true := by decide +kernel
set_option maxRecDepth 100000 in
set_option maxHeartbeats 4000000 in
theorem x_X6_throwIf1 {l : Launch} (hst : l.stackTraces = false) {G : GG} {A : Nat → Prop} {w : Wd} : XCon l yX6_throwIf wsX6_throwIf { frames := 6, cells := 1, slots := 6, locals := 82 } G A [.int 1] w eI := by
  refine XCon.of (own := RX6) (cc := cX6_throwIf) (maxL := 1) (ret := none) rfl (by decide) rfl (Nat.le_of_ble_eq_true rfl) ?_
  intro p e s m args below meth c C hT0
  show VQ p l e _ s m args below meth c G A 1 0 0 _ 0 [(0, .int 1)] [] w
  refine v_iload_n C 0 dX6_throwIf_0 rfl rfl ?_
  refine v_iconst C (v := 1) dX6_throwIf_1 (by decide) ?_
  refine v_icmp_ne C (tgt := 16) dX6_throwIf_2 (by decide) (fun q => absurd rfl q) (fun _ => ?_)
  refine v_at (pc' := 5) rfl ?_
  intro H locs ls hl hP hS
  obtain ⟨sa, hsa⟩ := C.2.2.2.2.2.1.2.2.2.2.1
  have hat : ∀ w ∈ (vx_atS RX6 315 eI ["java/lang/RuntimeException", "java/lang/Exception"]), w.before args s = true := vx_hat (fun w h => C.2.2.2.2.1 w (List.mem_cons_of_mem _ (List.mem_append_left _ (List.mem_append_left _ (List.mem_append_right _ h))))) xt_rest1 (vx_c (C.xe.1.1.use rfl) (vx_c (C.xe.1.2.1.use rfl) (vx_c (C.xe.1.2.2.use rfl) (vx_c (C.xe.2.1.1.use rfl) vx_n))))
  exact vx_throwSW C.1 C.2.1 hst C.2.2.2.1 xt_f1.1 xt_f1.2 (C.2.2.2.2.1 _ xt_l1) (C.2.2.2.2.1 _ xt_i1) hsa hat xt_good1 C.2.2.2.2.2.1.2.2.1.2.1 C.2.2.2.2.2.1.2.2.1.2.2.1 hS (hl.1.trans C.2.2.1.symm) dX6_throwIf_5 dX6_throwIf_8 dX6_throwIf_9 dX6_throwIf_12 dX6_throwIf_15 (fun x hx => (hT0 x hx).elim) (Nat.le_of_ble_eq_true rfl) (Nat.le_of_ble_eq_true rfl) (Nat.le_of_ble_eq_true rfl) (Nat.le_of_ble_eq_true rfl) C.2.2.2.2.2.2.1 (fun t ht h1 h2 => ⟨rfl, fun a x hx => ⟨(hP a x hx).1, (hP a x hx).2.kept (h2 _ (hP a x hx).2.lt)⟩, Nat.le_trans hS.1 h1, fun q hq hn => (h2 q (Nat.lt_of_lt_of_le hq hS.1)).trans (hS.2.1 q hq hn)⟩) hS.2.2 (by decide) (by decide)
theorem xt_good2 : ∀ w ∈ Cond.classLink RX6 318 eA :: Cond.initialized eA :: (vx_atS RX6 322 eA ["java/lang/RuntimeException", "java/lang/Exception"]), vx_ot w = true := by decide +kernel
theorem xt_rest2 : ∀ w ∈ (vx_atS RX6 322 eA ["java/lang/RuntimeException", "java/lang/Exception"]).filter (fun w => !goodWord w), w ∈ [Cond.declares (Bundle.initS "java/lang/RuntimeException"), Cond.declares (Bundle.initS "java/lang/Exception"), Cond.declares (Bundle.initS Bundle.tN), Cond.castable eA eA] := by decide +kernel
theorem xt_l2 : Cond.classLink RX6 318 eA ∈ wsX6_throwIf := by decide +kernel
theorem xt_i2 : Cond.initialized eA ∈ wsX6_throwIf := by decide +kernel
theorem xt_f2 : Bundle.fit eA = true ∧ ∀ n ∈ ["java/lang/RuntimeException", "java/lang/Exception"], Bundle.fit n = true := by decide +kernel
set_option maxRecDepth 100000 in
set_option maxHeartbeats 4000000 in
theorem x_X6_throwIf2 {l : Launch} (hst : l.stackTraces = false) {G : GG} {A : Nat → Prop} {w : Wd} : XCon l yX6_throwIf wsX6_throwIf { frames := 6, cells := 1, slots := 6, locals := 82 } G A [.int 2] w eA := by
  refine XCon.of (own := RX6) (cc := cX6_throwIf) (maxL := 1) (ret := none) rfl (by decide) rfl (Nat.le_of_ble_eq_true rfl) ?_
  intro p e s m args below meth c C hT0
  show VQ p l e _ s m args below meth c G A 1 0 0 _ 0 [(0, .int 2)] [] w
  refine v_iload_n C 0 dX6_throwIf_0 rfl rfl ?_
  refine v_iconst C (v := 1) dX6_throwIf_1 (by decide) ?_
  refine v_icmp_ne C (tgt := 16) dX6_throwIf_2 (by decide) (fun _ => ?_) (fun q => absurd q (by decide))
  refine v_iload_n C 0 dX6_throwIf_16 rfl rfl ?_
  refine v_iconst C (v := 2) dX6_throwIf_17 (by decide) ?_
  refine v_icmp_ne C (tgt := 32) dX6_throwIf_18 (by decide) (fun q => absurd rfl q) (fun _ => ?_)
  refine v_at (pc' := 21) rfl ?_
  intro H locs ls hl hP hS
  obtain ⟨sa, hsa⟩ := C.2.2.2.2.2.1.2.2.2.2.2.1
  have hat : ∀ w ∈ (vx_atS RX6 322 eA ["java/lang/RuntimeException", "java/lang/Exception"]), w.before args s = true := vx_hat (fun w h => C.2.2.2.2.1 w (List.mem_cons_of_mem _ (List.mem_append_left _ (List.mem_append_right _ h)))) xt_rest2 (vx_c (C.xe.1.1.use rfl) (vx_c (C.xe.1.2.1.use rfl) (vx_c (C.xe.1.2.2.use rfl) (vx_c (C.xe.2.1.2.1.use rfl) vx_n))))
  exact vx_throwSW C.1 C.2.1 hst C.2.2.2.1 xt_f2.1 xt_f2.2 (C.2.2.2.2.1 _ xt_l2) (C.2.2.2.2.1 _ xt_i2) hsa hat xt_good2 C.2.2.2.2.2.1.2.2.1.2.1 C.2.2.2.2.2.1.2.2.1.2.2.1 hS (hl.1.trans C.2.2.1.symm) dX6_throwIf_21 dX6_throwIf_24 dX6_throwIf_25 dX6_throwIf_28 dX6_throwIf_31 (fun x hx => (hT0 x hx).elim) (Nat.le_of_ble_eq_true rfl) (Nat.le_of_ble_eq_true rfl) (Nat.le_of_ble_eq_true rfl) (Nat.le_of_ble_eq_true rfl) C.2.2.2.2.2.2.1 (fun t ht h1 h2 => ⟨rfl, fun a x hx => ⟨(hP a x hx).1, (hP a x hx).2.kept (h2 _ (hP a x hx).2.lt)⟩, Nat.le_trans hS.1 h1, fun q hq hn => (h2 q (Nat.lt_of_lt_of_le hq hS.1)).trans (hS.2.1 q hq hn)⟩) hS.2.2 (by decide) (by decide)
theorem xt_good3 : ∀ w ∈ Cond.classLink RX6 323 eS :: Cond.initialized eS :: (vx_atS RX6 327 eS ["java/lang/RuntimeException", "java/lang/Exception"]), vx_ot w = true := by decide +kernel
theorem xt_rest3 : ∀ w ∈ (vx_atS RX6 327 eS ["java/lang/RuntimeException", "java/lang/Exception"]).filter (fun w => !goodWord w), w ∈ [Cond.declares (Bundle.initS "java/lang/RuntimeException"), Cond.declares (Bundle.initS "java/lang/Exception"), Cond.declares (Bundle.initS Bundle.tN), Cond.castable eS eS] := by decide +kernel
theorem xt_l3 : Cond.classLink RX6 323 eS ∈ wsX6_throwIf := by decide +kernel
theorem xt_i3 : Cond.initialized eS ∈ wsX6_throwIf := by decide +kernel
theorem xt_f3 : Bundle.fit eS = true ∧ ∀ n ∈ ["java/lang/RuntimeException", "java/lang/Exception"], Bundle.fit n = true := by decide +kernel
set_option maxRecDepth 100000 in
set_option maxHeartbeats 4000000 in
theorem x_X6_throwIf3 {l : Launch} (hst : l.stackTraces = false) {G : GG} {A : Nat → Prop} {w : Wd} : XCon l yX6_throwIf wsX6_throwIf { frames := 6, cells := 1, slots := 6, locals := 82 } G A [.int 3] w eS := by
  refine XCon.of (own := RX6) (cc := cX6_throwIf) (maxL := 1) (ret := none) rfl (by decide) rfl (Nat.le_of_ble_eq_true rfl) ?_
  intro p e s m args below meth c C hT0
  show VQ p l e _ s m args below meth c G A 1 0 0 _ 0 [(0, .int 3)] [] w
  refine v_iload_n C 0 dX6_throwIf_0 rfl rfl ?_
  refine v_iconst C (v := 1) dX6_throwIf_1 (by decide) ?_
  refine v_icmp_ne C (tgt := 16) dX6_throwIf_2 (by decide) (fun _ => ?_) (fun q => absurd q (by decide))
  refine v_iload_n C 0 dX6_throwIf_16 rfl rfl ?_
  refine v_iconst C (v := 2) dX6_throwIf_17 (by decide) ?_
  refine v_icmp_ne C (tgt := 32) dX6_throwIf_18 (by decide) (fun _ => ?_) (fun q => absurd q (by decide))
  refine v_iload_n C 0 dX6_throwIf_32 rfl rfl ?_
  refine v_iconst C (v := 3) dX6_throwIf_33 (by decide) ?_
  refine v_icmp_ne C (tgt := 48) dX6_throwIf_34 (by decide) (fun q => absurd rfl q) (fun _ => ?_)
  refine v_at (pc' := 37) rfl ?_
  intro H locs ls hl hP hS
  obtain ⟨sa, hsa⟩ := C.2.2.2.2.2.1.2.2.2.2.2.2.1
  have hat : ∀ w ∈ (vx_atS RX6 327 eS ["java/lang/RuntimeException", "java/lang/Exception"]), w.before args s = true := vx_hat (fun w h => C.2.2.2.2.1 w (List.mem_cons_of_mem _ (List.mem_append_right _ h))) xt_rest3 (vx_c (C.xe.1.1.use rfl) (vx_c (C.xe.1.2.1.use rfl) (vx_c (C.xe.1.2.2.use rfl) (vx_c (C.xe.2.1.2.2.use rfl) vx_n))))
  exact vx_throwSW C.1 C.2.1 hst C.2.2.2.1 xt_f3.1 xt_f3.2 (C.2.2.2.2.1 _ xt_l3) (C.2.2.2.2.1 _ xt_i3) hsa hat xt_good3 C.2.2.2.2.2.1.2.2.1.2.1 C.2.2.2.2.2.1.2.2.1.2.2.1 hS (hl.1.trans C.2.2.1.symm) dX6_throwIf_37 dX6_throwIf_40 dX6_throwIf_41 dX6_throwIf_44 dX6_throwIf_47 (fun x hx => (hT0 x hx).elim) (Nat.le_of_ble_eq_true rfl) (Nat.le_of_ble_eq_true rfl) (Nat.le_of_ble_eq_true rfl) (Nat.le_of_ble_eq_true rfl) C.2.2.2.2.2.2.1 (fun t ht h1 h2 => ⟨rfl, fun a x hx => ⟨(hP a x hx).1, (hP a x hx).2.kept (h2 _ (hP a x hx).2.lt)⟩, Nat.le_trans hS.1 h1, fun q hq hn => (h2 q (Nat.lt_of_lt_of_le hq hS.1)).trans (hS.2.1 q hq hn)⟩) hS.2.2 (by decide) (by decide)
theorem x_X6_throwIf {l : Launch} (hst : l.stackTraces = false) {G : GG} {A : Nat → Prop} {w : Wd} {z : Int32} {E : String} (h : EX z E) : XCon l yX6_throwIf wsX6_throwIf { frames := 6, cells := 1, slots := 6, locals := 82 } G A [.int z] w E := by
  rcases h with ⟨rfl, rfl⟩ | ⟨rfl, rfl⟩ | ⟨rfl, rfl⟩
  · exact x_X6_throwIf1 hst
  · exact x_X6_throwIf2 hst
  · exact x_X6_throwIf3 hst
