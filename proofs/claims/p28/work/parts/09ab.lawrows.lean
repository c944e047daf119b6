def KCon (mc ms : Nat) (l : Launch) (y : MethodName) (ws : List Cond) (rm : Room) (G : GG) (A : Nat → Prop) (av : List Value) (w : Wd) (o : Option Value) (w' : Wd) : Prop :=
  Met l y ws rm (PP G A av w) (QQ G A o w') mc ms A
section VK
variable {p : Program} {l : Launch} {e : Env} {R : Room} {s : State} {m : MethodId} {args : Array Value} {below : List Frame} {meth : Method} {c : Code} {G : GG} {A : Nat → Prop} {cc : ByteArray} {nL : Nat} {own : String} {Ts : List Cond} {ret : Option FieldType}
variable {pc : Nat} {lv : List (Nat × Value)} {st : List Value} {w w' w1 : Wd} {o : Option Value} {kc ks : Nat} {Q : State → Prop}
theorem Con.ofH {y : MethodName} {ws ws' : List Cond} {rm : Room} {av : List Value} {maxL : Nat} {hh : List (Nat × Nat × Nat × Nat)} (hown : y.cls = own) (hy : plainName y.cls = true) (hw : ws = Cond.codeWith y cc maxL ret hh :: ws') (hlen : (lg_sl av).length ≤ maxL)
    (body : ∀ (p : Program) (e : Env) (s : State) (m : MethodId) (args : Array Value) (below : List Frame) (meth : Method) (c : Code), Cx p s m args meth c G A cc maxL own ws ret → V p l e rm s m args below meth c G A maxL 0 (lv_args 0 av) [] w o w') : Con l y ws rm G A av w o w' := by
  refine Met.ofWH (cc := cc) (maxL := maxL) (ret := ret) hy hw ?_
  subst hown
  intro p e s m args below meth c s₁ B hml hv
  obtain ⟨rfl, hP, hE⟩ := hv
  have hl := lv_entry av hlen
  rw [lg_entry_eq]
  have hts := atoms_spec B.pre
  exact body p e s m _ below meth c ⟨B.exec, B.bytes, hml, findClass_of_methodNamed B.named, hts, hE, B.notSynchronized, B.returns⟩ s.heap [] _ hl hP va_S.rf
theorem KCon.of {mc ms : Nat} {y : MethodName} {ws ws' : List Cond} {rm : Room} {av : List Value} {maxL : Nat} (hown : y.cls = own) (hy : plainName y.cls = true) (hw : ws = Cond.code y cc maxL ret :: ws') (hlen : (lg_sl av).length ≤ maxL)
    (body : ∀ (p : Program) (e : Env) (s : State) (m : MethodId) (args : Array Value) (below : List Frame) (meth : Method) (c : Code), Cx p s m args meth c G A cc maxL own ws ret → VQ p l e rm s m args below meth c G A maxL 0 0 (MQ below (QQ G A o w') args s mc ms A) 0 (lv_args 0 av) [] w) : KCon mc ms l y ws rm G A av w o w' := by
  refine Met.ofW (cc := cc) (maxL := maxL) (ret := ret) hy hw ?_
  subst hown
  intro p e s m args below meth c s₁ B hml hv
  obtain ⟨rfl, hP, hE⟩ := hv
  have hl := lv_entry av hlen
  rw [lg_entry_eq]
  exact body p e s m _ below meth c ⟨B.exec, B.bytes, hml, findClass_of_methodNamed B.named, atoms_spec B.pre, hE, B.notSynchronized, B.returns⟩ s.heap [] _ hl hP va_S.rf
theorem v_zretK {k1 s1 : Nat} {v : Int32} (h1 : kc ≤ k1) (h2 : ks ≤ s1) (C : Cx p s m args meth c G A cc nL own Ts (some .boolean)) (d : decode cc pc = .ok (.ireturn, 1)) (hn : narrow .boolean (.int v) = .int v) : VQ p l e R s m args below meth c G A nL kc ks (MQ below (QQ G A (some (.int v)) w) args s k1 s1 A) pc lv [.int v] w := by
  refine v_widen h1 h2 ?_
  intro H locs ls hl hP hS
  exact W.zret C.1 C.2.1 C.2.2.2.2.2.2.2 hn (fun t ht hW => ⟨⟨rfl, by rw [ht]; exact hP⟩, hS.F ht⟩) hS.2.2 d C.2.2.2.2.2.2.1
end VK
/-! THE LAW: rows of its own: the script, calls of the wrappers, compares of longs -/
section VL
variable {p : Program} {l : Launch} {e : Env} {R : Room} {s : State} {m : MethodId} {args : Array Value} {below : List Frame} {meth : Method} {c : Code} {G : GG} {A : Nat → Prop} {cc : ByteArray} {nL : Nat} {own : String} {Ts : List Cond} {ret : Option FieldType}
variable {pc : Nat} {lv : List (Nat × Value)} {st : List Value} {w w' w1 : Wd} {o : Option Value} {kc ks : Nat} {Q : State → Prop}
theorem v_lcmp (C : Cx p s m args meth c G A cc nL own Ts ret) {x y : Int64} (d : decode cc pc = .ok (.lcmp, 1)) (k : VQ p l e R s m args below meth c G A nL kc ks Q (pc + 1) lv (.int (lg_cmp x y) :: st) w) : VQ p l e R s m args below meth c G A nL kc ks Q pc lv (.long y :: .long x :: st) w :=
  fun H locs ls hl hP hS => W.lcmp C.1 C.2.1 d (k H locs ls hl hP hS)
theorem W.vrunK {H : Heap} {locs : List Loc} {ls : Array Slot} {st0 rest : List Value} {o1 : Option Value} {a : Array Value} {mc ms : Nat} (hS : va_S A s.heap H locs) (hr : va_Run p l e R s m args below meth c H locs kc ks mc ms (F0 m pc ls st0) rest (QQ G A o1 w1 a) A)
    (kk : ∀ (H1 : Heap) (locs1 : List Loc), hd G A w1 H1 → va_S A s.heap H1 locs1 → W p l e R s m args below meth c H1 locs1 (kc + mc) (ks + ms) Q (F0 m (pc + 3) ls (o1.toList ++ rest))) : W p l e R s m args below meth c H locs kc ks Q (F0 m pc ls st0) := by
  intro T hT X
  obtain ⟨v, st₀, t, T', L, h0, X', hL, e1, e2, ⟨⟨hv, hb⟩, hz, hk⟩, st⟩ := hr T hT X
  cases hv
  rw [h0] at hz hk
  obtain ⟨t2, a1, b1⟩ := kk T'.heap (locs ++ L) (by rw [e1]; exact hb)
    ⟨Nat.le_trans hS.1 (by rw [e1]; exact hz), fun q h1 h2 => by rw [e1, hk q (Nat.lt_of_lt_of_le h1 hS.1) h2]; exact hS.2.1 q h1 h2, fun q hq => by
      rcases List.mem_append.mp hq with h | h
      · exact hS.2.2 q h
      · exact hL q h⟩ T' rfl X'
  exact ⟨t2, st t2 a1, b1⟩
theorem v_callSW (C : Cx p s m args meth c G A cc nL own Ts ret) {y : MethodName} {ws ws' : List Cond} {bytes : ByteArray} {maxL n index : Nat} {rt : Option FieldType} {hh : List (Nat × Nat × Nat × Nat)} {rm : Room} {av rest : List Value} {r1 : Int32}
    (hT : GoodIn Ts (va_wsS own index y ws)) (hw : ws = Cond.codeWith y bytes maxL rt hh :: ws') (hrm : rm.cells = 1 ∧ rm.slots = 6)
    (hd0 : y.cls ≠ "java/lang/invoke/MethodHandle" ∧ y.cls ≠ "java/lang/invoke/VarHandle" ∧ (parseMethodDescriptor y.desc).map (fun d => d.parameters.length) = some n) (hR : rm.frames + 1 ≤ R.frames ∧ 8 + (maxL + 11) + rm.locals ≤ R.locals)
    (hM : WCon l y ws rm G A av w (some (.int r1)) w1) (hn : av.length = n) (hst : st = av.reverse ++ rest) (hW : (rest.map fun v => v.category).sum ≤ 8) (d : decode cc pc = .ok (.invokestatic index, 3)) (hk : kc + 1 ≤ R.cells ∧ ks + 6 ≤ R.slots)
    (k : VQ p l e R s m args below meth c G A nL (kc + 1) (ks + 6) Q (pc + 3) lv (.int r1 :: rest) w1) : VQ p l e R s m args below meth c G A nL kc ks Q pc lv st w := by
  intro H locs ls hl hP hS
  exact W.vrunK hS (vx_runSW (As := av) (rest := rest) (n := n) ⟨C.1, C.2.1, C.2.2.1, C.2.2.2.1, C.2.2.2.2.1⟩ hM (vx_cwSW n C.2.2.2.2.1 hT hw hrm.1 hrm.2 hd0 hR) ⟨PP.blind, fun U hU hWm => ⟨rfl, by rw [hU]; exact hP, by rw [hU]; exact C.2.2.2.2.2.1.next hS hWm⟩⟩ rfl hn hl.1 hst (lv_room hW) d hk) (fun H1 locs1 h1 h2 => k H1 locs1 ls hl h1 h2)
theorem v_callSWi (C : Cx p s m args meth c G A cc nL own Ts ret) {y : MethodName} {ws ws' : List Cond} {bytes : ByteArray} {maxL n index : Nat} {rt : Option FieldType} {hh : List (Nat × Nat × Nat × Nat)} {rm : Room} {av rest : List Value} {r1 : Int32}
    (hT : GoodIn Ts (va_wsS own index y ws)) (hw : ws = Cond.codeWith y bytes maxL rt hh :: ws') (hrm : rm.cells = 0 ∧ rm.slots = 0)
    (hd0 : y.cls ≠ "java/lang/invoke/MethodHandle" ∧ y.cls ≠ "java/lang/invoke/VarHandle" ∧ (parseMethodDescriptor y.desc).map (fun d => d.parameters.length) = some n) (hR : rm.frames + 1 ≤ R.frames ∧ 8 + (maxL + 11) + rm.locals ≤ R.locals)
    (hM : Con l y ws rm G A av w (some (.int r1)) w1) (hn : av.length = n) (hst : st = av.reverse ++ rest) (hW : (rest.map fun v => v.category).sum ≤ 8) (d : decode cc pc = .ok (.invokestatic index, 3))
    (k : VQ p l e R s m args below meth c G A nL kc ks Q (pc + 3) lv (.int r1 :: rest) w1) (hk : kc ≤ R.cells ∧ ks ≤ R.slots := by exact ⟨Nat.zero_le _, Nat.zero_le _⟩) : VQ p l e R s m args below meth c G A nL kc ks Q pc lv st w := by
  intro H locs ls hl hP hS
  exact W.vrun hS (vx_runSW (As := av) (rest := rest) (n := n) ⟨C.1, C.2.1, C.2.2.1, C.2.2.2.1, C.2.2.2.2.1⟩ hM (vx_cwSW n C.2.2.2.2.1 hT hw hrm.1 hrm.2 hd0 hR) ⟨PP.blind, fun U hU hWm => ⟨rfl, by rw [hU]; exact hP, by rw [hU]; exact C.2.2.2.2.2.1.next hS hWm⟩⟩ rfl hn hl.1 hst (lv_room hW) d hk) (fun H1 locs1 h1 h2 => k H1 locs1 ls hl h1 h2)
theorem v_callSK (C : Cx p s m args meth c G A cc nL own Ts ret) {y : MethodName} {ws ws' : List Cond} {bytes : ByteArray} {maxL n index mc ms : Nat} {rt : Option FieldType} {rm : Room} {av rest : List Value} {r1 : Int32}
    (hT : GoodIn Ts (va_wsS own index y ws)) (hw : ws = Cond.code y bytes maxL rt :: ws') (hrm : rm.cells = mc ∧ rm.slots = ms)
    (hd0 : y.cls ≠ "java/lang/invoke/MethodHandle" ∧ y.cls ≠ "java/lang/invoke/VarHandle" ∧ (parseMethodDescriptor y.desc).map (fun d => d.parameters.length) = some n) (hR : rm.frames + 1 ≤ R.frames ∧ 8 + (maxL + 11) + rm.locals ≤ R.locals)
    (hM : KCon mc ms l y ws rm G A av w (some (.int r1)) w1) (hn : av.length = n) (hst : st = av.reverse ++ rest) (hW : (rest.map fun v => v.category).sum ≤ 8) (d : decode cc pc = .ok (.invokestatic index, 3)) (hk : kc + mc ≤ R.cells ∧ ks + ms ≤ R.slots)
    (k : VQ p l e R s m args below meth c G A nL (kc + mc) (ks + ms) Q (pc + 3) lv (.int r1 :: rest) w1) : VQ p l e R s m args below meth c G A nL kc ks Q pc lv st w := by
  intro H locs ls hl hP hS
  exact W.vrunK hS (va_runS (As := av) (rest := rest) (n := n) ⟨C.1, C.2.1, C.2.2.1, C.2.2.2.1, C.2.2.2.2.1⟩ hM (va_cwS n C.2.2.2.2.1 hT hw hrm.1 hrm.2 hd0 hR) ⟨PP.blind, fun U hU hWm => ⟨rfl, by rw [hU]; exact hP, by rw [hU]; exact C.2.2.2.2.2.1.next hS hWm⟩⟩ rfl hn hl.1 hst (lv_room hW) d hk) (fun H1 locs1 h1 h2 => k H1 locs1 ls hl h1 h2)
end VL
