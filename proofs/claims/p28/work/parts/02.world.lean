/-! THE WORLD BY ADDRESSES: a partial map from addresses to cells; what a heap holds of it; a method's walk over it. -/
abbrev Cel : Type := (Nat × vp_A) ⊕ (Nat × List Value)
abbrev Wd : Type := Nat → Option Cel
abbrev GG : Type := va_G × (Nat → ClassId) × (Nat → Nat) × (Nat → Nat)
def kty : Nat → FieldType := fun k => match k with
  | 0 => .int
  | 1 => .boolean
  | 2 => .int
  | 3 => .object "SkipQuadtree$Level"
  | _ => .object "SkipQuadtree$State"
def atys (f : Nat → ClassId) : List (ClassId × FieldType) := [(f 0, kty 0), (f 1, kty 1), (f 2, kty 2), (f 3, kty 3), (f 4, kty 4)]
def trc (f : Nat → ClassId) (c : Cel) : va_E := match c with
  | .inl q => .inl (f q.1, q.2)
  | .inr o => .inr o
def hd (G : GG) (A : Nat → Prop) (w : Wd) (H : Heap) : Prop := ∀ a c, w a = some c → A a ∧ va_at G.1 vwCl (a, trc G.2.1 c) H
def wup (w : Wd) (a : Nat) (c : Cel) : Wd := fun b => if b = a then some c else w b
theorem wup_self {w : Wd} {a : Nat} {c : Cel} : wup w a c a = some c := by simp [wup]
theorem wup_ne {w : Wd} {a b : Nat} {c : Cel} (h : b ≠ a) : wup w a c b = w b := by simp [wup, h]
abbrev eI : String := "java/lang/IndexOutOfBoundsException"
abbrev eA : String := "java/lang/IllegalArgumentException"
abbrev eS : String := "java/lang/IllegalStateException"
/-- what the tables say of the exceptions -/
def XE (U : State) : Prop := (va_Nw (.declares (Bundle.initS "java/lang/RuntimeException")) U ∧ va_Nw (.declares (Bundle.initS "java/lang/Exception")) U ∧ va_Nw (.declares (Bundle.initS Bundle.tN)) U) ∧ (va_Nw (.castable eI eI) U ∧ va_Nw (.castable eA eA) U ∧ va_Nw (.castable eS eS) U) ∧ va_Nc eA eI U ∧ va_Nc eS eI U ∧ va_Nc eS eA U
theorem XE.same {u U : State} (h : u.vm = U.vm) (q : XE u) : XE U := by
  have ha : u.vm.Alike U.vm := by rw [h]; exact Vm.Alike.refl _
  exact ⟨⟨q.1.1.same rfl h, q.1.2.1.same rfl h, q.1.2.2.same rfl h⟩, ⟨q.2.1.1.same rfl h, q.2.1.2.1.same rfl h, q.2.1.2.2.same rfl h⟩, q.2.2.1.moved ha, q.2.2.2.1.moved ha, q.2.2.2.2.moved ha⟩
theorem XE.warm {s U : State} (h : s.WarmedH U.vm) (q : XE s) : XE U := ⟨⟨q.1.1.warmD h, q.1.2.1.warmD h, q.1.2.2.warmD h⟩, ⟨q.2.1.1.warmC h, q.2.1.2.1.warmC h, q.2.1.2.2.warmC h⟩, q.2.2.1.moved h.alike, q.2.2.2.1.moved h.alike, q.2.2.2.2.moved h.alike⟩
/-- the texts, and the statics that a throw asks for -/
def StF (G : GG) (A : Nat → Prop) (U : State) (H : Heap) : Prop :=
  (True ∧ vx_Zq Bundle.tN "UNASSIGNED_STACK" Bundle.steD A U H ∧ vx_Zq Bundle.tN "SUPPRESSED_SENTINEL" Bundle.listD A U H ∧ True ∧ True) ∧
  True ∧
  (∃ q, vk_R RX6 313 "there is no such point, level, node or cursor" q U) ∧ (∃ q, vk_R RX6 320 "an argument is out of range" q U) ∧ (∃ q, vk_R RX6 325 "this call is not possible now" q U) ∧ XE U
/-- the nest mates' links -/
def NE (U : State) : Prop := va_Nw (.methodLinkNest RX0 29 yX6_heightOf "SkipQuadtree") U ∧ va_Nw (.methodLinkNest RX0 29 yX6_heightOf "SkipQuadtree") U ∧ va_Nw (.methodLinkNest RX3 41 yX6_distance "SkipQuadtree") U ∧ va_Nw (.methodLinkNest RX4 45 yX6_distance "SkipQuadtree") U ∧ va_Nw (.methodLinkNest RX0 21 yX1_init "SkipQuadtree") U ∧ va_Nw (.methodLinkNest RX6 25 yX2_init "SkipQuadtree") U ∧ va_AO "SkipQuadtree$Level" U ∧ va_AO "SkipQuadtree$State" U
theorem NE.same {u U : State} (h : u.vm = U.vm) (q : NE u) : NE U := ⟨q.1.same rfl h, q.2.1.same rfl h, q.2.2.1.same rfl h, q.2.2.2.1.same rfl h, q.2.2.2.2.1.same rfl h, q.2.2.2.2.2.1.same rfl h, q.2.2.2.2.2.2.1.moved (by rw [h]; exact Vm.Alike.refl _), q.2.2.2.2.2.2.2.moved (by rw [h]; exact Vm.Alike.refl _)⟩
theorem NE.warm {s U : State} (h : s.WarmedH U.vm) (q : NE s) : NE U := ⟨q.1.warmM h, q.2.1.warmM h, q.2.2.1.warmM h, q.2.2.2.1.warmM h, q.2.2.2.2.1.warmM h, q.2.2.2.2.2.1.warmM h, q.2.2.2.2.2.2.1.moved h.alike, q.2.2.2.2.2.2.2.moved h.alike⟩
def EE (G : GG) (A : Nat → Prop) (U : State) (H : Heap) : Prop := va_K G.1 vwCl (atys G.2.1) U ∧ NE U ∧ StF G A U H
theorem EE.same {G : GG} {A : Nat → Prop} {u U : State} {H : Heap} (hv : U.vm = u.vm) (h : EE G A u H) : EE G A U H := by
  have ha : u.vm.Alike U.vm := by rw [hv]; exact Vm.Alike.refl _
  obtain ⟨h1, h0, ⟨h2, h3, h4, h10, h11⟩, h5, ⟨q1, g1⟩, ⟨q2, g2⟩, ⟨q3, g3⟩, hxe⟩ := h
  exact ⟨va_K.moved ha h1, h0.same hv.symm, ⟨h2, h3.moved ha, h4.moved ha, h10, h11⟩, h5, ⟨q1, g1.same hv⟩, ⟨q2, g2.same hv⟩, ⟨q3, g3.same hv⟩, hxe.same hv.symm⟩
theorem EE.next {G : GG} {A : Nat → Prop} {s U : State} {H : Heap} {locs : List Loc} (h : EE G A s s.heap) (hS : va_S A s.heap H locs) (hW : s.WarmedH U.vm) : EE G A U H := by
  have ha : s.vm.Alike U.vm := hW.alike
  obtain ⟨h1, h0, ⟨h2, h3, h4, h10, h11⟩, h5, ⟨q1, g1⟩, ⟨q2, g2⟩, ⟨q3, g3⟩, hxe⟩ := h
  exact ⟨va_K.moved ha h1, h0.warm hW, ⟨h2, (h3.kept hS.2.1).moved ha, (h4.kept hS.2.1).moved ha, h10, h11⟩, h5, ⟨q1, g1.warm hW⟩, ⟨q2, g2.warm hW⟩, ⟨q3, g3.warm hW⟩, hxe.warm hW⟩
theorem hd.put {G : GG} {A : Nat → Prop} {w : Wd} {H H1 : Heap} {a : Nat} {c : Cel} (h : hd G A w H) (ha : A a) (hc : va_at G.1 vwCl (a, trc G.2.1 c) H1) (oq : ∀ q : Nat, q ≠ a → H1[q]? = H[q]?) : hd G A (wup w a c) H1 := by
  intro b c' hb
  by_cases e : b = a
  · subst e
    rw [wup_self] at hb
    cases hb
    exact ⟨ha, hc⟩
  · rw [wup_ne e] at hb
    exact ⟨(h b c' hb).1, (h b c' hb).2.kept (oq b e)⟩
theorem hd.one {G : GG} {A : Nat → Prop} {w : Wd} {H : Heap} {a : Nat} {c : Cel} (h : hd G A w H) (ha : w a = some c) : va_P G.1 vwCl [(a, trc G.2.1 c)] H := by
  intro k q hk
  cases k with
  | zero => cases hk; exact (h a c ha).2
  | succ k => simp at hk
/-- what a method with a contract does: from this world and these arguments it answers o and leaves the world w' -/
def QQ (G : GG) (A : Nat → Prop) (o : Option Value) (w' : Wd) : Array Value → State → Outcome → State → Prop := fun _ st oc t => (oc = .returned o ∧ hd G A w' t.heap) ∧ va_F A st t
def PP (G : GG) (A : Nat → Prop) (av : List Value) (w : Wd) : Array Value → State → Prop := va_Pc av (fun U => hd G A w U.heap ∧ EE G A U U.heap)
def Con (l : Launch) (y : MethodName) (ws : List Cond) (rm : Room) (G : GG) (A : Nat → Prop) (av : List Value) (w : Wd) (o : Option Value) (w' : Wd) : Prop :=
  Met l y ws rm (PP G A av w) (QQ G A o w') 0 0 A
theorem PP.blind {G : GG} {A : Nat → Prop} {av : List Value} {w : Wd} : FrameBlind (PP G A av w) := fun a U g mk q => ⟨q.1, q.2.1, EE.same (u := U) rfl q.2.2⟩
/-- the fixed things of a method's walk -/
def Cx (p : Program) (s : State) (m : MethodId) (args : Array Value) (meth : Method) (c : Code) (G : GG) (A : Nat → Prop) (cc : ByteArray) (nL : Nat) (own : String) (Ts : List Cond) (ret : Option FieldType) : Prop :=
  p.tables.exec = Jvm.exec ∧ c.code = cc ∧ c.maxLocals = nL ∧ s.vm.findClass own = some m.cls ∧ (∀ w ∈ Ts, w.before args s = true) ∧ EE G A s s.heap ∧ meth.locks = false ∧ meth.sig.returnType = ret
/-- from pc with these locals, this stack and this world the method comes to its end with o and w' -/
def VQ (p : Program) (l : Launch) (e : Env) (R : Room) (s : State) (m : MethodId) (args : Array Value) (below : List Frame) (meth : Method) (c : Code) (G : GG) (A : Nat → Prop) (nL kc ks : Nat) (Q : State → Prop) (pc : Nat) (lv : List (Nat × Value)) (st : List Value) (w : Wd) : Prop :=
  ∀ (H : Heap) (locs : List Loc) (ls : Array Slot), lv_has ls nL lv → hd G A w H → va_S A s.heap H locs → W p l e R s m args below meth c H locs kc ks Q (F0 m pc ls st)
abbrev V (p : Program) (l : Launch) (e : Env) (R : Room) (s : State) (m : MethodId) (args : Array Value) (below : List Frame) (meth : Method) (c : Code) (G : GG) (A : Nat → Prop) (nL : Nat) (pc : Nat) (lv : List (Nat × Value)) (st : List Value) (w : Wd) (o : Option Value) (w' : Wd) : Prop :=
  VQ p l e R s m args below meth c G A nL 0 0 (MQ below (QQ G A o w') args s 0 0 A) pc lv st w
section VV
variable {p : Program} {l : Launch} {e : Env} {R : Room} {s : State} {m : MethodId} {args : Array Value} {below : List Frame} {meth : Method} {c : Code} {G : GG} {A : Nat → Prop} {cc : ByteArray} {nL : Nat} {own : String} {Ts : List Cond} {ret : Option FieldType}
variable {pc : Nat} {lv : List (Nat × Value)} {st : List Value} {w w' : Wd} {o : Option Value} {kc ks : Nat} {Q : State → Prop}
theorem Con.of {y : MethodName} {ws ws' : List Cond} {rm : Room} {av : List Value} {maxL : Nat} {own : String} (hown : y.cls = own) (hy : plainName y.cls = true) (hw : ws = Cond.code y cc maxL ret :: ws') (hlen : (lg_sl av).length ≤ maxL)
    (body : ∀ (p : Program) (e : Env) (s : State) (m : MethodId) (args : Array Value) (below : List Frame) (meth : Method) (c : Code), Cx p s m args meth c G A cc maxL own ws ret → V p l e rm s m args below meth c G A maxL 0 (lv_args 0 av) [] w o w') : Con l y ws rm G A av w o w' := by
  refine Met.ofW (cc := cc) (maxL := maxL) (ret := ret) hy hw ?_
  subst hown
  intro p e s m args below meth c s₁ B hml hv
  obtain ⟨rfl, hP, hE⟩ := hv
  have hl := lv_entry av hlen
  rw [lg_entry_eq]
  exact body p e s m _ below meth c ⟨B.exec, B.bytes, hml, findClass_of_methodNamed B.named, atoms_spec B.pre, hE, B.notSynchronized, B.returns⟩ s.heap [] _ hl hP va_S.rf
theorem v_sub (is : List Nat) {lv' : List (Nat × Value)} (hs : lv_pick lv is = lv') (k : VQ p l e R s m args below meth c G A nL kc ks Q pc lv' st w) : VQ p l e R s m args below meth c G A nL kc ks Q pc lv st w :=
  fun H locs ls hl hP hS => k H locs ls (lv_sub hl is hs) hP hS
theorem v_goto (C : Cx p s m args meth c G A cc nL own Ts ret) {off : Int} {tgt : Nat} (d : decode cc pc = .ok (.goto off, 3)) (ht : (pc : Int) + off = (tgt : Int)) (k : VQ p l e R s m args below meth c G A nL kc ks Q tgt lv st w) : VQ p l e R s m args below meth c G A nL kc ks Q pc lv st w :=
  fun H locs ls hl hP hS => lv_goto C.1 C.2.1 d ht (k H locs ls hl hP hS)
def jrm (x y : Int32) : Int32 := x - x / y * y
def jrmL (x y : Int64) : Int64 := x - x / y * y
theorem v_iconst (C : Cx p s m args meth c G A cc nL own Ts ret) {n : Int} {v : Int32} (d : decode cc pc = .ok (.iconst n, 1)) (hv : Int32.ofInt n = v) (k : VQ p l e R s m args below meth c G A nL kc ks Q (pc + 1) lv (.int v :: st) w) : VQ p l e R s m args below meth c G A nL kc ks Q pc lv st w :=
  fun H locs ls hl hP hS => lv_iconst C.1 C.2.1 d hv (k H locs ls hl hP hS)
theorem v_bipush (C : Cx p s m args meth c G A cc nL own Ts ret) {n : Int} {v : Int32} (d : decode cc pc = .ok (.bipush n, 2)) (hv : (Int8.ofInt n).toInt32 = v) (k : VQ p l e R s m args below meth c G A nL kc ks Q (pc + 2) lv (.int v :: st) w) : VQ p l e R s m args below meth c G A nL kc ks Q pc lv st w :=
  fun H locs ls hl hP hS => lv_bipush C.1 C.2.1 d hv (k H locs ls hl hP hS)
theorem v_sipush (C : Cx p s m args meth c G A cc nL own Ts ret) {n : Int} {v : Int32} (d : decode cc pc = .ok (.sipush n, 3)) (hv : (Int16.ofInt n).toInt32 = v) (k : VQ p l e R s m args below meth c G A nL kc ks Q (pc + 3) lv (.int v :: st) w) : VQ p l e R s m args below meth c G A nL kc ks Q pc lv st w :=
  fun H locs ls hl hP hS => lv_sipush C.1 C.2.1 d hv (k H locs ls hl hP hS)
theorem v_lconst (C : Cx p s m args meth c G A cc nL own Ts ret) {n : Fin 2} {v : Int64} (d : decode cc pc = .ok (.lconst n, 1)) (hv : Int64.ofNat (n : Nat) = v) (k : VQ p l e R s m args below meth c G A nL kc ks Q (pc + 1) lv (.long v :: st) w) : VQ p l e R s m args below meth c G A nL kc ks Q pc lv st w :=
  fun H locs ls hl hP hS => lv_lconst C.1 C.2.1 d hv (k H locs ls hl hP hS)
theorem v_iload_n (C : Cx p s m args meth c G A cc nL own Ts ret) {k : Fin 4} {i : Nat} {x : Int32} (q : Nat) (d : decode cc pc = .ok (.iload_n k, 1)) (hi : (k : Nat) = i) (hq : lv[q]? = some (i, .int x)) (k : VQ p l e R s m args below meth c G A nL kc ks Q (pc + 1) lv (.int x :: st) w) : VQ p l e R s m args below meth c G A nL kc ks Q pc lv st w :=
  fun H locs ls hl hP hS => lv_iload_n C.1 C.2.1 d hi (lv_at hl q hq) (k H locs ls hl hP hS)
theorem v_iload (C : Cx p s m args meth c G A cc nL own Ts ret) {i : Nat} {x : Int32} (q : Nat) (d : decode cc pc = .ok (.iload i, 2)) (hq : lv[q]? = some (i, .int x)) (k : VQ p l e R s m args below meth c G A nL kc ks Q (pc + 2) lv (.int x :: st) w) : VQ p l e R s m args below meth c G A nL kc ks Q pc lv st w :=
  fun H locs ls hl hP hS => lv_iload C.1 C.2.1 d (lv_at hl q hq) (k H locs ls hl hP hS)
theorem v_lload_n (C : Cx p s m args meth c G A cc nL own Ts ret) {k : Fin 4} {i : Nat} {x : Int64} (q : Nat) (d : decode cc pc = .ok (.lload_n k, 1)) (hi : (k : Nat) = i) (hq : lv[q]? = some (i, .long x)) (k : VQ p l e R s m args below meth c G A nL kc ks Q (pc + 1) lv (.long x :: st) w) : VQ p l e R s m args below meth c G A nL kc ks Q pc lv st w :=
  fun H locs ls hl hP hS => lv_lload_n C.1 C.2.1 d hi (lv_at hl q hq) (k H locs ls hl hP hS)
theorem v_lload (C : Cx p s m args meth c G A cc nL own Ts ret) {i : Nat} {x : Int64} (q : Nat) (d : decode cc pc = .ok (.lload i, 2)) (hq : lv[q]? = some (i, .long x)) (k : VQ p l e R s m args below meth c G A nL kc ks Q (pc + 2) lv (.long x :: st) w) : VQ p l e R s m args below meth c G A nL kc ks Q pc lv st w :=
  fun H locs ls hl hP hS => lv_lload C.1 C.2.1 d (lv_at hl q hq) (k H locs ls hl hP hS)
theorem v_aload_n (C : Cx p s m args meth c G A cc nL own Ts ret) {k : Fin 4} {i : Nat} {x : Nat} (q : Nat) (d : decode cc pc = .ok (.aload_n k, 1)) (hi : (k : Nat) = i) (hq : lv[q]? = some (i, .ref x)) (k : VQ p l e R s m args below meth c G A nL kc ks Q (pc + 1) lv (.ref x :: st) w) : VQ p l e R s m args below meth c G A nL kc ks Q pc lv st w :=
  fun H locs ls hl hP hS => lv_aload_n C.1 C.2.1 d hi (lv_at hl q hq) (k H locs ls hl hP hS)
theorem v_aload (C : Cx p s m args meth c G A cc nL own Ts ret) {i : Nat} {x : Nat} (q : Nat) (d : decode cc pc = .ok (.aload i, 2)) (hq : lv[q]? = some (i, .ref x)) (k : VQ p l e R s m args below meth c G A nL kc ks Q (pc + 2) lv (.ref x :: st) w) : VQ p l e R s m args below meth c G A nL kc ks Q pc lv st w :=
  fun H locs ls hl hP hS => lv_aload C.1 C.2.1 d (lv_at hl q hq) (k H locs ls hl hP hS)
theorem v_istore_n (C : Cx p s m args meth c G A cc nL own Ts ret) {k : Fin 4} {i : Nat} {x : Int32} {lv' : List (Nat × Value)} (d : decode cc pc = .ok (.istore_n k, 1)) (hi : (k : Nat) = i) (hn : i < nL) (hl' : (i, Value.int x) :: lv.filter (fun q => !(q.1 == i) && !(q.1 + 1 == i && q.2.category == 2)) = lv') (k : VQ p l e R s m args below meth c G A nL kc ks Q (pc + 1) lv' st w) : VQ p l e R s m args below meth c G A nL kc ks Q pc lv (.int x :: st) w :=
  fun H locs ls hl hP hS => lv_istore_n C.1 C.2.1 d hi hl hn hl' (fun ls' h' => k H locs ls' h' hP hS)
theorem v_istore (C : Cx p s m args meth c G A cc nL own Ts ret) {i : Nat} {x : Int32} {lv' : List (Nat × Value)} (d : decode cc pc = .ok (.istore i, 2)) (hn : i < nL) (hl' : (i, Value.int x) :: lv.filter (fun q => !(q.1 == i) && !(q.1 + 1 == i && q.2.category == 2)) = lv') (k : VQ p l e R s m args below meth c G A nL kc ks Q (pc + 2) lv' st w) : VQ p l e R s m args below meth c G A nL kc ks Q pc lv (.int x :: st) w :=
  fun H locs ls hl hP hS => lv_istore C.1 C.2.1 d hl hn hl' (fun ls' h' => k H locs ls' h' hP hS)
theorem v_lstore_n (C : Cx p s m args meth c G A cc nL own Ts ret) {k : Fin 4} {i : Nat} {x : Int64} {lv' : List (Nat × Value)} (d : decode cc pc = .ok (.lstore_n k, 1)) (hi : (k : Nat) = i) (hn : i + 1 < nL) (hl' : (i, Value.long x) :: lv.filter (fun q => !(q.1 == i) && (!(q.1 == i + 1) && !(q.1 + 1 == i && q.2.category == 2))) = lv') (k : VQ p l e R s m args below meth c G A nL kc ks Q (pc + 1) lv' st w) : VQ p l e R s m args below meth c G A nL kc ks Q pc lv (.long x :: st) w :=
  fun H locs ls hl hP hS => lv_lstore_n C.1 C.2.1 d hi hl hn hl' (fun ls' h' => k H locs ls' h' hP hS)
theorem v_lstore (C : Cx p s m args meth c G A cc nL own Ts ret) {i : Nat} {x : Int64} {lv' : List (Nat × Value)} (d : decode cc pc = .ok (.lstore i, 2)) (hn : i + 1 < nL) (hl' : (i, Value.long x) :: lv.filter (fun q => !(q.1 == i) && (!(q.1 == i + 1) && !(q.1 + 1 == i && q.2.category == 2))) = lv') (k : VQ p l e R s m args below meth c G A nL kc ks Q (pc + 2) lv' st w) : VQ p l e R s m args below meth c G A nL kc ks Q pc lv (.long x :: st) w :=
  fun H locs ls hl hP hS => lv_lstore C.1 C.2.1 d hl hn hl' (fun ls' h' => k H locs ls' h' hP hS)
theorem v_astore_n (C : Cx p s m args meth c G A cc nL own Ts ret) {k : Fin 4} {i : Nat} {x : Nat} {lv' : List (Nat × Value)} (d : decode cc pc = .ok (.astore_n k, 1)) (hi : (k : Nat) = i) (hn : i < nL) (hl' : (i, Value.ref x) :: lv.filter (fun q => !(q.1 == i) && !(q.1 + 1 == i && q.2.category == 2)) = lv') (k : VQ p l e R s m args below meth c G A nL kc ks Q (pc + 1) lv' st w) : VQ p l e R s m args below meth c G A nL kc ks Q pc lv (.ref x :: st) w :=
  fun H locs ls hl hP hS => lv_astore_n C.1 C.2.1 d hi hl hn hl' (fun ls' h' => k H locs ls' h' hP hS)
theorem v_astore (C : Cx p s m args meth c G A cc nL own Ts ret) {i : Nat} {x : Nat} {lv' : List (Nat × Value)} (d : decode cc pc = .ok (.astore i, 2)) (hn : i < nL) (hl' : (i, Value.ref x) :: lv.filter (fun q => !(q.1 == i) && !(q.1 + 1 == i && q.2.category == 2)) = lv') (k : VQ p l e R s m args below meth c G A nL kc ks Q (pc + 2) lv' st w) : VQ p l e R s m args below meth c G A nL kc ks Q pc lv (.ref x :: st) w :=
  fun H locs ls hl hP hS => lv_astore C.1 C.2.1 d hl hn hl' (fun ls' h' => k H locs ls' h' hP hS)
theorem v_iinc (C : Cx p s m args meth c G A cc nL own Ts ret) {i k : Nat} {n : Int} {x v : Int32} {lv' : List (Nat × Value)} (d : decode cc pc = .ok (.iinc i n, 3)) (hk : lv[k]? = some (i, .int x)) (hv : x + Int32.ofInt n = v) (hn : i < nL) (hl' : (i, Value.int v) :: lv.filter (fun q => !(q.1 == i) && !(q.1 + 1 == i && q.2.category == 2)) = lv') (kk : VQ p l e R s m args below meth c G A nL kc ks Q (pc + 3) lv' st w) : VQ p l e R s m args below meth c G A nL kc ks Q pc lv st w :=
  fun H locs ls hl hP hS => lv_iinc C.1 C.2.1 d hl hk hv hn hl' (fun ls' h' => kk H locs ls' h' hP hS)
theorem v_iadd (C : Cx p s m args meth c G A cc nL own Ts ret) {x y : Int32} (d : decode cc pc = .ok (.iadd, 1))  (k : VQ p l e R s m args below meth c G A nL kc ks Q (pc + 1) lv (.int (x + y) :: st) w) : VQ p l e R s m args below meth c G A nL kc ks Q pc lv (.int y :: .int x :: st) w :=
  fun H locs ls hl hP hS => lv_iadd C.1 C.2.1 d (k H locs ls hl hP hS)
theorem v_isub (C : Cx p s m args meth c G A cc nL own Ts ret) {x y : Int32} (d : decode cc pc = .ok (.isub, 1))  (k : VQ p l e R s m args below meth c G A nL kc ks Q (pc + 1) lv (.int (x - y) :: st) w) : VQ p l e R s m args below meth c G A nL kc ks Q pc lv (.int y :: .int x :: st) w :=
  fun H locs ls hl hP hS => lv_isub C.1 C.2.1 d (k H locs ls hl hP hS)
theorem v_imul (C : Cx p s m args meth c G A cc nL own Ts ret) {x y : Int32} (d : decode cc pc = .ok (.imul, 1))  (k : VQ p l e R s m args below meth c G A nL kc ks Q (pc + 1) lv (.int (x * y) :: st) w) : VQ p l e R s m args below meth c G A nL kc ks Q pc lv (.int y :: .int x :: st) w :=
  fun H locs ls hl hP hS => lv_imul C.1 C.2.1 d (k H locs ls hl hP hS)
theorem v_iand (C : Cx p s m args meth c G A cc nL own Ts ret) {x y : Int32} (d : decode cc pc = .ok (.iand, 1))  (k : VQ p l e R s m args below meth c G A nL kc ks Q (pc + 1) lv (.int (x &&& y) :: st) w) : VQ p l e R s m args below meth c G A nL kc ks Q pc lv (.int y :: .int x :: st) w :=
  fun H locs ls hl hP hS => lv_iand C.1 C.2.1 d (k H locs ls hl hP hS)
theorem v_ior (C : Cx p s m args meth c G A cc nL own Ts ret) {x y : Int32} (d : decode cc pc = .ok (.ior, 1))  (k : VQ p l e R s m args below meth c G A nL kc ks Q (pc + 1) lv (.int (x ||| y) :: st) w) : VQ p l e R s m args below meth c G A nL kc ks Q pc lv (.int y :: .int x :: st) w :=
  fun H locs ls hl hP hS => lv_ior C.1 C.2.1 d (k H locs ls hl hP hS)
theorem v_ixor (C : Cx p s m args meth c G A cc nL own Ts ret) {x y : Int32} (d : decode cc pc = .ok (.ixor, 1))  (k : VQ p l e R s m args below meth c G A nL kc ks Q (pc + 1) lv (.int (x ^^^ y) :: st) w) : VQ p l e R s m args below meth c G A nL kc ks Q pc lv (.int y :: .int x :: st) w :=
  fun H locs ls hl hP hS => lv_ixor C.1 C.2.1 d (k H locs ls hl hP hS)
theorem v_ishl (C : Cx p s m args meth c G A cc nL own Ts ret) {x y : Int32} (d : decode cc pc = .ok (.ishl, 1))  (k : VQ p l e R s m args below meth c G A nL kc ks Q (pc + 1) lv (.int (x <<< (y &&& 31)) :: st) w) : VQ p l e R s m args below meth c G A nL kc ks Q pc lv (.int y :: .int x :: st) w :=
  fun H locs ls hl hP hS => lv_ishl C.1 C.2.1 d (k H locs ls hl hP hS)
theorem v_ishr (C : Cx p s m args meth c G A cc nL own Ts ret) {x y : Int32} (d : decode cc pc = .ok (.ishr, 1))  (k : VQ p l e R s m args below meth c G A nL kc ks Q (pc + 1) lv (.int (x >>> (y &&& 31)) :: st) w) : VQ p l e R s m args below meth c G A nL kc ks Q pc lv (.int y :: .int x :: st) w :=
  fun H locs ls hl hP hS => lv_ishr C.1 C.2.1 d (k H locs ls hl hP hS)
theorem v_ineg (C : Cx p s m args meth c G A cc nL own Ts ret) {x : Int32} (d : decode cc pc = .ok (.ineg, 1))  (k : VQ p l e R s m args below meth c G A nL kc ks Q (pc + 1) lv (.int (-x) :: st) w) : VQ p l e R s m args below meth c G A nL kc ks Q pc lv (.int x :: st) w :=
  fun H locs ls hl hP hS => lv_ineg C.1 C.2.1 d (k H locs ls hl hP hS)
theorem v_idiv (C : Cx p s m args meth c G A cc nL own Ts ret) {x y : Int32} (d : decode cc pc = .ok (.idiv, 1)) (hne : ¬ y = 0) (k : VQ p l e R s m args below meth c G A nL kc ks Q (pc + 1) lv (.int (x / y) :: st) w) : VQ p l e R s m args below meth c G A nL kc ks Q pc lv (.int y :: .int x :: st) w :=
  fun H locs ls hl hP hS => lv_idiv C.1 C.2.1 d hne (k H locs ls hl hP hS)
theorem v_irem (C : Cx p s m args meth c G A cc nL own Ts ret) {x y : Int32} (d : decode cc pc = .ok (.irem, 1)) (hne : ¬ y = 0) (k : VQ p l e R s m args below meth c G A nL kc ks Q (pc + 1) lv (.int (jrm x y) :: st) w) : VQ p l e R s m args below meth c G A nL kc ks Q pc lv (.int y :: .int x :: st) w :=
  fun H locs ls hl hP hS => lv_irem C.1 C.2.1 d hne (k H locs ls hl hP hS)
theorem v_ladd (C : Cx p s m args meth c G A cc nL own Ts ret) {x y : Int64} (d : decode cc pc = .ok (.ladd, 1))  (k : VQ p l e R s m args below meth c G A nL kc ks Q (pc + 1) lv (.long (x + y) :: st) w) : VQ p l e R s m args below meth c G A nL kc ks Q pc lv (.long y :: .long x :: st) w :=
  fun H locs ls hl hP hS => lv_ladd C.1 C.2.1 d (k H locs ls hl hP hS)
theorem v_lmul (C : Cx p s m args meth c G A cc nL own Ts ret) {x y : Int64} (d : decode cc pc = .ok (.lmul, 1))  (k : VQ p l e R s m args below meth c G A nL kc ks Q (pc + 1) lv (.long (x * y) :: st) w) : VQ p l e R s m args below meth c G A nL kc ks Q pc lv (.long y :: .long x :: st) w :=
  fun H locs ls hl hP hS => lv_lmul C.1 C.2.1 d (k H locs ls hl hP hS)
theorem v_ldiv (C : Cx p s m args meth c G A cc nL own Ts ret) {x y : Int64} (d : decode cc pc = .ok (.ldiv, 1)) (hne : ¬ y = 0) (k : VQ p l e R s m args below meth c G A nL kc ks Q (pc + 1) lv (.long (x / y) :: st) w) : VQ p l e R s m args below meth c G A nL kc ks Q pc lv (.long y :: .long x :: st) w :=
  fun H locs ls hl hP hS => lv_ldiv C.1 C.2.1 d hne (k H locs ls hl hP hS)
theorem v_lrem (C : Cx p s m args meth c G A cc nL own Ts ret) {x y : Int64} (d : decode cc pc = .ok (.lrem, 1)) (hne : ¬ y = 0) (k : VQ p l e R s m args below meth c G A nL kc ks Q (pc + 1) lv (.long (jrmL x y) :: st) w) : VQ p l e R s m args below meth c G A nL kc ks Q pc lv (.long y :: .long x :: st) w :=
  fun H locs ls hl hP hS => lv_lrem C.1 C.2.1 d hne (k H locs ls hl hP hS)
theorem v_i2l (C : Cx p s m args meth c G A cc nL own Ts ret) {x : Int32} (d : decode cc pc = .ok (.i2l, 1))  (k : VQ p l e R s m args below meth c G A nL kc ks Q (pc + 1) lv (.long x.toInt64 :: st) w) : VQ p l e R s m args below meth c G A nL kc ks Q pc lv (.int x :: st) w :=
  fun H locs ls hl hP hS => lv_i2l C.1 C.2.1 d rfl (k H locs ls hl hP hS)
theorem v_l2i (C : Cx p s m args meth c G A cc nL own Ts ret) {x : Int64} (d : decode cc pc = .ok (.l2i, 1))  (k : VQ p l e R s m args below meth c G A nL kc ks Q (pc + 1) lv (.int x.toInt32 :: st) w) : VQ p l e R s m args below meth c G A nL kc ks Q pc lv (.long x :: st) w :=
  fun H locs ls hl hP hS => lv_l2i C.1 C.2.1 d rfl (k H locs ls hl hP hS)
theorem v_dup (C : Cx p s m args meth c G A cc nL own Ts ret) {va : Value} (d : decode cc pc = .ok (.dup, 1)) (hva : va.category = 1) (k : VQ p l e R s m args below meth c G A nL kc ks Q (pc + 1) lv (va :: va :: st) w) : VQ p l e R s m args below meth c G A nL kc ks Q pc lv (va :: st) w :=
  fun H locs ls hl hP hS => lv_dup C.1 C.2.1 d hva (k H locs ls hl hP hS)
theorem v_pop (C : Cx p s m args meth c G A cc nL own Ts ret) {va : Value} (d : decode cc pc = .ok (.pop, 1)) (hva : va.category = 1) (k : VQ p l e R s m args below meth c G A nL kc ks Q (pc + 1) lv st w) : VQ p l e R s m args below meth c G A nL kc ks Q pc lv (va :: st) w :=
  fun H locs ls hl hP hS => lv_pop C.1 C.2.1 d hva (k H locs ls hl hP hS)
theorem v_dup2_11 (C : Cx p s m args meth c G A cc nL own Ts ret) {va vb : Value} (d : decode cc pc = .ok (.dup2, 1)) (hva : va.category = 1) (hvb : vb.category = 1) (k : VQ p l e R s m args below meth c G A nL kc ks Q (pc + 1) lv (va :: vb :: va :: vb :: st) w) : VQ p l e R s m args below meth c G A nL kc ks Q pc lv (va :: vb :: st) w :=
  fun H locs ls hl hP hS => lv_dup2_11 C.1 C.2.1 d hva hvb (k H locs ls hl hP hS)
theorem v_ldc (C : Cx p s m args meth c G A cc nL own Ts ret) {index : Nat} {v : Int32} (d : decode cc pc = .ok (.ldc index, 2)) (hc : Cond.constant own index v ∈ Ts) (k : VQ p l e R s m args below meth c G A nL kc ks Q (pc + 2) lv (.int v :: st) w) : VQ p l e R s m args below meth c G A nL kc ks Q pc lv st w :=
  fun H locs ls hl hP hS => lv_ldc C.1 C.2.1 C.2.2.2.1 (C.2.2.2.2.1 _ hc) d (k H locs ls hl hP hS)
theorem v_ldcw (C : Cx p s m args meth c G A cc nL own Ts ret) {index : Nat} {v : Int32} (d : decode cc pc = .ok (.ldc_w index, 3)) (hc : Cond.constant own index v ∈ Ts) (k : VQ p l e R s m args below meth c G A nL kc ks Q (pc + 3) lv (.int v :: st) w) : VQ p l e R s m args below meth c G A nL kc ks Q pc lv st w :=
  fun H locs ls hl hP hS => lv_ldcw C.1 C.2.1 C.2.2.2.1 (C.2.2.2.2.1 _ hc) d (k H locs ls hl hP hS)
theorem v_ldc2 (C : Cx p s m args meth c G A cc nL own Ts ret) {index : Nat} {v : Int64} (d : decode cc pc = .ok (.ldc2_w index, 3)) (hc : Cond.constantLong own index v ∈ Ts) (k : VQ p l e R s m args below meth c G A nL kc ks Q (pc + 3) lv (.long v :: st) w) : VQ p l e R s m args below meth c G A nL kc ks Q pc lv st w :=
  fun H locs ls hl hP hS => lv_ldc2 C.1 C.2.1 C.2.2.2.1 (C.2.2.2.2.1 _ hc) d (k H locs ls hl hP hS)
theorem v_icmp_eq (C : Cx p s m args meth c G A cc nL own Ts ret) {x y : Int32} {off : Int} {tgt : Nat} (d : decode cc pc = .ok (.if_icmp .eq off, 3)) (ht : (pc : Int) + off = (tgt : Int)) (kt : x = y → VQ p l e R s m args below meth c G A nL kc ks Q tgt lv st w) (kf : ¬ x = y → VQ p l e R s m args below meth c G A nL kc ks Q (pc + 3) lv st w) : VQ p l e R s m args below meth c G A nL kc ks Q pc lv (.int y :: .int x :: st) w :=
  fun H locs ls hl hP hS => lv_icmp_eq C.1 C.2.1 d ht (fun q => kt q H locs ls hl hP hS) (fun q => kf q H locs ls hl hP hS)
theorem v_if_eq (C : Cx p s m args meth c G A cc nL own Ts ret) {x : Int32} {off : Int} {tgt : Nat} (d : decode cc pc = .ok (.ifCond .eq off, 3)) (ht : (pc : Int) + off = (tgt : Int)) (kt : x = 0 → VQ p l e R s m args below meth c G A nL kc ks Q tgt lv st w) (kf : ¬ x = 0 → VQ p l e R s m args below meth c G A nL kc ks Q (pc + 3) lv st w) : VQ p l e R s m args below meth c G A nL kc ks Q pc lv (.int x :: st) w :=
  fun H locs ls hl hP hS => lv_if_eq C.1 C.2.1 d ht (fun q => kt q H locs ls hl hP hS) (fun q => kf q H locs ls hl hP hS)
theorem v_icmp_ne (C : Cx p s m args meth c G A cc nL own Ts ret) {x y : Int32} {off : Int} {tgt : Nat} (d : decode cc pc = .ok (.if_icmp .ne off, 3)) (ht : (pc : Int) + off = (tgt : Int)) (kt : ¬ x = y → VQ p l e R s m args below meth c G A nL kc ks Q tgt lv st w) (kf : x = y → VQ p l e R s m args below meth c G A nL kc ks Q (pc + 3) lv st w) : VQ p l e R s m args below meth c G A nL kc ks Q pc lv (.int y :: .int x :: st) w :=
  fun H locs ls hl hP hS => lv_icmp_ne C.1 C.2.1 d ht (fun q => kt q H locs ls hl hP hS) (fun q => kf q H locs ls hl hP hS)
theorem v_if_ne (C : Cx p s m args meth c G A cc nL own Ts ret) {x : Int32} {off : Int} {tgt : Nat} (d : decode cc pc = .ok (.ifCond .ne off, 3)) (ht : (pc : Int) + off = (tgt : Int)) (kt : ¬ x = 0 → VQ p l e R s m args below meth c G A nL kc ks Q tgt lv st w) (kf : x = 0 → VQ p l e R s m args below meth c G A nL kc ks Q (pc + 3) lv st w) : VQ p l e R s m args below meth c G A nL kc ks Q pc lv (.int x :: st) w :=
  fun H locs ls hl hP hS => lv_if_ne C.1 C.2.1 d ht (fun q => kt q H locs ls hl hP hS) (fun q => kf q H locs ls hl hP hS)
theorem v_icmp_lt (C : Cx p s m args meth c G A cc nL own Ts ret) {x y : Int32} {off : Int} {tgt : Nat} (d : decode cc pc = .ok (.if_icmp .lt off, 3)) (ht : (pc : Int) + off = (tgt : Int)) (kt : x < y → VQ p l e R s m args below meth c G A nL kc ks Q tgt lv st w) (kf : ¬ x < y → VQ p l e R s m args below meth c G A nL kc ks Q (pc + 3) lv st w) : VQ p l e R s m args below meth c G A nL kc ks Q pc lv (.int y :: .int x :: st) w :=
  fun H locs ls hl hP hS => lv_icmp_lt C.1 C.2.1 d ht (fun q => kt q H locs ls hl hP hS) (fun q => kf q H locs ls hl hP hS)
theorem v_if_lt (C : Cx p s m args meth c G A cc nL own Ts ret) {x : Int32} {off : Int} {tgt : Nat} (d : decode cc pc = .ok (.ifCond .lt off, 3)) (ht : (pc : Int) + off = (tgt : Int)) (kt : x < 0 → VQ p l e R s m args below meth c G A nL kc ks Q tgt lv st w) (kf : ¬ x < 0 → VQ p l e R s m args below meth c G A nL kc ks Q (pc + 3) lv st w) : VQ p l e R s m args below meth c G A nL kc ks Q pc lv (.int x :: st) w :=
  fun H locs ls hl hP hS => lv_if_lt C.1 C.2.1 d ht (fun q => kt q H locs ls hl hP hS) (fun q => kf q H locs ls hl hP hS)
theorem v_icmp_ge (C : Cx p s m args meth c G A cc nL own Ts ret) {x y : Int32} {off : Int} {tgt : Nat} (d : decode cc pc = .ok (.if_icmp .ge off, 3)) (ht : (pc : Int) + off = (tgt : Int)) (kt : y ≤ x → VQ p l e R s m args below meth c G A nL kc ks Q tgt lv st w) (kf : ¬ y ≤ x → VQ p l e R s m args below meth c G A nL kc ks Q (pc + 3) lv st w) : VQ p l e R s m args below meth c G A nL kc ks Q pc lv (.int y :: .int x :: st) w :=
  fun H locs ls hl hP hS => lv_icmp_ge C.1 C.2.1 d ht (fun q => kt q H locs ls hl hP hS) (fun q => kf q H locs ls hl hP hS)
theorem v_if_ge (C : Cx p s m args meth c G A cc nL own Ts ret) {x : Int32} {off : Int} {tgt : Nat} (d : decode cc pc = .ok (.ifCond .ge off, 3)) (ht : (pc : Int) + off = (tgt : Int)) (kt : 0 ≤ x → VQ p l e R s m args below meth c G A nL kc ks Q tgt lv st w) (kf : ¬ 0 ≤ x → VQ p l e R s m args below meth c G A nL kc ks Q (pc + 3) lv st w) : VQ p l e R s m args below meth c G A nL kc ks Q pc lv (.int x :: st) w :=
  fun H locs ls hl hP hS => lv_if_ge C.1 C.2.1 d ht (fun q => kt q H locs ls hl hP hS) (fun q => kf q H locs ls hl hP hS)
theorem v_icmp_gt (C : Cx p s m args meth c G A cc nL own Ts ret) {x y : Int32} {off : Int} {tgt : Nat} (d : decode cc pc = .ok (.if_icmp .gt off, 3)) (ht : (pc : Int) + off = (tgt : Int)) (kt : y < x → VQ p l e R s m args below meth c G A nL kc ks Q tgt lv st w) (kf : ¬ y < x → VQ p l e R s m args below meth c G A nL kc ks Q (pc + 3) lv st w) : VQ p l e R s m args below meth c G A nL kc ks Q pc lv (.int y :: .int x :: st) w :=
  fun H locs ls hl hP hS => lv_icmp_gt C.1 C.2.1 d ht (fun q => kt q H locs ls hl hP hS) (fun q => kf q H locs ls hl hP hS)
theorem v_if_gt (C : Cx p s m args meth c G A cc nL own Ts ret) {x : Int32} {off : Int} {tgt : Nat} (d : decode cc pc = .ok (.ifCond .gt off, 3)) (ht : (pc : Int) + off = (tgt : Int)) (kt : 0 < x → VQ p l e R s m args below meth c G A nL kc ks Q tgt lv st w) (kf : ¬ 0 < x → VQ p l e R s m args below meth c G A nL kc ks Q (pc + 3) lv st w) : VQ p l e R s m args below meth c G A nL kc ks Q pc lv (.int x :: st) w :=
  fun H locs ls hl hP hS => lv_if_gt C.1 C.2.1 d ht (fun q => kt q H locs ls hl hP hS) (fun q => kf q H locs ls hl hP hS)
theorem v_icmp_le (C : Cx p s m args meth c G A cc nL own Ts ret) {x y : Int32} {off : Int} {tgt : Nat} (d : decode cc pc = .ok (.if_icmp .le off, 3)) (ht : (pc : Int) + off = (tgt : Int)) (kt : x ≤ y → VQ p l e R s m args below meth c G A nL kc ks Q tgt lv st w) (kf : ¬ x ≤ y → VQ p l e R s m args below meth c G A nL kc ks Q (pc + 3) lv st w) : VQ p l e R s m args below meth c G A nL kc ks Q pc lv (.int y :: .int x :: st) w :=
  fun H locs ls hl hP hS => lv_icmp_le C.1 C.2.1 d ht (fun q => kt q H locs ls hl hP hS) (fun q => kf q H locs ls hl hP hS)
theorem v_if_le (C : Cx p s m args meth c G A cc nL own Ts ret) {x : Int32} {off : Int} {tgt : Nat} (d : decode cc pc = .ok (.ifCond .le off, 3)) (ht : (pc : Int) + off = (tgt : Int)) (kt : x ≤ 0 → VQ p l e R s m args below meth c G A nL kc ks Q tgt lv st w) (kf : ¬ x ≤ 0 → VQ p l e R s m args below meth c G A nL kc ks Q (pc + 3) lv st w) : VQ p l e R s m args below meth c G A nL kc ks Q pc lv (.int x :: st) w :=
  fun H locs ls hl hP hS => lv_if_le C.1 C.2.1 d ht (fun q => kt q H locs ls hl hP hS) (fun q => kf q H locs ls hl hP hS)
end VV
