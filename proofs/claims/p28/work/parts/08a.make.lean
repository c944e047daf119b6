/-! THE CONSTRUCTORS: the object itself and the cells that it makes, one behind another from sz on -/
def AN (b sz : Nat) : Nat → Prop := fun q => q = b ∨ sz ≤ q
def EK (G : GG) (U : State) : Prop := va_K G.1 vwCl (atys G.2.1) U ∧ NE U
theorem EK.same {G : GG} {u U : State} (hv : U.vm = u.vm) (h : EK G u) : EK G U := ⟨va_K.moved (by rw [hv]; exact Vm.Alike.refl _) h.1, h.2.same hv.symm⟩
theorem EK.warm {G : GG} {s U : State} (hW : s.WarmedH U.vm) (h : EK G s) : EK G U := ⟨va_K.moved hW.alike h.1, h.2.warm hW⟩
def HN (G : GG) (b sz : Nat) (ob : Cel) (L : List Cel) (H : Heap) : Prop := b < sz ∧ va_at G.1 vwCl (b, trc G.2.1 ob) H ∧ H.size = sz + L.length ∧ ∀ (i : Nat) (x : Cel), L[i]? = some x → va_at G.1 vwCl (sz + i, trc G.2.1 x) H
def QN (G : GG) (b sz : Nat) (o1 : Cel) (N : List Cel) : Array Value → State → Outcome → State → Prop := fun _ st oc t => (oc = .returned none ∧ HN G b sz o1 N t.heap) ∧ va_F (AN b sz) st t
def PN (G : GG) (b sz : Nat) (o0 : Cel) : Array Value → State → Prop := va_Pc [.ref b] (fun U => HN G b sz o0 [] U.heap ∧ EK G U)
def ConN (l : Launch) (y : MethodName) (ws : List Cond) (rm : Room) (G : GG) (b sz : Nat) (o0 o1 : Cel) (N : List Cel) (mc ms : Nat) : Prop := Met l y ws rm (PN G b sz o0) (QN G b sz o1 N) mc ms (AN b sz)
theorem PN.blind {G : GG} {b sz : Nat} {o0 : Cel} : FrameBlind (PN G b sz o0) := fun a U g mk q => ⟨q.1, q.2.1, EK.same (u := U) rfl q.2.2⟩
def CxN (p : Program) (s : State) (m : MethodId) (args : Array Value) (meth : Method) (c : Code) (G : GG) (b sz : Nat) (cc : ByteArray) (nL : Nat) (own : String) (Ts : List Cond) : Prop :=
  p.tables.exec = Jvm.exec ∧ c.code = cc ∧ c.maxLocals = nL ∧ s.vm.findClass own = some m.cls ∧ (∀ w ∈ Ts, w.before args s = true) ∧ EK G s ∧ meth.locks = false ∧ meth.sig.returnType = none ∧ meth.name = "<init>" ∧ s.heap.size = sz
def VN (p : Program) (l : Launch) (e : Env) (R : Room) (s : State) (m : MethodId) (args : Array Value) (below : List Frame) (meth : Method) (c : Code) (G : GG) (b sz : Nat) (nL mc ms : Nat) (o1 : Cel) (N : List Cel) (pc : Nat) (lv : List (Nat × Value)) (st : List Value) (ob : Cel) (L : List Cel) (k n : Nat) : Prop :=
  ∀ (H : Heap) (locs : List Loc) (ls : Array Slot), lv_has ls nL lv → HN G b sz ob L H → va_S (AN b sz) s.heap H locs → W p l e R s m args below meth c H locs k n (MQ below (QN G b sz o1 N) args s mc ms (AN b sz)) (F0 m pc ls st)
theorem HN.put {G : GG} {b sz : Nat} {ob ob' : Cel} {L : List Cel} {H H1 : Heap} (h : HN G b sz ob L H) (e1 : va_at G.1 vwCl (b, trc G.2.1 ob') H1) (z : H1.size = H.size) (oq : ∀ q : Nat, q ≠ b → H1[q]? = H[q]?) : HN G b sz ob' L H1 :=
  ⟨h.1, e1, z.trans h.2.2.1, fun i x hx => (h.2.2.2 i x hx).kept (oq _ (by have := h.1; show sz + i ≠ b; omega))⟩
theorem HN.push {G : GG} {b sz : Nat} {ob x : Cel} {L : List Cel} {H H1 : Heap} (h : HN G b sz ob L H) (e1 : va_at G.1 vwCl (H.size, trc G.2.1 x) H1) (z : H1.size = H.size + 1) (oq : ∀ q : Nat, q < H.size → H1[q]? = H[q]?) : HN G b sz ob (L ++ [x]) H1 := by
  obtain ⟨h1, h2, h3, h4⟩ := h
  refine ⟨h1, h2.kept (oq _ h2.lt), by rw [z, h3, List.length_append]; rfl, fun i y hy => ?_⟩
  by_cases hl : i < L.length
  · rw [List.getElem?_append_left hl] at hy
    exact (h4 i y hy).kept (oq _ (h4 i y hy).lt)
  · rw [List.getElem?_append_right (by omega)] at hy
    have hz : i - L.length < 1 := (List.getElem?_eq_some_iff.mp hy).1
    have hi : i = L.length := by omega
    subst hi
    rw [Nat.sub_self] at hy
    cases hy
    rw [← h3]
    exact e1
theorem HN.set {G : GG} {b sz i : Nat} {ob x x0 : Cel} {L : List Cel} {H H1 : Heap} (h : HN G b sz ob L H) (hi : L[i]? = some x0) (e1 : va_at G.1 vwCl (sz + i, trc G.2.1 x) H1) (z : H1.size = H.size) (oq : ∀ q : Nat, q ≠ sz + i → H1[q]? = H[q]?) : HN G b sz ob (L.set i x) H1 := by
  obtain ⟨h1, h2, h3, h4⟩ := h
  have hl := (List.getElem?_eq_some_iff.mp hi).1
  refine ⟨h1, h2.kept (oq _ (by show b ≠ sz + i; omega)), by rw [z, h3, List.length_set], fun j y hy => ?_⟩
  by_cases hj : j = i
  · subst hj
    rw [List.getElem?_set_self hl] at hy
    cases hy
    exact e1
  · rw [List.getElem?_set_ne (Ne.symm hj)] at hy
    exact (h4 j y hy).kept (oq _ (by show sz + j ≠ sz + i; omega))
/-- the cell at place j, the last one, was given to its constructor -/
theorem HN.join {G : GG} {b sz j : Nat} {ob x y : Cel} {L N : List Cel} {H H1 : Heap} (h : HN G b sz ob L H) (hj : L[j]? = some x) (h1 : HN G (sz + j) (sz + L.length) y N H1) (hq : ∀ q : Nat, q < H.size → ¬ AN (sz + j) (sz + L.length) q → H1[q]? = H[q]?) : HN G b sz ob (L.set j y ++ N) H1 := by
  obtain ⟨a1, a2, a3, a4⟩ := h
  obtain ⟨b1, b2, b3, b4⟩ := h1
  have hl := (List.getElem?_eq_some_iff.mp hj).1
  refine ⟨a1, a2.kept (hq _ a2.lt (fun z => by rcases z with z | z <;> (have z : _ := z; simp only at z; omega))), by rw [b3, List.length_append, List.length_set]; omega, fun i v hv => ?_⟩
  by_cases hi : i < L.length
  · rw [List.getElem?_append_left (by rw [List.length_set]; exact hi)] at hv
    by_cases hij : i = j
    · subst hij
      rw [List.getElem?_set_self hl] at hv
      cases hv
      exact b2
    · rw [List.getElem?_set_ne (Ne.symm hij)] at hv
      exact (a4 i v hv).kept (hq _ (a4 i v hv).lt (fun z => by rcases z with z | z <;> (have z : _ := z; simp only at z; omega)))
  · rw [List.getElem?_append_right (by rw [List.length_set]; omega), List.length_set] at hv
    have := b4 _ v hv
    rw [show sz + L.length + (i - L.length) = sz + i by omega] at this
    exact this
section VNN
variable {p : Program} {l : Launch} {e : Env} {R : Room} {s : State} {m : MethodId} {args : Array Value} {below : List Frame} {meth : Method} {c : Code} {G : GG} {b sz : Nat} {cc : ByteArray} {nL : Nat} {own : String} {Ts : List Cond}
variable {mc ms : Nat} {o1 ob : Cel} {N L : List Cel} {pc : Nat} {lv : List (Nat × Value)} {st : List Value} {k n : Nat}
theorem ConN.of {y : MethodName} {ws ws' : List Cond} {rm : Room} {o0 : Cel} {maxL : Nat} (hown : y.cls = own) (hnm : y.name = "<init>") (hy : plainName y.cls = true) (hw : ws = Cond.code y cc maxL none :: ws') (hlen : 1 ≤ maxL)
    (body : ∀ (p : Program) (e : Env) (s : State) (m : MethodId) (args : Array Value) (below : List Frame) (meth : Method) (c : Code), CxN p s m args meth c G b sz cc maxL own ws → VN p l e rm s m args below meth c G b sz maxL mc ms o1 N 0 [(0, .ref b)] [] o0 [] 0 0) : ConN l y ws rm G b sz o0 o1 N mc ms := by
  refine Met.ofW (cc := cc) (maxL := maxL) (ret := none) hy hw ?_
  subst hown
  intro p e s m args below meth c s₁ B hml hv
  obtain ⟨rfl, hP, hE⟩ := hv
  have hl := lv_entry [.ref b] (n := maxL) hlen
  rw [lg_entry_eq]
  exact body p e s m _ below meth c ⟨B.exec, B.bytes, hml, findClass_of_methodNamed B.named, atoms_spec B.pre, hE, B.notSynchronized, B.returns, by rw [← hnm]; exact (name_of_methodNamed B.named B.method).1, by rw [hP.2.2.1]; rfl⟩ s.heap [] _ hl hP va_S.rf
theorem n_nrm {L' : List Cel} {ob' : Cel} {st' : List Value} (h : L = L') (h1 : ob = ob') (h2 : st = st') (kk : VN p l e R s m args below meth c G b sz nL mc ms o1 N pc lv st' ob' L' k n) : VN p l e R s m args below meth c G b sz nL mc ms o1 N pc lv st ob L k n := by subst h h1 h2; exact kk
theorem n_norm {L' : List Cel} (h : L = L') (kk : VN p l e R s m args below meth c G b sz nL mc ms o1 N pc lv st ob L' k n) : VN p l e R s m args below meth c G b sz nL mc ms o1 N pc lv st ob L k n := h ▸ kk
theorem n_iconst (C : CxN p s m args meth c G b sz cc nL own Ts) {i0 : Int} {v : Int32} (d : decode cc pc = .ok (.iconst i0, 1)) (hv : Int32.ofInt i0 = v) (kk : VN p l e R s m args below meth c G b sz nL mc ms o1 N (pc + 1) lv (.int v :: st) ob L k n) : VN p l e R s m args below meth c G b sz nL mc ms o1 N pc lv st ob L k n :=
  fun H locs ls hl hP hS => lv_iconst C.1 C.2.1 d hv (kk H locs ls hl hP hS)
theorem n_bipush (C : CxN p s m args meth c G b sz cc nL own Ts) {i0 : Int} {v : Int32} (d : decode cc pc = .ok (.bipush i0, 2)) (hv : (Int8.ofInt i0).toInt32 = v) (kk : VN p l e R s m args below meth c G b sz nL mc ms o1 N (pc + 2) lv (.int v :: st) ob L k n) : VN p l e R s m args below meth c G b sz nL mc ms o1 N pc lv st ob L k n :=
  fun H locs ls hl hP hS => lv_bipush C.1 C.2.1 d hv (kk H locs ls hl hP hS)
theorem n_sipush (C : CxN p s m args meth c G b sz cc nL own Ts) {i0 : Int} {v : Int32} (d : decode cc pc = .ok (.sipush i0, 3)) (hv : (Int16.ofInt i0).toInt32 = v) (kk : VN p l e R s m args below meth c G b sz nL mc ms o1 N (pc + 3) lv (.int v :: st) ob L k n) : VN p l e R s m args below meth c G b sz nL mc ms o1 N pc lv st ob L k n :=
  fun H locs ls hl hP hS => lv_sipush C.1 C.2.1 d hv (kk H locs ls hl hP hS)
theorem n_iload_n (C : CxN p s m args meth c G b sz cc nL own Ts) {k0 : Fin 4} {i : Nat} {x : Int32} (q : Nat) (d : decode cc pc = .ok (.iload_n k0, 1)) (hi : (k0 : Nat) = i) (hq : lv[q]? = some (i, .int x)) (kk : VN p l e R s m args below meth c G b sz nL mc ms o1 N (pc + 1) lv (.int x :: st) ob L k n) : VN p l e R s m args below meth c G b sz nL mc ms o1 N pc lv st ob L k n :=
  fun H locs ls hl hP hS => lv_iload_n C.1 C.2.1 d hi (lv_at hl q hq) (kk H locs ls hl hP hS)
theorem n_aload_n (C : CxN p s m args meth c G b sz cc nL own Ts) {k0 : Fin 4} {i : Nat} {x : Nat} (q : Nat) (d : decode cc pc = .ok (.aload_n k0, 1)) (hi : (k0 : Nat) = i) (hq : lv[q]? = some (i, .ref x)) (kk : VN p l e R s m args below meth c G b sz nL mc ms o1 N (pc + 1) lv (.ref x :: st) ob L k n) : VN p l e R s m args below meth c G b sz nL mc ms o1 N pc lv st ob L k n :=
  fun H locs ls hl hP hS => lv_aload_n C.1 C.2.1 d hi (lv_at hl q hq) (kk H locs ls hl hP hS)
theorem n_dup (C : CxN p s m args meth c G b sz cc nL own Ts) {va : Value} (d : decode cc pc = .ok (.dup, 1)) (hva : va.category = 1) (kk : VN p l e R s m args below meth c G b sz nL mc ms o1 N (pc + 1) lv (va :: va :: st) ob L k n) : VN p l e R s m args below meth c G b sz nL mc ms o1 N pc lv (va :: st) ob L k n :=
  fun H locs ls hl hP hS => lv_dup C.1 C.2.1 d hva (kk H locs ls hl hP hS)
theorem n_istore_n (C : CxN p s m args meth c G b sz cc nL own Ts) {k0 : Fin 4} {i : Nat} {x : Int32} {lv' : List (Nat × Value)} (d : decode cc pc = .ok (.istore_n k0, 1)) (hi : (k0 : Nat) = i) (hn : i < nL) (hl' : (i, Value.int x) :: lv.filter (fun q => !(q.1 == i) && !(q.1 + 1 == i && q.2.category == 2)) = lv') (kk : VN p l e R s m args below meth c G b sz nL mc ms o1 N (pc + 1) lv' st ob L k n) : VN p l e R s m args below meth c G b sz nL mc ms o1 N pc lv (.int x :: st) ob L k n :=
  fun H locs ls hl hP hS => lv_istore_n C.1 C.2.1 d hi hl hn hl' (fun ls' h' => kk H locs ls' h' hP hS)
theorem n_iinc (C : CxN p s m args meth c G b sz cc nL own Ts) {i j : Nat} {i0 : Int} {x v : Int32} {lv' : List (Nat × Value)} (d : decode cc pc = .ok (.iinc i i0, 3)) (hk : lv[j]? = some (i, .int x)) (hv : x + Int32.ofInt i0 = v) (hn : i < nL) (hl' : (i, Value.int v) :: lv.filter (fun q => !(q.1 == i) && !(q.1 + 1 == i && q.2.category == 2)) = lv') (kk : VN p l e R s m args below meth c G b sz nL mc ms o1 N (pc + 3) lv' st ob L k n) : VN p l e R s m args below meth c G b sz nL mc ms o1 N pc lv st ob L k n :=
  fun H locs ls hl hP hS => lv_iinc C.1 C.2.1 d hl hk hv hn hl' (fun ls' h' => kk H locs ls' h' hP hS)
theorem n_goto (C : CxN p s m args meth c G b sz cc nL own Ts) {off : Int} {tgt : Nat} (d : decode cc pc = .ok (.goto off, 3)) (ht : (pc : Int) + off = (tgt : Int)) (kk : VN p l e R s m args below meth c G b sz nL mc ms o1 N tgt lv st ob L k n) : VN p l e R s m args below meth c G b sz nL mc ms o1 N pc lv st ob L k n :=
  fun H locs ls hl hP hS => lv_goto C.1 C.2.1 d ht (kk H locs ls hl hP hS)
theorem n_geT (C : CxN p s m args meth c G b sz cc nL own Ts) {x y : Int32} {off : Int} {tgt : Nat} (d : decode cc pc = .ok (.if_icmp .ge off, 3)) (ht : (pc : Int) + off = (tgt : Int)) (hq : y ≤ x) (kk : VN p l e R s m args below meth c G b sz nL mc ms o1 N tgt lv st ob L k n) : VN p l e R s m args below meth c G b sz nL mc ms o1 N pc lv (.int y :: .int x :: st) ob L k n :=
  fun H locs ls hl hP hS => lv_icmp_ge C.1 C.2.1 d ht (fun _ => kk H locs ls hl hP hS) (fun q => absurd hq q)
theorem n_geF (C : CxN p s m args meth c G b sz cc nL own Ts) {x y : Int32} {off : Int} {tgt : Nat} (d : decode cc pc = .ok (.if_icmp .ge off, 3)) (ht : (pc : Int) + off = (tgt : Int)) (hq : ¬ y ≤ x) (kk : VN p l e R s m args below meth c G b sz nL mc ms o1 N (pc + 3) lv st ob L k n) : VN p l e R s m args below meth c G b sz nL mc ms o1 N pc lv (.int y :: .int x :: st) ob L k n :=
  fun H locs ls hl hP hS => lv_icmp_ge C.1 C.2.1 d ht (fun q => absurd q hq) (fun _ => kk H locs ls hl hP hS)
theorem n_getThis (C : CxN p s m args meth c G b sz cc nL own Ts) {ci NF k0 idx : Nat} {K : String} {T : u_T} {fs : List Value} {v : Value} (hc : vwCl[ci]? = some (K, T, NF)) (hin : ∀ x ∈ u_ws K T NF, x ∈ Ts) (hk : k0 < NF) (hl0 : Cond.fieldLink own idx (T k0).1 (T k0).2.1 (T k0).2.2.1 ∈ Ts) (d : decode cc pc = .ok (.getfield idx, 3)) (h : fs[k0]? = some v) (kk : VN p l e R s m args below meth c G b sz nL mc ms o1 N (pc + 3) lv (v :: st) (.inr (ci, fs)) L k n) : VN p l e R s m args below meth c G b sz nL mc ms o1 N pc lv (.ref b :: st) (.inr (ci, fs)) L k n := by
  intro H locs ls hl hP hS
  have hP1 : va_P G.1 vwCl [(b, .inr (ci, fs))] H := fun j q hj => by
    cases j with
    | zero => cases hj; exact hP.2.1
    | succ j => simp at hj
  exact va_get C.1 C.2.1 C.2.2.2.2.1 hin C.2.2.2.1 C.2.2.2.2.2.1.1 hP1 0 rfl hc k0 hk (C.2.2.2.2.1 _ hl0) (fun _ h9 => h9) h d (kk H locs ls hl hP hS)
theorem n_putThis (C : CxN p s m args meth c G b sz cc nL own Ts) {ci NF k0 idx : Nat} {K : String} {T : u_T} {fs : List Value} {v : Value} {ty0 : Nat → FieldType} {ty : FieldType} (hc : vwCl[ci]? = some (K, T, NF)) (hin : ∀ x ∈ u_ws K T NF, x ∈ Ts) (hty : ∀ k, k < NF → parseFieldDescriptor (T k).2.2.1 = some (ty0 k)) (hnm : ∀ a, a < NF → ∀ b, b < NF → a ≠ b → (T a).2.1 ≠ (T b).2.1) (hk : k0 < NF) (hl0 : Cond.fieldLink own idx (T k0).1 (T k0).2.1 (T k0).2.2.1 ∈ Ts) (hfin : (T k0).2.2.2 = false) (hd0 : parseFieldDescriptor (T k0).2.2.1 = some ty) (hn : narrow ty v = v) (hfit : fits ty v = true) (hlf : k0 < fs.length) (d : decode cc pc = .ok (.putfield idx, 3)) (kk : VN p l e R s m args below meth c G b sz nL mc ms o1 N (pc + 3) lv st (.inr (ci, fs.set k0 v)) L k n) : VN p l e R s m args below meth c G b sz nL mc ms o1 N pc lv (v :: .ref b :: st) (.inr (ci, fs)) L k n := by
  intro H locs ls hl hP hS0
  have hap := va_apart (own := own) C.2.2.2.2.1 hin ty0 hty hnm C.2.2.2.2.2.1.1 hc
  obtain ⟨r, h1, cell, q1, q2, q3, q4⟩ := hP.2.1
  have hr : r = (K, T, NF) := Option.some.inj (h1.symm.trans hc)
  subst hr
  obtain ⟨hS, hfc, kC, hkC, hkind⟩ := C.2.2.2.2.2.1.1.1 ci _ hc
  obtain ⟨cf, kf, fi, f, hi, hsl⟩ := hS k0 hk
  have hlay := C.2.2.2.2.1 _ (hin _ (u_in_lay hk))
  unfold u_lay at hlay
  rw [if_neg (by rw [hfin]; decide)] at hlay
  have hst := (u_facts hfc hkC (u_lays C.2.2.2.2.1 hin hk) hi).1
  have h6 := u_store hfc hkC hkind hlay hi hd0 hn hfit
  refine W.putK C.1 C.2.1 (f := f) ⟨C.2.2.2.1, C.2.2.2.2.1 _ hl0, ⟨_, _, _, hi⟩, hst⟩ (by rw [q2]; exact h6) q1 q3 (by rw [hsl]; exact k2_hasslot (q4 k0 hk)) rfl rfl d fun H' e1 e2 e3 => ?_
  rw [hsl] at e1 ⊢
  exact kk H' _ ls hl (hP.put ⟨_, hc, t_OB.to (V := updV (vp_V fs) k0 v) ⟨_, e1, q2, q3, t_set q4 hap hk v⟩ (fun j _ => vp_updV_set hlf v j)⟩ e2 e3) (hS0.put e2 e3 (Or.inl rfl))
theorem n_putThisF (C : CxN p s m args meth c G b sz cc nL own Ts) {ci NF k0 idx : Nat} {K : String} {T : u_T} {fs : List Value} {v : Value} {ty0 : Nat → FieldType} {ty : FieldType} (hc : vwCl[ci]? = some (K, T, NF)) (hin : ∀ x ∈ u_ws K T NF, x ∈ Ts) (hty : ∀ k, k < NF → parseFieldDescriptor (T k).2.2.1 = some (ty0 k)) (hnm : ∀ a, a < NF → ∀ b, b < NF → a ≠ b → (T a).2.1 ≠ (T b).2.1) (hk : k0 < NF) (hl0 : Cond.fieldLink own idx (T k0).1 (T k0).2.1 (T k0).2.2.1 ∈ Ts) (hfin : (T k0).2.2.2 = true) (hdecl : (T k0).1 = own) (hd0 : parseFieldDescriptor (T k0).2.2.1 = some ty) (hn : narrow ty v = v) (hfit : fits ty v = true) (hlf : k0 < fs.length) (d : decode cc pc = .ok (.putfield idx, 3)) (kk : VN p l e R s m args below meth c G b sz nL mc ms o1 N (pc + 3) lv st (.inr (ci, fs.set k0 v)) L k n) : VN p l e R s m args below meth c G b sz nL mc ms o1 N pc lv (v :: .ref b :: st) (.inr (ci, fs)) L k n := by
  intro H locs ls hl hP hS0
  have hap := va_apart (own := own) C.2.2.2.2.1 hin ty0 hty hnm C.2.2.2.2.2.1.1 hc
  obtain ⟨r, h1, cell, q1, q2, q3, q4⟩ := hP.2.1
  have hr : r = (K, T, NF) := Option.some.inj (h1.symm.trans hc)
  subst hr
  obtain ⟨hS, hfc, kC, hkC, hkind⟩ := C.2.2.2.2.2.1.1.1 ci _ hc
  obtain ⟨cf, kf, fi, f, hi, hsl⟩ := hS k0 hk
  have hlay := C.2.2.2.2.1 _ (hin _ (u_in_lay hk))
  unfold u_lay at hlay
  rw [if_pos hfin] at hlay
  have hst := (u_facts hfc hkC (u_lays C.2.2.2.2.1 hin hk) hi).1
  have hcf : m.cls = cf := by
    obtain ⟨_, _, c', _, _, _, -, -, hf', -, -, -, hown2, -⟩ := Cond.laysFinal_spec hlay
    have e1 : c' = cf := by have := hi.symm.trans hf'; simp at this; exact this.1.symm
    rw [hdecl] at hown2
    rw [← e1]; exact Option.some.inj (C.2.2.2.1.symm.trans hown2)
  have h6 := u_fits hfc hkC hkind (Or.inr hlay) hi hd0 hn hfit
  refine W.putFinK C.1 C.2.1 C.2.2.2.1 (C.2.2.2.2.1 _ hl0) hi hst hcf C.2.2.2.2.2.2.2.2.1 (by rw [q2]; exact h6) q1 q3 (by rw [hsl]; exact k2_hasslot (q4 k0 hk)) rfl rfl d fun H' e1 e2 e3 => ?_
  rw [hsl] at e1 ⊢
  exact kk H' _ ls hl (hP.put ⟨_, hc, t_OB.to (V := updV (vp_V fs) k0 v) ⟨_, e1, q2, q3, t_set q4 hap hk v⟩ (fun j _ => vp_updV_set hlf v j)⟩ e2 e3) (hS0.put e2 e3 (Or.inl rfl))
theorem n_newa (C : CxN p s m args meth c G b sz cc nL own Ts) {atype : ArrayType} (kd : Nat) {ty : FieldType} {i0 : Int32} {N' : Nat} (harr : Cond.arrayClass (newarray.typeOf atype) ∈ Ts) (hty : newarray.typeOf atype = ty) (hkd : (atys G.2.1)[kd]? = some (G.2.1 kd, ty)) (hRA : ∀ U : State, va_RA U (G.2.1 kd) ty → U.vm.findClass ("[" ++ ty.toString) = some (G.2.1 kd)) (ha : ∀ cA : ClassId, vp_cell cA (N', .inl (fun _ => 0)) = arrV cA N' (fun _ => defaultValue ty)) (hn : ¬ i0 < 0) (hN : i0.toNatClampNeg = N') (hbytes : N' * componentBytes ty ≤ 536870912) (hcells : k + 1 ≤ R.cells) (hslots : n + N' ≤ R.slots) (d : decode cc pc = .ok (.newarray atype, 2)) (kk : VN p l e R s m args below meth c G b sz nL mc ms o1 N (pc + 2) lv (.ref (sz + L.length) :: st) ob (L ++ [.inl (kd, N', .inl (fun _ => 0))]) (k + 1) (n + N')) : VN p l e R s m args below meth c G b sz nL mc ms o1 N pc lv (.int i0 :: st) ob L k n := by
  intro H locs ls hl hP hS
  subst hty
  refine va_newaK C.1 C.2.1 (C.2.2.2.2.1 _ harr) rfl d rfl hn hN hbytes hcells hslots rfl fun H1 cA e1 z1 o1 hAr hNm => ?_
  have hA : cA = G.2.1 kd := Option.some.inj (hNm.symm.trans (hRA s (C.2.2.2.2.2.1.1.2 kd _ hkd).2))
  subst hA
  have q := kk H1 locs ls hl (hP.push (by show H1[H.size]? = some (vp_cell _ _); rw [ha]; exact e1) z1 o1) ⟨Nat.le_trans hS.1 (by omega), fun x h1 h2 => (o1 x (Nat.lt_of_lt_of_le h1 hS.1)).trans (hS.2.1 x h1 h2), hS.2.2⟩
  rw [← hP.2.2.1] at q
  exact q
theorem n_newq (C : CxN p s m args meth c G b sz cc nL own Ts) {idx : Nat} (kd : Nat) {K : String} {i0 : Int32} {N' : Nat} (hcl : Cond.classLink own idx K ∈ Ts) (hAO : va_AO K s) (hkd : (atys G.2.1)[kd]? = some (G.2.1 kd, .object K)) (hn : ¬ i0 < 0) (hN : i0.toNatClampNeg = N') (hbytes : N' * 4 ≤ 536870912) (hcells : k + 1 ≤ R.cells) (hslots : n + N' ≤ R.slots) (d : decode cc pc = .ok (.anewarray idx, 3)) (kk : VN p l e R s m args below meth c G b sz nL mc ms o1 N (pc + 3) lv (.ref (sz + L.length) :: st) ob (L ++ [.inl (kd, N', .inr (.inr (.inr (.inr (fun _ => none)))))]) (k + 1) (n + N')) : VN p l e R s m args below meth c G b sz nL mc ms o1 N pc lv (.int i0 :: st) ob L k n := by
  intro H locs ls hl hP hS
  subst hN
  refine W.anew C.1 C.2.1 C.2.2.2.1 (C.2.2.2.2.1 _ hcl) (va_AO.use hAO) rfl d rfl hn hbytes hcells hslots fun cA kA comp f1 f2 f3 f4 => ?_
  generalize hH1 : H.push ({ cls := cA, slots := Array.replicate i0.toNatClampNeg .null, vm := .none } : Cell) = H1
  have z1 : H1.size = H.size + 1 := by rw [← hH1, Array.size_push]
  have e1 : H1[H.size]? = some (arrV cA i0.toNatClampNeg (fun _ => .null)) := by rw [← hH1, Array.getElem?_push_size, ← arrV_new]
  have o1 : ∀ q : Nat, q < H.size → H1[q]? = H[q]? := fun q hq => by rw [← hH1, Array.getElem?_push, if_neg (Nat.ne_of_lt hq)]
  obtain ⟨kA', comp', -, -, -, g4⟩ := (C.2.2.2.2.2.1.1.2 kd _ hkd).2
  have hA : cA = G.2.1 kd := Option.some.inj (f1.symm.trans g4)
  subst hA
  have q := kk H1 locs ls hl (hP.push (by show H1[H.size]? = some (vp_cell _ _); rw [vp_cell_q]; exact e1) z1 o1) ⟨Nat.le_trans hS.1 (by omega), fun x h1 h2 => (o1 x (Nat.lt_of_lt_of_le h1 hS.1)).trans (hS.2.1 x h1 h2), hS.2.2⟩
  rw [← hP.2.2.1] at q
  exact q
theorem n_new (C : CxN p s m args meth c G b sz cc nL own Ts) {ci NF idx : Nat} {K : String} {T : u_T} {fs : List Value} {ty0 : Nat → FieldType} (hc : vwCl[ci]? = some (K, T, NF)) (hin : ∀ x ∈ u_ws K T NF, x ∈ Ts) (hty : ∀ k, k < NF → parseFieldDescriptor (T k).2.2.1 = some (ty0 k)) (hcl : Cond.classLink own idx K ∈ Ts) (hinst : Cond.instantiable K NF ∈ Ts) (hini : Cond.initialized K ∈ Ts) (hfs : ∀ j, j < NF → defaultValue (ty0 j) = vp_V fs j) (hcells : k + 1 ≤ R.cells) (hslots : n + NF ≤ R.slots) (d : decode cc pc = .ok (.new idx, 3)) (kk : VN p l e R s m args below meth c G b sz nL mc ms o1 N (pc + 3) lv (.ref (sz + L.length) :: st) ob (L ++ [.inr (ci, fs)]) (k + 1) (n + NF)) : VN p l e R s m args below meth c G b sz nL mc ms o1 N pc lv st ob L k n := by
  intro H locs ls hl hP hS
  have hKn := C.2.2.2.2.2.1.1.1 ci _ hc
  refine W.newcK C.1 C.2.1 C.2.2.2.1 (C.2.2.2.2.1 _ hcl) (C.2.2.2.2.1 _ hinst) (C.2.2.2.2.1 _ hini) rfl d hcells hslots hKn.2.1 rfl fun H1 kC hkC e1 z1 o1 => ?_
  have q := kk H1 locs ls hl (hP.push ⟨_, hc, (u_born ty0 C.2.2.2.2.1 hin hKn hkC e1 hty).to hfs⟩ z1 o1) ⟨Nat.le_trans hS.1 (by omega), fun x h1 h2 => (o1 x (Nat.lt_of_lt_of_le h1 hS.1)).trans (hS.2.1 x h1 h2), hS.2.2⟩
  rw [← hP.2.2.1] at q
  exact q
theorem n_iast (C : CxN p s m args meth c G b sz cc nL own Ts) {j n0 : Nat} {f : Nat → Int32} {i x : Int32} (hj : L[j]? = some (.inl (0, n0, .inl f))) (hin : ¬ (i < 0 ∨ n0 ≤ i.toNatClampNeg)) (d : decode cc pc = .ok (.iastore, 1)) (kk : VN p l e R s m args below meth c G b sz nL mc ms o1 N (pc + 1) lv st ob (L.set j (.inl (0, n0, .inl (upd f i.toNatClampNeg x)))) k n) : VN p l e R s m args below meth c G b sz nL mc ms o1 N pc lv (.int x :: .int i :: .ref (sz + j) :: st) ob L k n := by
  intro H locs ls hl hP hS
  refine W.iast C.1 C.2.1 (hP.2.2.2 j _ hj) ((C.2.2.2.2.2.1.1.2 0 _ rfl).1 n0 (fun j => .int (f j))) (fun q => by cases q) (by show ¬ (i < 0 ∨ (arrV _ _ _).slots.size ≤ _); rw [arrV_size]; exact hin) rfl rfl d fun H1 e z oq => ?_
  refine kk H1 _ ls hl (hP.set hj ?_ z oq) (hS.put z oq (Or.inr (Nat.le_add_right _ _)))
  show H1[sz + j]? = some (vp_cell _ _)
  rw [e]
  rw [vp_cell_i, vp_cell_i, arrV_store]
  congr 2
  funext q
  by_cases hq : q = i.toNatClampNeg
  · subst hq
    simp [updV, upd]
  · simp [updV, upd, hq]
theorem n_aast (C : CxN p s m args meth c G b sz cc nL own Ts) {j jv ci kd n0 : Nat} {r : vw_C} {vs : List Value} {f : Nat → Option Nat} {i : Int32} (hj : L[j]? = some (.inl (kd, n0, .inr (.inr (.inr (.inr f)))))) (hkd : (atys G.2.1)[kd]? = some (G.2.1 kd, .object r.1)) (hv : L[jv]? = some (.inr (ci, vs))) (hc : vwCl[ci]? = some r) (hin : ¬ (i < 0 ∨ n0 ≤ i.toNatClampNeg)) (d : decode cc pc = .ok (.aastore, 1)) (kk : VN p l e R s m args below meth c G b sz nL mc ms o1 N (pc + 1) lv st ob (L.set j (.inl (kd, n0, .inr (.inr (.inr (.inr (va_up f i.toNatClampNeg (some (sz + jv))))))))) k n) : VN p l e R s m args below meth c G b sz nL mc ms o1 N pc lv (.ref (sz + jv) :: .int i :: .ref (sz + j) :: st) ob L k n := by
  intro H locs ls hl hP hS
  have hlt : i.toNatClampNeg < n0 := Nat.not_le.mp fun q => hin (Or.inr q)
  have h0 : ¬ i < 0 := fun q => hin (Or.inl q)
  obtain ⟨r', hr', cellV, g1, g2, g3, -⟩ := hP.2.2.2 jv _ hv
  have hcls := (C.2.2.2.2.2.1.1.1 ci r hc).2
  obtain ⟨kA, comp, k1, k2, k3, -⟩ := (C.2.2.2.2.2.1.1.2 kd _ hkd).2
  have hcomp : comp = G.1.1 ci := Option.some.inj (k3.symm.trans hcls.1)
  subst hcomp
  obtain ⟨kC, hkC, -⟩ := hcls.2
  refine W.aast C.1 C.2.1 (hP.2.2.2 j _ hj) (fun q h => by cases h) (fun h => by cases h) k1 k2 rfl hkC ⟨h0, by show _ < (arrV _ _ _).slots.size; rw [arrV_size]; exact hlt⟩ g1 (fun q h => by rw [g3] at h; cases h) (by rw [g2]; exact hkC) (by rw [g2]; exact va_assign hcls) rfl rfl d fun H1 e z oq => ?_
  refine kk H1 _ ls hl (hP.set hj ?_ z oq) (hS.put z oq (Or.inr (Nat.le_add_right _ _)))
  show H1[sz + j]? = some (vp_cell _ _)
  rw [e]
  rw [vp_cell_q, vp_cell_q, arrV_store]
  congr 2
  funext q
  by_cases hq : q = i.toNatClampNeg
  · subst hq
    simp [updV, va_up, va_rf]
  · simp [updV, va_up, hq]
theorem n_objInit (C : CxN p s m args meth c G b sz cc nL own Ts) {idx a : Nat} (h1 : Cond.methodLink own idx objectInit ∈ Ts) (h2 : Cond.instanceMethod objectInit ∈ Ts) (h3 : Cond.code objectInit ⟨#[0xb1]⟩ 1 none ∈ Ts) (d : decode cc pc = .ok (.invokespecial idx, 3)) (hf : 1 ≤ R.frames) (hlo : (st.map fun v => v.category).sum + 12 ≤ R.locals) (kk : VN p l e R s m args below meth c G b sz nL mc ms o1 N (pc + 3) lv st ob L k n) : VN p l e R s m args below meth c G b sz nL mc ms o1 N pc lv (.ref a :: st) ob L k n := by
  intro H locs ls hl hP hS
  exact W.objInit C.1 C.2.1 C.2.2.2.1 (C.2.2.2.2.1 _ h1) (C.2.2.2.2.1 _ h2) (C.2.2.2.2.1 _ h3) rfl (by rw [C.2.2.1]; exact hl.1) rfl d hf (by show 2 * 0 + _ + 12 ≤ _; omega) (kk H locs ls hl hP hS)
theorem n_vret (C : CxN p s m args meth c G b sz cc nL own Ts) (d : decode cc pc = .ok (.return_, 1)) (hk : k = mc) (hn : n = ms) (ho : ob = o1) (hL : L = N) : VN p l e R s m args below meth c G b sz nL mc ms o1 N pc lv [] ob L k n := by
  subst hk hn ho hL
  intro H locs ls hl hP hS
  exact W.vret C.1 C.2.1 C.2.2.2.2.2.2.2.1 (fun t ht hW => ⟨⟨rfl, by rw [ht]; exact hP⟩, hS.F ht⟩) hS.2.2 d C.2.2.2.2.2.2.1
theorem n_run {j mc1 ms1 : Nat} {x y : Cel} {N1 : List Cel} {H : Heap} {locs : List Loc} {ls : Array Slot} {st0 : List Value} (hl : lv_has ls nL lv) (hP : HN G b sz ob L H) (hS : va_S (AN b sz) s.heap H locs) (hj : L[j]? = some x) (hr : va_Run p l e R s m args below meth c H locs k n mc1 ms1 (F0 m pc ls st0) st (QN G (sz + j) (sz + L.length) y N1 #[.ref (sz + j)]) (AN (sz + j) (sz + L.length))) (kk : VN p l e R s m args below meth c G b sz nL mc ms o1 N (pc + 3) lv st ob (L.set j y ++ N1) (k + mc1) (n + ms1)) :
    W p l e R s m args below meth c H locs k n (MQ below (QN G b sz o1 N) args s mc ms (AN b sz)) (F0 m pc ls st0) := by
  intro T hT X
  obtain ⟨v, st₀, t, T', Lo, h0, X', hL, e1, e2, ⟨⟨hv, hh⟩, hz, hk⟩, stp⟩ := hr T hT X
  cases hv
  rw [h0] at hz hk
  have hsub : ∀ q, AN (sz + j) (sz + L.length) q → AN b sz q := fun q z => by
    rcases z with z | z
    · exact Or.inr (by rw [z]; exact Nat.le_add_right _ _)
    · exact Or.inr (Nat.le_trans (Nat.le_add_right _ _) z)
  obtain ⟨t2, a1, b1⟩ := kk T'.heap (locs ++ Lo) ls hl (hP.join hj (by rw [e1]; exact hh) (fun q h1 h2 => by rw [e1]; exact hk q h1 h2))
    ⟨Nat.le_trans hS.1 (by rw [e1]; exact hz), fun q h1 h2 => by rw [e1, hk q (Nat.lt_of_lt_of_le h1 hS.1) (fun z => h2 (hsub q z))]; exact hS.2.1 q h1 h2, fun q hq => by
      rcases List.mem_append.mp hq with h | h
      · exact hS.2.2 q h
      · exact hsub _ (hL q h)⟩ T' rfl X'
  exact ⟨t2, stp t2 a1, b1⟩
theorem HN.sub {j : Nat} {x : Cel} {H : Heap} (hP : HN G b sz ob L H) (hj : L[j]? = some x) : HN G (sz + j) (sz + L.length) x [] H :=
  ⟨Nat.add_lt_add_left (List.getElem?_eq_some_iff.mp hj).1 _, hP.2.2.2 j x hj, hP.2.2.1, fun i y hy => by simp at hy⟩
theorem n_callI (C : CxN p s m args meth c G b sz cc nL own Ts) {j mc1 ms1 maxL idx : Nat} {x z : Cel} {N1 : List Cel} {y : MethodName} {ws ws' : List Cond} {bytes : ByteArray} {rm : Room} (hG : GoodIn Ts ws) (hw : ws = Cond.code y bytes maxL none :: ws') (hl0 : Cond.methodLink own idx y ∈ Ts) (hini : Cond.initialized y.cls ∈ Ts) (him : Cond.instanceMethod y ∈ Ts) (hnm : y.name = "<init>") (hrm : rm.cells = mc1 ∧ rm.slots = ms1) (hd : y.cls ≠ "java/lang/invoke/MethodHandle" ∧ y.cls ≠ "java/lang/invoke/VarHandle" ∧ (parseMethodDescriptor y.desc).map (fun d => d.parameters.length) = some 0) (hR : rm.frames + 1 ≤ R.frames ∧ 8 + (maxL + 11) + rm.locals ≤ R.locals) (hj : L[j]? = some x) (hjl : j + 1 = L.length) (hM : ConN l y ws rm G (sz + j) (sz + L.length) x z N1 mc1 ms1) (hW : (st.map fun v => v.category).sum ≤ 8) (d : decode cc pc = .ok (.invokespecial idx, 3)) (hf : k + mc1 ≤ R.cells ∧ n + ms1 ≤ R.slots) (kk : VN p l e R s m args below meth c G b sz nL mc ms o1 N (pc + 3) lv st ob (L.set j z ++ N1) (k + mc1) (n + ms1)) : VN p l e R s m args below meth c G b sz nL mc ms o1 N pc lv (.ref (sz + j) :: st) ob L k n := by
  intro H locs ls hl hP hS
  exact n_run hl hP hS hj (va_runI (As := []) (rest := st) (n := 0) ⟨C.1, C.2.1, C.2.2.1, C.2.2.2.1, C.2.2.2.2.1⟩ hM (cwI 0 C.2.2.2.2.1 hG hw hrm.1 hrm.2 (C.2.2.2.2.1 _ hini) (C.2.2.2.2.1 _ hl0) (C.2.2.2.2.1 _ him) hnm hd hR) ⟨PN.blind, fun U hU hWm => ⟨rfl, by rw [hU]; exact hP.sub hj, C.2.2.2.2.2.1.warm hWm⟩⟩ rfl rfl hl.1 rfl (lv_room hW) d hf) kk
theorem n_callN (C : CxN p s m args meth c G b sz cc nL own Ts) {j mc1 ms1 maxL idx : Nat} {x z : Cel} {N1 : List Cel} {y : MethodName} {host : String} {ws ws' : List Cond} {bytes : ByteArray} {rm : Room} (hG : GoodIn Ts ws) (hw : ws = Cond.code y bytes maxL none :: ws') (hl0 : va_Nw (.methodLinkNest own idx y host) s) (hini : Cond.initialized y.cls ∈ Ts) (him : Cond.instanceMethod y ∈ Ts) (hnm : y.name = "<init>") (hrm : rm.cells = mc1 ∧ rm.slots = ms1) (hd : y.cls ≠ "java/lang/invoke/MethodHandle" ∧ y.cls ≠ "java/lang/invoke/VarHandle" ∧ (parseMethodDescriptor y.desc).map (fun d => d.parameters.length) = some 0) (hR : rm.frames + 1 ≤ R.frames ∧ 8 + (maxL + 11) + rm.locals ≤ R.locals) (hj : L[j]? = some x) (hjl : j + 1 = L.length) (hM : ConN l y ws rm G (sz + j) (sz + L.length) x z N1 mc1 ms1) (hW : (st.map fun v => v.category).sum ≤ 8) (d : decode cc pc = .ok (.invokespecial idx, 3)) (hf : k + mc1 ≤ R.cells ∧ n + ms1 ≤ R.slots) (kk : VN p l e R s m args below meth c G b sz nL mc ms o1 N (pc + 3) lv st ob (L.set j z ++ N1) (k + mc1) (n + ms1)) : VN p l e R s m args below meth c G b sz nL mc ms o1 N pc lv (.ref (sz + j) :: st) ob L k n := by
  intro H locs ls hl hP hS
  exact n_run hl hP hS hj (va_runIN (As := []) (rest := st) (n := 0) ⟨C.1, C.2.1, C.2.2.1, C.2.2.2.1, C.2.2.2.2.1⟩ hM ⟨va_cnB 0 C.2.2.2.2.1 hG hw hrm.1 hrm.2 hl0 (C.2.2.2.2.1 _ hini) hd hR, hnm, C.2.2.2.2.1 _ him⟩ ⟨PN.blind, fun U hU hWm => ⟨rfl, by rw [hU]; exact hP.sub hj, C.2.2.2.2.2.1.warm hWm⟩⟩ rfl rfl hl.1 rfl (lv_room hW) d hf) kk
end VNN
