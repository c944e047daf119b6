/-! READS AND WRITES of a world as partial functions, and their rows; calls; ends -/
def agI (kd : Nat) (w : Wd) (a : Nat) (i : Int32) : Option Int32 := match w a with
  | some (.inl (k, n, .inl f)) => if k = kd then (if i < 0 ∨ n ≤ i.toNatClampNeg then none else some (f i.toNatClampNeg)) else none
  | _ => none
def asI (kd : Nat) (w : Wd) (a : Nat) (i x : Int32) : Option Wd := match w a with
  | some (.inl (k, n, .inl f)) => if k = kd then (if i < 0 ∨ n ≤ i.toNatClampNeg then none else some (wup w a (.inl (k, n, .inl (upd f i.toNatClampNeg x))))) else none
  | _ => none
def agQ (kd : Nat) (w : Wd) (a : Nat) (i : Int32) : Option Nat := match w a with
  | some (.inl (k, n, .inr (.inr (.inr (.inr f))))) => if k = kd then (if i < 0 ∨ n ≤ i.toNatClampNeg then none else f i.toNatClampNeg) else none
  | _ => none
def gfV (ci k : Nat) (w : Wd) (a : Nat) : Option Value := match w a with
  | some (.inr (c, fs)) => if c = ci then fs[k]? else none
  | _ => none
def gfI (ci k : Nat) (w : Wd) (a : Nat) : Option Int32 := match gfV ci k w a with
  | some (.int x) => some x
  | _ => none
def gfJ (ci k : Nat) (w : Wd) (a : Nat) : Option Int64 := match gfV ci k w a with
  | some (.long x) => some x
  | _ => none
def gfR (ci k : Nat) (w : Wd) (a : Nat) : Option Nat := match gfV ci k w a with
  | some (.ref x) => some x
  | _ => none
def pfV (ci k : Nat) (w : Wd) (a : Nat) (v : Value) : Option Wd := match w a with
  | some (.inr (c, fs)) => if c = ci ∧ k < fs.length then some (wup w a (.inr (c, fs.set k v))) else none
  | _ => none
def chk (ci : Nat) (w : Wd) (a : Nat) : Option Unit := match w a with
  | some (.inr (c, _)) => if c = ci then some () else none
  | _ => none
def divI (x y : Int32) : Option Int32 := if y = 0 then none else some (x / y)
def remI (x y : Int32) : Option Int32 := if y = 0 then none else some (jrm x y)
def divL (x y : Int64) : Option Int64 := if y = 0 then none else some (x / y)
def remL (x y : Int64) : Option Int64 := if y = 0 then none else some (jrmL x y)
theorem bnd {α β : Type} {x : Option α} {f : α → Option β} {r : β} (h : x.bind f = some r) : ∃ v, x = some v ∧ f v = some r := by
  cases x with
  | none => cases h
  | some v => exact ⟨v, rfl, h⟩
theorem divI_e {x y r : Int32} (h : divI x y = some r) : ¬ y = 0 ∧ x / y = r := by
  unfold divI at h
  split at h
  · cases h
  · next q => cases h; exact ⟨q, rfl⟩
theorem remI_e {x y r : Int32} (h : remI x y = some r) : ¬ y = 0 ∧ jrm x y = r := by
  unfold remI at h
  split at h
  · cases h
  · next q => cases h; exact ⟨q, rfl⟩
theorem divL_e {x y r : Int64} (h : divL x y = some r) : ¬ y = 0 ∧ x / y = r := by
  unfold divL at h
  split at h
  · cases h
  · next q => cases h; exact ⟨q, rfl⟩
theorem remL_e {x y r : Int64} (h : remL x y = some r) : ¬ y = 0 ∧ jrmL x y = r := by
  unfold remL at h
  split at h
  · cases h
  · next q => cases h; exact ⟨q, rfl⟩
theorem agI_e {kd : Nat} {w : Wd} {a : Nat} {i x : Int32} (h : agI kd w a i = some x) : ∃ n f, w a = some (.inl (kd, n, .inl f)) ∧ vp_in i n ∧ f i.toNatClampNeg = x := by
  unfold agI at h
  split at h
  · next k n f e =>
    split at h
    · next hk =>
      split at h
      · cases h
      · next q => subst hk; cases h; exact ⟨n, f, e, q, rfl⟩
    · cases h
  · cases h
theorem asI_e {kd : Nat} {w w1 : Wd} {a : Nat} {i x : Int32} (h : asI kd w a i x = some w1) : ∃ n f, w a = some (.inl (kd, n, .inl f)) ∧ vp_in i n ∧ wup w a (.inl (kd, n, .inl (upd f i.toNatClampNeg x))) = w1 := by
  unfold asI at h
  split at h
  · next k n f e =>
    split at h
    · next hk =>
      split at h
      · cases h
      · next q => subst hk; cases h; exact ⟨n, f, e, q, rfl⟩
    · cases h
  · cases h
theorem agQ_e {kd : Nat} {w : Wd} {a : Nat} {i : Int32} {x : Nat} (h : agQ kd w a i = some x) : ∃ n f, w a = some (.inl (kd, n, .inr (.inr (.inr (.inr f))))) ∧ vp_in i n ∧ f i.toNatClampNeg = some x := by
  unfold agQ at h
  split at h
  · next k n f e =>
    split at h
    · next hk =>
      split at h
      · cases h
      · next q => subst hk; exact ⟨n, f, e, q, h⟩
    · cases h
  · cases h
theorem gfV_e {ci k : Nat} {w : Wd} {a : Nat} {v : Value} (h : gfV ci k w a = some v) : ∃ fs, w a = some (.inr (ci, fs)) ∧ fs[k]? = some v := by
  unfold gfV at h
  split at h
  · next c fs e =>
    split at h
    · next hc => subst hc; exact ⟨fs, e, h⟩
    · cases h
  · cases h
theorem gfI_e {ci k : Nat} {w : Wd} {a : Nat} {x : Int32} (h : gfI ci k w a = some x) : gfV ci k w a = some (.int x) := by
  unfold gfI at h
  split at h
  · next y e => cases h; exact e
  · cases h
theorem gfJ_e {ci k : Nat} {w : Wd} {a : Nat} {x : Int64} (h : gfJ ci k w a = some x) : gfV ci k w a = some (.long x) := by
  unfold gfJ at h
  split at h
  · next y e => cases h; exact e
  · cases h
theorem gfR_e {ci k : Nat} {w : Wd} {a : Nat} {x : Nat} (h : gfR ci k w a = some x) : gfV ci k w a = some (.ref x) := by
  unfold gfR at h
  split at h
  · next y e => cases h; exact e
  · cases h
theorem pfV_e {ci k : Nat} {w w1 : Wd} {a : Nat} {v : Value} (h : pfV ci k w a v = some w1) : ∃ fs, w a = some (.inr (ci, fs)) ∧ k < fs.length ∧ wup w a (.inr (ci, fs.set k v)) = w1 := by
  unfold pfV at h
  split at h
  · next c fs e =>
    split at h
    · next hc => obtain ⟨rfl, hk⟩ := hc; cases h; exact ⟨fs, e, hk, rfl⟩
    · cases h
  · cases h
theorem chk_e {ci : Nat} {w : Wd} {a : Nat} {u : Unit} (h : chk ci w a = some u) : ∃ fs, w a = some (.inr (ci, fs)) := by
  unfold chk at h
  split at h
  · next c fs e =>
    split at h
    · next hc => subst hc; exact ⟨fs, e⟩
    · cases h
  · cases h
section VM
variable {p : Program} {l : Launch} {e : Env} {R : Room} {s : State} {m : MethodId} {args : Array Value} {below : List Frame} {meth : Method} {c : Code} {G : GG} {A : Nat → Prop} {cc : ByteArray} {nL : Nat} {own : String} {Ts : List Cond} {ret : Option FieldType}
variable {pc : Nat} {lv : List (Nat × Value)} {st : List Value} {w w' w1 : Wd} {o : Option Value} {kc ks : Nat} {Q : State → Prop}
theorem v_iald (C : Cx p s m args meth c G A cc nL own Ts ret) {a : Nat} {i x : Int32} (d : decode cc pc = .ok (.iaload, 1)) (h : agI 0 w a i = some x) (k : VQ p l e R s m args below meth c G A nL kc ks Q (pc + 1) lv (.int x :: st) w) : VQ p l e R s m args below meth c G A nL kc ks Q pc lv (.int i :: .ref a :: st) w := by
  intro H locs ls hl hP hS
  obtain ⟨n, f, e1, e2, rfl⟩ := agI_e h
  exact va_iald C.1 C.2.1 C.2.2.2.2.2.1.1 (hP.one e1) 0 0 rfl rfl e2 d (k H locs ls hl hP hS)
theorem v_zald (C : Cx p s m args meth c G A cc nL own Ts ret) {a : Nat} {i x : Int32} (d : decode cc pc = .ok (.baload, 1)) (h : agI 1 w a i = some x) (k : VQ p l e R s m args below meth c G A nL kc ks Q (pc + 1) lv (.int x :: st) w) : VQ p l e R s m args below meth c G A nL kc ks Q pc lv (.int i :: .ref a :: st) w := by
  intro H locs ls hl hP hS
  obtain ⟨n, f, e1, e2, rfl⟩ := agI_e h
  exact va_zald C.1 C.2.1 C.2.2.2.2.2.1.1 (hP.one e1) 0 1 rfl rfl e2 d (k H locs ls hl hP hS)
theorem v_aald3 (C : Cx p s m args meth c G A cc nL own Ts ret) {a x : Nat} {i : Int32} (d : decode cc pc = .ok (.aaload, 1)) (h : agQ 3 w a i = some x) (k : VQ p l e R s m args below meth c G A nL kc ks Q (pc + 1) lv (.ref x :: st) w) : VQ p l e R s m args below meth c G A nL kc ks Q pc lv (.int i :: .ref a :: st) w := by
  intro H locs ls hl hP hS
  obtain ⟨n, f, e1, e2, e3⟩ := agQ_e h
  refine va_aldq C.1 C.2.1 C.2.2.2.2.2.1.1 (hP.one e1) 0 3 rfl rfl e2 d ?_
  rw [e3]
  exact k H locs ls hl hP hS
theorem v_aald4 (C : Cx p s m args meth c G A cc nL own Ts ret) {a x : Nat} {i : Int32} (d : decode cc pc = .ok (.aaload, 1)) (h : agQ 4 w a i = some x) (k : VQ p l e R s m args below meth c G A nL kc ks Q (pc + 1) lv (.ref x :: st) w) : VQ p l e R s m args below meth c G A nL kc ks Q pc lv (.int i :: .ref a :: st) w := by
  intro H locs ls hl hP hS
  obtain ⟨n, f, e1, e2, e3⟩ := agQ_e h
  refine va_aldq C.1 C.2.1 C.2.2.2.2.2.1.1 (hP.one e1) 0 4 rfl rfl e2 d ?_
  rw [e3]
  exact k H locs ls hl hP hS
theorem v_iast (C : Cx p s m args meth c G A cc nL own Ts ret) {a : Nat} {i x : Int32} (d : decode cc pc = .ok (.iastore, 1)) (h : asI 0 w a i x = some w1) (k : VQ p l e R s m args below meth c G A nL kc ks Q (pc + 1) lv st w1) : VQ p l e R s m args below meth c G A nL kc ks Q pc lv (.int x :: .int i :: .ref a :: st) w := by
  intro H locs ls hl hP hS
  obtain ⟨n, f, e1, e2, rfl⟩ := asI_e h
  have ha : A a := (hP a _ e1).1
  have hD : va_P G.1 vwCl [(a, trc G.2.1 (.inl (0, n, .inl f)))] H := hP.one e1
  refine W.iast C.1 C.2.1 (hD 0 _ rfl) ((C.2.2.2.2.2.1.1.2 0 _ rfl).1 n (fun j => .int (f j))) (fun q => by cases q) (by show ¬ (i < 0 ∨ (arrV _ _ _).slots.size ≤ _); rw [arrV_size]; exact e2) rfl rfl d fun H1 e z oq => ?_
  refine k H1 _ ls hl (hP.put ha ?_ oq) (hS.put z oq ha)
  show H1[a]? = some (vp_cell _ _)
  rw [e]
  rw [vp_cell_i, vp_cell_i, arrV_store]
  congr 2
  funext q
  by_cases hq : q = i.toNatClampNeg
  · subst hq
    simp [updV, upd]
  · simp [updV, upd, hq]
theorem v_zast (C : Cx p s m args meth c G A cc nL own Ts ret) {a : Nat} {i x : Int32} (d : decode cc pc = .ok (.bastore, 1)) (h : asI 1 w a i (vp_nar .boolean x) = some w1) (k : VQ p l e R s m args below meth c G A nL kc ks Q (pc + 1) lv st w1) : VQ p l e R s m args below meth c G A nL kc ks Q pc lv (.int x :: .int i :: .ref a :: st) w := by
  intro H locs ls hl hP hS
  obtain ⟨n, f, e1, e2, rfl⟩ := asI_e h
  have ha : A a := (hP a _ e1).1
  have hD : va_P G.1 vwCl [(a, trc G.2.1 (.inl (1, n, .inl f)))] H := hP.one e1
  refine W.zast C.1 C.2.1 (hD 0 _ rfl) ((C.2.2.2.2.2.1.1.2 1 _ rfl).1 n (fun j => .int (f j))) (fun q => by cases q) (by show ¬ (i < 0 ∨ (arrV _ _ _).slots.size ≤ _); rw [arrV_size]; exact e2) rfl rfl d fun H1 e z oq => ?_
  refine k H1 _ ls hl (hP.put ha ?_ oq) (hS.put z oq ha)
  show H1[a]? = some (vp_cell _ _)
  rw [e]
  rw [vp_cell_i, vp_cell_i, arrV_store]
  congr 2
  funext q
  by_cases hq : q = i.toNatClampNeg
  · subst hq
    simp [updV, upd, vp_nar]
    try rfl
  · simp [updV, upd, hq]
theorem v_getf (C : Cx p s m args meth c G A cc nL own Ts ret) {ci N k idx a : Nat} {K : String} {T : u_T} {v : Value} (hc : vwCl[ci]? = some (K, T, N)) (hin : ∀ x ∈ u_ws K T N, x ∈ Ts) (hk : k < N) (hl0 : Cond.fieldLink own idx (T k).1 (T k).2.1 (T k).2.2.1 ∈ Ts) (d : decode cc pc = .ok (.getfield idx, 3)) (h : gfV ci k w a = some v) (kk : VQ p l e R s m args below meth c G A nL kc ks Q (pc + 3) lv (v :: st) w) : VQ p l e R s m args below meth c G A nL kc ks Q pc lv (.ref a :: st) w := by
  intro H locs ls hl hP hS
  obtain ⟨fs, e1, e2⟩ := gfV_e h
  exact va_get C.1 C.2.1 C.2.2.2.2.1 hin C.2.2.2.1 C.2.2.2.2.2.1.1 (hP.one e1) 0 rfl hc k hk (C.2.2.2.2.1 _ hl0) (fun _ h9 => h9) e2 d (kk H locs ls hl hP hS)
theorem v_putf (C : Cx p s m args meth c G A cc nL own Ts ret) {ci N k idx a : Nat} {K : String} {T : u_T} {v : Value} {ty0 : Nat → FieldType} {ty : FieldType} (hc : vwCl[ci]? = some (K, T, N)) (hin : ∀ x ∈ u_ws K T N, x ∈ Ts) (hty : ∀ k, k < N → parseFieldDescriptor (T k).2.2.1 = some (ty0 k)) (hnm : ∀ a, a < N → ∀ b, b < N → a ≠ b → (T a).2.1 ≠ (T b).2.1) (hk : k < N) (hl0 : Cond.fieldLink own idx (T k).1 (T k).2.1 (T k).2.2.1 ∈ Ts) (hfin : (T k).2.2.2 = false) (hd0 : parseFieldDescriptor (T k).2.2.1 = some ty) (hn : narrow ty v = v) (hfit : fits ty v = true) (d : decode cc pc = .ok (.putfield idx, 3)) (h : pfV ci k w a v = some w1) (kk : VQ p l e R s m args below meth c G A nL kc ks Q (pc + 3) lv st w1) : VQ p l e R s m args below meth c G A nL kc ks Q pc lv (v :: .ref a :: st) w := by
  intro H locs ls hl hP hS0
  obtain ⟨fs, he, hl1, rfl⟩ := pfV_e h
  have ha : A a := (hP a _ he).1
  have hP1 : va_P G.1 vwCl [(a, .inr (ci, fs))] H := hP.one he
  have hap := va_apart (own := own) C.2.2.2.2.1 hin ty0 hty hnm C.2.2.2.2.2.1.1 hc
  obtain ⟨r, h1, cell, q1, q2, q3, q4⟩ := hP1 0 _ rfl
  have hr : r = (K, T, N) := Option.some.inj (h1.symm.trans hc)
  subst hr
  obtain ⟨hS, hfc, kC, hkC, hkind⟩ := C.2.2.2.2.2.1.1.1 ci _ hc
  obtain ⟨cf, kf, fi, f, hi, hsl⟩ := hS k hk
  have hlay := C.2.2.2.2.1 _ (hin _ (u_in_lay hk))
  unfold u_lay at hlay
  rw [if_neg (by rw [hfin]; decide)] at hlay
  have hst := (u_facts hfc hkC (u_lays C.2.2.2.2.1 hin hk) hi).1
  have h6 := u_store hfc hkC hkind hlay hi hd0 hn hfit
  refine W.putK C.1 C.2.1 (f := f) ⟨C.2.2.2.1, C.2.2.2.2.1 _ hl0, ⟨_, _, _, hi⟩, hst⟩ (by rw [q2]; exact h6) q1 q3 (by rw [hsl]; exact k2_hasslot (q4 k hk)) rfl rfl d fun H' e1 e2 e3 => ?_
  rw [hsl] at e1 ⊢
  exact kk H' _ ls hl (hP.put ha ⟨_, hc, t_OB.to (V := updV (vp_V fs) k v) ⟨_, e1, q2, q3, t_set q4 hap hk v⟩ (fun j _ => vp_updV_set hl1 v j)⟩ e3) (hS0.put e2 e3 ha)
theorem W.vrun {H : Heap} {locs : List Loc} {ls : Array Slot} {st0 rest : List Value} {o1 : Option Value} {a : Array Value} (hS : va_S A s.heap H locs) (hr : va_Run p l e R s m args below meth c H locs kc ks 0 0 (F0 m pc ls st0) rest (QQ G A o1 w1 a) A)
    (kk : ∀ (H1 : Heap) (locs1 : List Loc), hd G A w1 H1 → va_S A s.heap H1 locs1 → W p l e R s m args below meth c H1 locs1 kc ks Q (F0 m (pc + 3) ls (o1.toList ++ rest))) : W p l e R s m args below meth c H locs kc ks Q (F0 m pc ls st0) := by
  intro T hT X
  obtain ⟨v, st₀, t, T', L, h0, X', hL, e1, e2, ⟨⟨hv, hb⟩, hz, hk⟩, st⟩ := hr T hT X
  cases hv
  rw [h0] at hz hk
  obtain ⟨t2, a1, b1⟩ := kk T'.heap (locs ++ L) (by rw [e1]; exact hb)
    ⟨Nat.le_trans hS.1 (by rw [e1]; exact hz), fun q h1 h2 => by rw [e1, hk q (Nat.lt_of_lt_of_le h1 hS.1) h2]; exact hS.2.1 q h1 h2, fun q hq => by
      rcases List.mem_append.mp hq with h | h
      · exact hS.2.2 q h
      · exact hL q h⟩ T' rfl X'
  exact ⟨t2, st t2 a1, b1⟩
theorem v_callS (C : Cx p s m args meth c G A cc nL own Ts ret) {y : MethodName} {ws ws' : List Cond} {bytes : ByteArray} {maxL n index : Nat} {rt : Option FieldType} {rm : Room} {av rest : List Value} {o1 : Option Value}
    (hT : GoodIn Ts (va_wsS own index y ws)) (hw : ws = Cond.code y bytes maxL rt :: ws') (hrm : rm.cells = 0 ∧ rm.slots = 0)
    (hd0 : y.cls ≠ "java/lang/invoke/MethodHandle" ∧ y.cls ≠ "java/lang/invoke/VarHandle" ∧ (parseMethodDescriptor y.desc).map (fun d => d.parameters.length) = some n) (hR : rm.frames + 1 ≤ R.frames ∧ 8 + (maxL + 11) + rm.locals ≤ R.locals)
    (hM : Con l y ws rm G A av w o1 w1) (hn : av.length = n) (hst : st = av.reverse ++ rest) (hW : (rest.map fun v => v.category).sum ≤ 8) (d : decode cc pc = .ok (.invokestatic index, 3))
    (k : VQ p l e R s m args below meth c G A nL kc ks Q (pc + 3) lv (o1.toList ++ rest) w1) (hk : kc ≤ R.cells ∧ ks ≤ R.slots := by exact ⟨Nat.zero_le _, Nat.zero_le _⟩) : VQ p l e R s m args below meth c G A nL kc ks Q pc lv st w := by
  intro H locs ls hl hP hS
  exact W.vrun hS (va_runS (As := av) (rest := rest) (n := n) ⟨C.1, C.2.1, C.2.2.1, C.2.2.2.1, C.2.2.2.2.1⟩ hM (va_cwS n C.2.2.2.2.1 hT hw hrm.1 hrm.2 hd0 hR) ⟨PP.blind, fun U hU hWm => ⟨rfl, by rw [hU]; exact hP, by rw [hU]; exact C.2.2.2.2.2.1.next hS hWm⟩⟩ rfl hn hl.1 hst (lv_room hW) d hk) (fun H1 locs1 h1 h2 => k H1 locs1 ls hl h1 h2)
theorem v_callV (C : Cx p s m args meth c G A cc nL own Ts ret) {y : MethodName} {ws ws' : List Cond} {bytes : ByteArray} {maxL n index ci b : Nat} {K : String} {T : u_T} {N : Nat} {rt : Option FieldType} {rm : Room} {av rest : List Value} {o1 : Option Value} {u : Unit}
    (hc : vwCl[ci]? = some (K, T, N)) (hT : GoodIn Ts (wsV own index K y ws)) (hw : ws = Cond.code y bytes maxL rt :: ws') (hrm : rm.cells = 0 ∧ rm.slots = 0)
    (hd0 : y.cls = K ∧ y.cls ≠ "java/lang/invoke/MethodHandle" ∧ y.cls ≠ "java/lang/invoke/VarHandle" ∧ (parseMethodDescriptor y.desc).map (fun d => d.parameters.length) = some n) (hR : rm.frames + 1 ≤ R.frames ∧ 8 + (maxL + 11) + rm.locals ≤ R.locals)
    (hb : chk ci w b = some u) (hM : Con l y ws rm G A (.ref b :: av) w o1 w1) (hn : av.length = n) (hst : st = av.reverse ++ .ref b :: rest) (hW : (rest.map fun v => v.category).sum ≤ 8) (d : decode cc pc = .ok (.invokevirtual index, 3))
    (k : VQ p l e R s m args below meth c G A nL kc ks Q (pc + 3) lv (o1.toList ++ rest) w1) (hk : kc ≤ R.cells ∧ ks ≤ R.slots := by exact ⟨Nat.zero_le _, Nat.zero_le _⟩) : VQ p l e R s m args below meth c G A nL kc ks Q pc lv st w := by
  intro H locs ls hl hP hS
  obtain ⟨fs, e1⟩ := chk_e hb
  have hP1 : va_P G.1 vwCl [(b, .inr (ci, fs))] H := hP.one e1
  exact W.vrun hS (va_runV (C := K) (As := av) (rest := rest) (n := n) ⟨C.1, C.2.1, C.2.2.1, C.2.2.2.1, C.2.2.2.2.1⟩ hM (cwV n C.2.2.2.2.1 hT hw hrm.1 hrm.2 hd0 hR) ⟨PP.blind, va_recv C.2.2.2.2.2.1.1 hP1 hc (q0 := 0) rfl, fun U hU hWm => ⟨rfl, by rw [hU]; exact hP, by rw [hU]; exact C.2.2.2.2.2.1.next hS hWm⟩⟩ rfl hn hl.1 hst (lv_room hW) d hk) (fun H1 locs1 h1 h2 => k H1 locs1 ls hl h1 h2)
theorem v_callN (C : Cx p s m args meth c G A cc nL own Ts ret) {y : MethodName} {host : String} {ws ws' : List Cond} {bytes : ByteArray} {maxL n index : Nat} {rt : Option FieldType} {rm : Room} {av rest : List Value} {o1 : Option Value}
    (hT : GoodIn Ts ws) (hw : ws = Cond.code y bytes maxL rt :: ws') (hl0 : va_Nw (.methodLinkNest own index y host) s) (hi0 : Cond.initialized y.cls ∈ Ts) (hs0 : Cond.static y ∈ Ts) (hrm : rm.cells = 0 ∧ rm.slots = 0)
    (hd0 : y.cls ≠ "java/lang/invoke/MethodHandle" ∧ y.cls ≠ "java/lang/invoke/VarHandle" ∧ (parseMethodDescriptor y.desc).map (fun d => d.parameters.length) = some n) (hR : rm.frames + 1 ≤ R.frames ∧ 8 + (maxL + 11) + rm.locals ≤ R.locals)
    (hM : Con l y ws rm G A av w o1 w1) (hn : av.length = n) (hst : st = av.reverse ++ rest) (hW : (rest.map fun v => v.category).sum ≤ 8) (d : decode cc pc = .ok (.invokestatic index, 3))
    (k : VQ p l e R s m args below meth c G A nL kc ks Q (pc + 3) lv (o1.toList ++ rest) w1) (hk : kc ≤ R.cells ∧ ks ≤ R.slots := by exact ⟨Nat.zero_le _, Nat.zero_le _⟩) : VQ p l e R s m args below meth c G A nL kc ks Q pc lv st w := by
  intro H locs ls hl hP hS
  exact W.vrun hS (va_runSN (As := av) (rest := rest) (n := n) ⟨C.1, C.2.1, C.2.2.1, C.2.2.2.1, C.2.2.2.2.1⟩ hM ⟨va_cnB n C.2.2.2.2.1 hT hw hrm.1 hrm.2 hl0 (C.2.2.2.2.1 _ hi0) hd0 hR, C.2.2.2.2.1 _ hs0, trivial⟩ ⟨PP.blind, fun U hU hWm => ⟨rfl, by rw [hU]; exact hP, by rw [hU]; exact C.2.2.2.2.2.1.next hS hWm⟩⟩ rfl hn hl.1 hst (lv_room hW) d hk) (fun H1 locs1 h1 h2 => k H1 locs1 ls hl h1 h2)
def mxI (x y : Int32) : Int32 := if x < y then y else x
def mnI (x y : Int32) : Int32 := if y < x then y else x
def abI (x : Int32) : Int32 := if 0 ≤ x then x else 0 - x
theorem v_max (C : Cx p s m args meth c G A cc nL own Ts ret) {index : Nat} {x y : Int32} (hl0 : Cond.methodLink own index Lib.Math.max.name ∈ Ts) (h1 : Cond.static Lib.Math.max.name ∈ Ts) (h2 : Cond.initialized "java/lang/Math" ∈ Ts) (h3 : Cond.code Lib.Math.max.name Lib.Math.max.code 2 (some .int) ∈ Ts) (hf : 1 ≤ R.frames) (hlo : (st.map fun v => v.category).sum + 13 ≤ R.locals) (d : decode cc pc = .ok (.invokestatic index, 3)) (k : VQ p l e R s m args below meth c G A nL kc ks Q (pc + 3) lv (.int (mxI x y) :: st) w) (hk : kc ≤ R.cells ∧ ks ≤ R.slots := by exact ⟨Nat.zero_le _, Nat.zero_le _⟩) : VQ p l e R s m args below meth c G A nL kc ks Q pc lv (.int y :: .int x :: st) w :=
  fun H locs ls hl hP hS => va_mmax C.1 C.2.1 (C.2.2.1.trans hl.1.symm) C.2.2.2.1 (C.2.2.2.2.1 _ hl0) (C.2.2.2.2.1 _ h1) (C.2.2.2.2.1 _ h2) (C.2.2.2.2.1 _ h3) hf hlo hk.1 hk.2 d (k H locs ls hl hP hS)
theorem v_min (C : Cx p s m args meth c G A cc nL own Ts ret) {index : Nat} {x y : Int32} (hl0 : Cond.methodLink own index Lib.Math.min.name ∈ Ts) (h1 : Cond.static Lib.Math.min.name ∈ Ts) (h2 : Cond.initialized "java/lang/Math" ∈ Ts) (h3 : Cond.code Lib.Math.min.name Lib.Math.min.code 2 (some .int) ∈ Ts) (hf : 1 ≤ R.frames) (hlo : (st.map fun v => v.category).sum + 13 ≤ R.locals) (d : decode cc pc = .ok (.invokestatic index, 3)) (k : VQ p l e R s m args below meth c G A nL kc ks Q (pc + 3) lv (.int (mnI x y) :: st) w) (hk : kc ≤ R.cells ∧ ks ≤ R.slots := by exact ⟨Nat.zero_le _, Nat.zero_le _⟩) : VQ p l e R s m args below meth c G A nL kc ks Q pc lv (.int y :: .int x :: st) w :=
  fun H locs ls hl hP hS => va_mmin C.1 C.2.1 (C.2.2.1.trans hl.1.symm) C.2.2.2.1 (C.2.2.2.2.1 _ hl0) (C.2.2.2.2.1 _ h1) (C.2.2.2.2.1 _ h2) (C.2.2.2.2.1 _ h3) hf hlo hk.1 hk.2 d (k H locs ls hl hP hS)
theorem v_abs (C : Cx p s m args meth c G A cc nL own Ts ret) {index : Nat} {x : Int32} (hl0 : Cond.methodLink own index Lib.Math.abs.name ∈ Ts) (h1 : Cond.static Lib.Math.abs.name ∈ Ts) (h2 : Cond.initialized "java/lang/Math" ∈ Ts) (h3 : Cond.code Lib.Math.abs.name Lib.Math.abs.code 1 (some .int) ∈ Ts) (hf : 1 ≤ R.frames) (hlo : (st.map fun v => v.category).sum + 13 ≤ R.locals) (d : decode cc pc = .ok (.invokestatic index, 3)) (k : VQ p l e R s m args below meth c G A nL kc ks Q (pc + 3) lv (.int (abI x) :: st) w) (hk : kc ≤ R.cells ∧ ks ≤ R.slots := by exact ⟨Nat.zero_le _, Nat.zero_le _⟩) : VQ p l e R s m args below meth c G A nL kc ks Q pc lv (.int x :: st) w :=
  fun H locs ls hl hP hS => va_mabs C.1 C.2.1 (C.2.2.1.trans hl.1.symm) C.2.2.2.1 (C.2.2.2.2.1 _ hl0) (C.2.2.2.2.1 _ h1) (C.2.2.2.2.1 _ h2) (C.2.2.2.2.1 _ h3) hf hlo hk.1 hk.2 d (k H locs ls hl hP hS)
theorem v_iret {v : Int32} (C : Cx p s m args meth c G A cc nL own Ts (some .int)) (d : decode cc pc = .ok (.ireturn, 1)) : V p l e R s m args below meth c G A nL pc lv [.int v] w (some (.int v)) w := by
  intro H locs ls hl hP hS
  exact W.iret C.1 C.2.1 C.2.2.2.2.2.2.2 (fun t ht hW => ⟨⟨rfl, by rw [ht]; exact hP⟩, hS.F ht⟩) hS.2.2 d C.2.2.2.2.2.2.1
theorem v_zret {v : Int32} (C : Cx p s m args meth c G A cc nL own Ts (some .boolean)) (d : decode cc pc = .ok (.ireturn, 1)) (hn : narrow .boolean (.int v) = .int v) : V p l e R s m args below meth c G A nL pc lv [.int v] w (some (.int v)) w := by
  intro H locs ls hl hP hS
  exact W.zret C.1 C.2.1 C.2.2.2.2.2.2.2 hn (fun t ht hW => ⟨⟨rfl, by rw [ht]; exact hP⟩, hS.F ht⟩) hS.2.2 d C.2.2.2.2.2.2.1
theorem v_lret {v : Int64} (C : Cx p s m args meth c G A cc nL own Ts (some .long)) (d : decode cc pc = .ok (.lreturn, 1)) : V p l e R s m args below meth c G A nL pc lv [.long v] w (some (.long v)) w := by
  intro H locs ls hl hP hS
  exact W.lret C.1 C.2.1 C.2.2.2.2.2.2.2 (fun t ht hW => ⟨⟨rfl, by rw [ht]; exact hP⟩, hS.F ht⟩) hS.2.2 d C.2.2.2.2.2.2.1
theorem v_vret (C : Cx p s m args meth c G A cc nL own Ts none) (d : decode cc pc = .ok (.return_, 1)) : V p l e R s m args below meth c G A nL pc lv [] w none w := by
  intro H locs ls hl hP hS
  exact W.vret C.1 C.2.1 C.2.2.2.2.2.2.2 (fun t ht hW => ⟨⟨rfl, by rw [ht]; exact hP⟩, hS.F ht⟩) hS.2.2 d C.2.2.2.2.2.2.1
theorem v_aret {q : Nat} {nm : String} (C : Cx p s m args meth c G A cc nL own Ts (some (.object nm))) (d : decode cc pc = .ok (.areturn, 1)) : V p l e R s m args below meth c G A nL pc lv [.ref q] w (some (.ref q)) w := by
  intro H locs ls hl hP hS
  exact W.aret C.1 C.2.1 C.2.2.2.2.2.2.2 (Or.inl ⟨_, rfl⟩) (Or.inr ⟨_, rfl⟩) (fun t ht hW => ⟨⟨rfl, by rw [ht]; exact hP⟩, hS.F ht⟩) hS.2.2 d C.2.2.2.2.2.2.1
theorem v_idivR (C : Cx p s m args meth c G A cc nL own Ts ret) {x y r : Int32} (d : decode cc pc = .ok (.idiv, 1)) (h : divI x y = some r) (k : VQ p l e R s m args below meth c G A nL kc ks Q (pc + 1) lv (.int r :: st) w) : VQ p l e R s m args below meth c G A nL kc ks Q pc lv (.int y :: .int x :: st) w := by
  obtain ⟨h1, rfl⟩ := divI_e h
  exact v_idiv C d h1 k
theorem v_iremR (C : Cx p s m args meth c G A cc nL own Ts ret) {x y r : Int32} (d : decode cc pc = .ok (.irem, 1)) (h : remI x y = some r) (k : VQ p l e R s m args below meth c G A nL kc ks Q (pc + 1) lv (.int r :: st) w) : VQ p l e R s m args below meth c G A nL kc ks Q pc lv (.int y :: .int x :: st) w := by
  obtain ⟨h1, rfl⟩ := remI_e h
  exact v_irem C d h1 k
theorem v_ldivR (C : Cx p s m args meth c G A cc nL own Ts ret) {x y r : Int64} (d : decode cc pc = .ok (.ldiv, 1)) (h : divL x y = some r) (k : VQ p l e R s m args below meth c G A nL kc ks Q (pc + 1) lv (.long r :: st) w) : VQ p l e R s m args below meth c G A nL kc ks Q pc lv (.long y :: .long x :: st) w := by
  obtain ⟨h1, rfl⟩ := divL_e h
  exact v_ldiv C d h1 k
theorem v_lremR (C : Cx p s m args meth c G A cc nL own Ts ret) {x y r : Int64} (d : decode cc pc = .ok (.lrem, 1)) (h : remL x y = some r) (k : VQ p l e R s m args below meth c G A nL kc ks Q (pc + 1) lv (.long r :: st) w) : VQ p l e R s m args below meth c G A nL kc ks Q pc lv (.long y :: .long x :: st) w := by
  obtain ⟨h1, rfl⟩ := remL_e h
  exact v_lrem C d h1 k
theorem v_iushr (C : Cx p s m args meth c G A cc nL own Ts ret) {x y v : Int32} (d : decode cc pc = .ok (.iushr, 1)) (hv : (x.toUInt32 >>> (y.toUInt32 &&& Int32.toUInt32 31)).toInt32 = v) (k : VQ p l e R s m args below meth c G A nL kc ks Q (pc + 1) lv (.int v :: st) w) : VQ p l e R s m args below meth c G A nL kc ks Q pc lv (.int y :: .int x :: st) w :=
  fun H locs ls hl hP hS => lv_iushr C.1 C.2.1 d hv (k H locs ls hl hP hS)
theorem v_at {pc' : Nat} (hp : pc = pc') (k : VQ p l e R s m args below meth c G A nL kc ks Q pc' lv st w) : VQ p l e R s m args below meth c G A nL kc ks Q pc lv st w := hp ▸ k
theorem v_ldcStr (C : Cx p s m args meth c G A cc nL own Ts ret) {index q : Nat} {tx : String} (hZ : vk_R own index tx q s) (d : decode cc pc = .ok (.ldc index, 2)) (k : VQ p l e R s m args below meth c G A nL kc ks Q (pc + 2) lv (.ref q :: st) w) : VQ p l e R s m args below meth c G A nL kc ks Q pc lv st w :=
  fun H locs ls hl hP hS => va_ldcS C.1 C.2.1 C.2.2.2.1 hZ d (k H locs ls hl hP hS)
theorem v_tabOut (C : Cx p s m args meth c G A cc nL own Ts ret) {dflt lo hi : Int} {offs : Array Int} {len : Nat} {x : Int32} (tgt : Nat) (d : decode cc pc = .ok (.tableswitch dflt lo hi offs, len)) (h : x.toInt < lo ∨ hi < x.toInt) (ht : (pc : Int) + dflt = (tgt : Int)) (k : VQ p l e R s m args below meth c G A nL kc ks Q tgt lv st w) : VQ p l e R s m args below meth c G A nL kc ks Q pc lv (.int x :: st) w :=
  fun H locs ls hl hP hS => lv_tableOut C.1 C.2.1 d h ht (k H locs ls hl hP hS)
theorem v_tabIn (C : Cx p s m args meth c G A cc nL own Ts ret) {dflt lo hi : Int} {offs : Array Int} {len : Nat} {x : Int32} (y : Int32) (off : Int) (tgt : Nat) (d : decode cc pc = .ok (.tableswitch dflt lo hi offs, len)) (hy : x = y) (h1 : ¬ y.toInt < lo) (h2 : ¬ hi < y.toInt) (ho : offs[(y.toInt - lo).toNat]? = some off) (ht : (pc : Int) + off = (tgt : Int)) (k : VQ p l e R s m args below meth c G A nL kc ks Q tgt lv st w) : VQ p l e R s m args below meth c G A nL kc ks Q pc lv (.int x :: st) w := by
  subst hy
  exact fun H locs ls hl hP hS => lv_tableIn C.1 C.2.1 d h1 h2 ho ht (k H locs ls hl hP hS)
theorem v_lookup (C : Cx p s m args meth c G A cc nL own Ts ret) {dflt : Int} {ps : Array (Int × Int)} {len : Nat} {x : Int32} (off : Int) (tgt : Nat) (d : decode cc pc = .ok (.lookupswitch dflt ps, len)) (hp : (ps.toList.zip (ps.toList.drop 1)).all (fun (a, next) => a.1 < next.1) = true) (ho : Op.lookupswitch.offset ps.toList dflt x.toInt = off) (ht : (pc : Int) + off = (tgt : Int)) (k : VQ p l e R s m args below meth c G A nL kc ks Q tgt lv st w) : VQ p l e R s m args below meth c G A nL kc ks Q pc lv (.int x :: st) w :=
  fun H locs ls hl hP hS => lv_lookup C.1 C.2.1 d hp ho ht (k H locs ls hl hP hS)
theorem v_callSi (C : Cx p s m args meth c G A cc nL own Ts ret) {y : MethodName} {ws ws' : List Cond} {bytes : ByteArray} {maxL n index : Nat} {rt : Option FieldType} {rm : Room} {av rest : List Value} {r1 : Int32} 
    (hT : GoodIn Ts (va_wsS own index y ws)) (hw : ws = Cond.code y bytes maxL rt :: ws') (hrm : rm.cells = 0 ∧ rm.slots = 0)
    (hd0 : y.cls ≠ "java/lang/invoke/MethodHandle" ∧ y.cls ≠ "java/lang/invoke/VarHandle" ∧ (parseMethodDescriptor y.desc).map (fun d => d.parameters.length) = some n) (hR : rm.frames + 1 ≤ R.frames ∧ 8 + (maxL + 11) + rm.locals ≤ R.locals)
    (hM : Con l y ws rm G A av w (some (.int r1)) w1) (hn : av.length = n) (hst : st = av.reverse ++ rest) (hW : (rest.map fun v => v.category).sum ≤ 8) (d : decode cc pc = .ok (.invokestatic index, 3))
    (k : VQ p l e R s m args below meth c G A nL kc ks Q (pc + 3) lv (.int r1 :: rest) w1) (hk : kc ≤ R.cells ∧ ks ≤ R.slots := by exact ⟨Nat.zero_le _, Nat.zero_le _⟩) : VQ p l e R s m args below meth c G A nL kc ks Q pc lv st w :=
  v_callS C hT hw hrm hd0 hR hM hn hst hW d k hk
theorem v_callSJ (C : Cx p s m args meth c G A cc nL own Ts ret) {y : MethodName} {ws ws' : List Cond} {bytes : ByteArray} {maxL n index : Nat} {rt : Option FieldType} {rm : Room} {av rest : List Value} {r1 : Int64} 
    (hT : GoodIn Ts (va_wsS own index y ws)) (hw : ws = Cond.code y bytes maxL rt :: ws') (hrm : rm.cells = 0 ∧ rm.slots = 0)
    (hd0 : y.cls ≠ "java/lang/invoke/MethodHandle" ∧ y.cls ≠ "java/lang/invoke/VarHandle" ∧ (parseMethodDescriptor y.desc).map (fun d => d.parameters.length) = some n) (hR : rm.frames + 1 ≤ R.frames ∧ 8 + (maxL + 11) + rm.locals ≤ R.locals)
    (hM : Con l y ws rm G A av w (some (.long r1)) w1) (hn : av.length = n) (hst : st = av.reverse ++ rest) (hW : (rest.map fun v => v.category).sum ≤ 8) (d : decode cc pc = .ok (.invokestatic index, 3))
    (k : VQ p l e R s m args below meth c G A nL kc ks Q (pc + 3) lv (.long r1 :: rest) w1) (hk : kc ≤ R.cells ∧ ks ≤ R.slots := by exact ⟨Nat.zero_le _, Nat.zero_le _⟩) : VQ p l e R s m args below meth c G A nL kc ks Q pc lv st w :=
  v_callS C hT hw hrm hd0 hR hM hn hst hW d k hk
theorem v_callSr (C : Cx p s m args meth c G A cc nL own Ts ret) {y : MethodName} {ws ws' : List Cond} {bytes : ByteArray} {maxL n index : Nat} {rt : Option FieldType} {rm : Room} {av rest : List Value} {r1 : Nat} 
    (hT : GoodIn Ts (va_wsS own index y ws)) (hw : ws = Cond.code y bytes maxL rt :: ws') (hrm : rm.cells = 0 ∧ rm.slots = 0)
    (hd0 : y.cls ≠ "java/lang/invoke/MethodHandle" ∧ y.cls ≠ "java/lang/invoke/VarHandle" ∧ (parseMethodDescriptor y.desc).map (fun d => d.parameters.length) = some n) (hR : rm.frames + 1 ≤ R.frames ∧ 8 + (maxL + 11) + rm.locals ≤ R.locals)
    (hM : Con l y ws rm G A av w (some (.ref r1)) w1) (hn : av.length = n) (hst : st = av.reverse ++ rest) (hW : (rest.map fun v => v.category).sum ≤ 8) (d : decode cc pc = .ok (.invokestatic index, 3))
    (k : VQ p l e R s m args below meth c G A nL kc ks Q (pc + 3) lv (.ref r1 :: rest) w1) (hk : kc ≤ R.cells ∧ ks ≤ R.slots := by exact ⟨Nat.zero_le _, Nat.zero_le _⟩) : VQ p l e R s m args below meth c G A nL kc ks Q pc lv st w :=
  v_callS C hT hw hrm hd0 hR hM hn hst hW d k hk
theorem v_callSv (C : Cx p s m args meth c G A cc nL own Ts ret) {y : MethodName} {ws ws' : List Cond} {bytes : ByteArray} {maxL n index : Nat} {rt : Option FieldType} {rm : Room} {av rest : List Value} 
    (hT : GoodIn Ts (va_wsS own index y ws)) (hw : ws = Cond.code y bytes maxL rt :: ws') (hrm : rm.cells = 0 ∧ rm.slots = 0)
    (hd0 : y.cls ≠ "java/lang/invoke/MethodHandle" ∧ y.cls ≠ "java/lang/invoke/VarHandle" ∧ (parseMethodDescriptor y.desc).map (fun d => d.parameters.length) = some n) (hR : rm.frames + 1 ≤ R.frames ∧ 8 + (maxL + 11) + rm.locals ≤ R.locals)
    (hM : Con l y ws rm G A av w (none) w1) (hn : av.length = n) (hst : st = av.reverse ++ rest) (hW : (rest.map fun v => v.category).sum ≤ 8) (d : decode cc pc = .ok (.invokestatic index, 3))
    (k : VQ p l e R s m args below meth c G A nL kc ks Q (pc + 3) lv rest w1) (hk : kc ≤ R.cells ∧ ks ≤ R.slots := by exact ⟨Nat.zero_le _, Nat.zero_le _⟩) : VQ p l e R s m args below meth c G A nL kc ks Q pc lv st w :=
  v_callS C hT hw hrm hd0 hR hM hn hst hW d k hk
theorem v_callVi (C : Cx p s m args meth c G A cc nL own Ts ret) {y : MethodName} {ws ws' : List Cond} {bytes : ByteArray} {maxL n index ci b : Nat} {K : String} {T : u_T} {N : Nat} {rt : Option FieldType} {rm : Room} {av rest : List Value} {r1 : Int32}  {u : Unit}
    (hc : vwCl[ci]? = some (K, T, N)) (hT : GoodIn Ts (wsV own index K y ws)) (hw : ws = Cond.code y bytes maxL rt :: ws') (hrm : rm.cells = 0 ∧ rm.slots = 0)
    (hd0 : y.cls = K ∧ y.cls ≠ "java/lang/invoke/MethodHandle" ∧ y.cls ≠ "java/lang/invoke/VarHandle" ∧ (parseMethodDescriptor y.desc).map (fun d => d.parameters.length) = some n) (hR : rm.frames + 1 ≤ R.frames ∧ 8 + (maxL + 11) + rm.locals ≤ R.locals)
    (hb : chk ci w b = some u) (hM : Con l y ws rm G A (.ref b :: av) w (some (.int r1)) w1) (hn : av.length = n) (hst : st = av.reverse ++ .ref b :: rest) (hW : (rest.map fun v => v.category).sum ≤ 8) (d : decode cc pc = .ok (.invokevirtual index, 3))
    (k : VQ p l e R s m args below meth c G A nL kc ks Q (pc + 3) lv (.int r1 :: rest) w1) (hk : kc ≤ R.cells ∧ ks ≤ R.slots := by exact ⟨Nat.zero_le _, Nat.zero_le _⟩) : VQ p l e R s m args below meth c G A nL kc ks Q pc lv st w :=
  v_callV C hc hT hw hrm hd0 hR hb hM hn hst hW d k hk
theorem v_callVJ (C : Cx p s m args meth c G A cc nL own Ts ret) {y : MethodName} {ws ws' : List Cond} {bytes : ByteArray} {maxL n index ci b : Nat} {K : String} {T : u_T} {N : Nat} {rt : Option FieldType} {rm : Room} {av rest : List Value} {r1 : Int64}  {u : Unit}
    (hc : vwCl[ci]? = some (K, T, N)) (hT : GoodIn Ts (wsV own index K y ws)) (hw : ws = Cond.code y bytes maxL rt :: ws') (hrm : rm.cells = 0 ∧ rm.slots = 0)
    (hd0 : y.cls = K ∧ y.cls ≠ "java/lang/invoke/MethodHandle" ∧ y.cls ≠ "java/lang/invoke/VarHandle" ∧ (parseMethodDescriptor y.desc).map (fun d => d.parameters.length) = some n) (hR : rm.frames + 1 ≤ R.frames ∧ 8 + (maxL + 11) + rm.locals ≤ R.locals)
    (hb : chk ci w b = some u) (hM : Con l y ws rm G A (.ref b :: av) w (some (.long r1)) w1) (hn : av.length = n) (hst : st = av.reverse ++ .ref b :: rest) (hW : (rest.map fun v => v.category).sum ≤ 8) (d : decode cc pc = .ok (.invokevirtual index, 3))
    (k : VQ p l e R s m args below meth c G A nL kc ks Q (pc + 3) lv (.long r1 :: rest) w1) (hk : kc ≤ R.cells ∧ ks ≤ R.slots := by exact ⟨Nat.zero_le _, Nat.zero_le _⟩) : VQ p l e R s m args below meth c G A nL kc ks Q pc lv st w :=
  v_callV C hc hT hw hrm hd0 hR hb hM hn hst hW d k hk
theorem v_callVr (C : Cx p s m args meth c G A cc nL own Ts ret) {y : MethodName} {ws ws' : List Cond} {bytes : ByteArray} {maxL n index ci b : Nat} {K : String} {T : u_T} {N : Nat} {rt : Option FieldType} {rm : Room} {av rest : List Value} {r1 : Nat}  {u : Unit}
    (hc : vwCl[ci]? = some (K, T, N)) (hT : GoodIn Ts (wsV own index K y ws)) (hw : ws = Cond.code y bytes maxL rt :: ws') (hrm : rm.cells = 0 ∧ rm.slots = 0)
    (hd0 : y.cls = K ∧ y.cls ≠ "java/lang/invoke/MethodHandle" ∧ y.cls ≠ "java/lang/invoke/VarHandle" ∧ (parseMethodDescriptor y.desc).map (fun d => d.parameters.length) = some n) (hR : rm.frames + 1 ≤ R.frames ∧ 8 + (maxL + 11) + rm.locals ≤ R.locals)
    (hb : chk ci w b = some u) (hM : Con l y ws rm G A (.ref b :: av) w (some (.ref r1)) w1) (hn : av.length = n) (hst : st = av.reverse ++ .ref b :: rest) (hW : (rest.map fun v => v.category).sum ≤ 8) (d : decode cc pc = .ok (.invokevirtual index, 3))
    (k : VQ p l e R s m args below meth c G A nL kc ks Q (pc + 3) lv (.ref r1 :: rest) w1) (hk : kc ≤ R.cells ∧ ks ≤ R.slots := by exact ⟨Nat.zero_le _, Nat.zero_le _⟩) : VQ p l e R s m args below meth c G A nL kc ks Q pc lv st w :=
  v_callV C hc hT hw hrm hd0 hR hb hM hn hst hW d k hk
theorem v_callVv (C : Cx p s m args meth c G A cc nL own Ts ret) {y : MethodName} {ws ws' : List Cond} {bytes : ByteArray} {maxL n index ci b : Nat} {K : String} {T : u_T} {N : Nat} {rt : Option FieldType} {rm : Room} {av rest : List Value}  {u : Unit}
    (hc : vwCl[ci]? = some (K, T, N)) (hT : GoodIn Ts (wsV own index K y ws)) (hw : ws = Cond.code y bytes maxL rt :: ws') (hrm : rm.cells = 0 ∧ rm.slots = 0)
    (hd0 : y.cls = K ∧ y.cls ≠ "java/lang/invoke/MethodHandle" ∧ y.cls ≠ "java/lang/invoke/VarHandle" ∧ (parseMethodDescriptor y.desc).map (fun d => d.parameters.length) = some n) (hR : rm.frames + 1 ≤ R.frames ∧ 8 + (maxL + 11) + rm.locals ≤ R.locals)
    (hb : chk ci w b = some u) (hM : Con l y ws rm G A (.ref b :: av) w (none) w1) (hn : av.length = n) (hst : st = av.reverse ++ .ref b :: rest) (hW : (rest.map fun v => v.category).sum ≤ 8) (d : decode cc pc = .ok (.invokevirtual index, 3))
    (k : VQ p l e R s m args below meth c G A nL kc ks Q (pc + 3) lv rest w1) (hk : kc ≤ R.cells ∧ ks ≤ R.slots := by exact ⟨Nat.zero_le _, Nat.zero_le _⟩) : VQ p l e R s m args below meth c G A nL kc ks Q pc lv st w :=
  v_callV C hc hT hw hrm hd0 hR hb hM hn hst hW d k hk
theorem v_callNi (C : Cx p s m args meth c G A cc nL own Ts ret) {y : MethodName} {host : String} {ws ws' : List Cond} {bytes : ByteArray} {maxL n index : Nat} {rt : Option FieldType} {rm : Room} {av rest : List Value} {r1 : Int32} 
    (hT : GoodIn Ts ws) (hw : ws = Cond.code y bytes maxL rt :: ws') (hl0 : va_Nw (.methodLinkNest own index y host) s) (hi0 : Cond.initialized y.cls ∈ Ts) (hs0 : Cond.static y ∈ Ts) (hrm : rm.cells = 0 ∧ rm.slots = 0)
    (hd0 : y.cls ≠ "java/lang/invoke/MethodHandle" ∧ y.cls ≠ "java/lang/invoke/VarHandle" ∧ (parseMethodDescriptor y.desc).map (fun d => d.parameters.length) = some n) (hR : rm.frames + 1 ≤ R.frames ∧ 8 + (maxL + 11) + rm.locals ≤ R.locals)
    (hM : Con l y ws rm G A av w (some (.int r1)) w1) (hn : av.length = n) (hst : st = av.reverse ++ rest) (hW : (rest.map fun v => v.category).sum ≤ 8) (d : decode cc pc = .ok (.invokestatic index, 3))
    (k : VQ p l e R s m args below meth c G A nL kc ks Q (pc + 3) lv (.int r1 :: rest) w1) (hk : kc ≤ R.cells ∧ ks ≤ R.slots := by exact ⟨Nat.zero_le _, Nat.zero_le _⟩) : VQ p l e R s m args below meth c G A nL kc ks Q pc lv st w :=
  v_callN C hT hw hl0 hi0 hs0 hrm hd0 hR hM hn hst hW d k hk
theorem v_callNJ (C : Cx p s m args meth c G A cc nL own Ts ret) {y : MethodName} {host : String} {ws ws' : List Cond} {bytes : ByteArray} {maxL n index : Nat} {rt : Option FieldType} {rm : Room} {av rest : List Value} {r1 : Int64} 
    (hT : GoodIn Ts ws) (hw : ws = Cond.code y bytes maxL rt :: ws') (hl0 : va_Nw (.methodLinkNest own index y host) s) (hi0 : Cond.initialized y.cls ∈ Ts) (hs0 : Cond.static y ∈ Ts) (hrm : rm.cells = 0 ∧ rm.slots = 0)
    (hd0 : y.cls ≠ "java/lang/invoke/MethodHandle" ∧ y.cls ≠ "java/lang/invoke/VarHandle" ∧ (parseMethodDescriptor y.desc).map (fun d => d.parameters.length) = some n) (hR : rm.frames + 1 ≤ R.frames ∧ 8 + (maxL + 11) + rm.locals ≤ R.locals)
    (hM : Con l y ws rm G A av w (some (.long r1)) w1) (hn : av.length = n) (hst : st = av.reverse ++ rest) (hW : (rest.map fun v => v.category).sum ≤ 8) (d : decode cc pc = .ok (.invokestatic index, 3))
    (k : VQ p l e R s m args below meth c G A nL kc ks Q (pc + 3) lv (.long r1 :: rest) w1) (hk : kc ≤ R.cells ∧ ks ≤ R.slots := by exact ⟨Nat.zero_le _, Nat.zero_le _⟩) : VQ p l e R s m args below meth c G A nL kc ks Q pc lv st w :=
  v_callN C hT hw hl0 hi0 hs0 hrm hd0 hR hM hn hst hW d k hk
theorem v_callNr (C : Cx p s m args meth c G A cc nL own Ts ret) {y : MethodName} {host : String} {ws ws' : List Cond} {bytes : ByteArray} {maxL n index : Nat} {rt : Option FieldType} {rm : Room} {av rest : List Value} {r1 : Nat} 
    (hT : GoodIn Ts ws) (hw : ws = Cond.code y bytes maxL rt :: ws') (hl0 : va_Nw (.methodLinkNest own index y host) s) (hi0 : Cond.initialized y.cls ∈ Ts) (hs0 : Cond.static y ∈ Ts) (hrm : rm.cells = 0 ∧ rm.slots = 0)
    (hd0 : y.cls ≠ "java/lang/invoke/MethodHandle" ∧ y.cls ≠ "java/lang/invoke/VarHandle" ∧ (parseMethodDescriptor y.desc).map (fun d => d.parameters.length) = some n) (hR : rm.frames + 1 ≤ R.frames ∧ 8 + (maxL + 11) + rm.locals ≤ R.locals)
    (hM : Con l y ws rm G A av w (some (.ref r1)) w1) (hn : av.length = n) (hst : st = av.reverse ++ rest) (hW : (rest.map fun v => v.category).sum ≤ 8) (d : decode cc pc = .ok (.invokestatic index, 3))
    (k : VQ p l e R s m args below meth c G A nL kc ks Q (pc + 3) lv (.ref r1 :: rest) w1) (hk : kc ≤ R.cells ∧ ks ≤ R.slots := by exact ⟨Nat.zero_le _, Nat.zero_le _⟩) : VQ p l e R s m args below meth c G A nL kc ks Q pc lv st w :=
  v_callN C hT hw hl0 hi0 hs0 hrm hd0 hR hM hn hst hW d k hk
theorem v_callNv (C : Cx p s m args meth c G A cc nL own Ts ret) {y : MethodName} {host : String} {ws ws' : List Cond} {bytes : ByteArray} {maxL n index : Nat} {rt : Option FieldType} {rm : Room} {av rest : List Value} 
    (hT : GoodIn Ts ws) (hw : ws = Cond.code y bytes maxL rt :: ws') (hl0 : va_Nw (.methodLinkNest own index y host) s) (hi0 : Cond.initialized y.cls ∈ Ts) (hs0 : Cond.static y ∈ Ts) (hrm : rm.cells = 0 ∧ rm.slots = 0)
    (hd0 : y.cls ≠ "java/lang/invoke/MethodHandle" ∧ y.cls ≠ "java/lang/invoke/VarHandle" ∧ (parseMethodDescriptor y.desc).map (fun d => d.parameters.length) = some n) (hR : rm.frames + 1 ≤ R.frames ∧ 8 + (maxL + 11) + rm.locals ≤ R.locals)
    (hM : Con l y ws rm G A av w (none) w1) (hn : av.length = n) (hst : st = av.reverse ++ rest) (hW : (rest.map fun v => v.category).sum ≤ 8) (d : decode cc pc = .ok (.invokestatic index, 3))
    (k : VQ p l e R s m args below meth c G A nL kc ks Q (pc + 3) lv rest w1) (hk : kc ≤ R.cells ∧ ks ≤ R.slots := by exact ⟨Nat.zero_le _, Nat.zero_le _⟩) : VQ p l e R s m args below meth c G A nL kc ks Q pc lv st w :=
  v_callN C hT hw hl0 hi0 hs0 hrm hd0 hR hM hn hst hW d k hk
def bo (v : Int32) : Prop := narrow .boolean (.int v) = .int v
theorem bo_0 : bo 0 := rfl
theorem bo_1 : bo 1 := rfl
theorem bo_ite {q : Prop} [Decidable q] {a b : Int32} (ha : bo a) (hb : bo b) : bo (if q then a else b) := by
  by_cases h : q
  · rw [if_pos h]; exact ha
  · rw [if_neg h]; exact hb
def bck (v : Int32) : Option Unit := if v = 0 ∨ v = 1 then some () else none
theorem bck_e {v : Int32} {u : Unit} (h : bck v = some u) : bo v := by
  unfold bck at h
  split at h
  · next q => rcases q with rfl | rfl
              · exact bo_0
              · exact bo_1
  · cases h
theorem ite_t {α : Sort _} {q : Prop} [Decidable q] {a b r : α} (hq : q) (h : (if q then a else b) = r) : a = r := by rw [if_pos hq] at h; exact h
theorem ite_f {α : Sort _} {q : Prop} [Decidable q] {a b r : α} (hq : ¬ q) (h : (if q then a else b) = r) : b = r := by rw [if_neg hq] at h; exact h
def nm1 {α β : Type} (x : α) (f : α → β) : β := f x
theorem nmb {α β : Type} {x : α} {f : α → β} {r : β} (h : nm1 x f = r) : ∃ v, x = v ∧ f v = r := ⟨x, rfl, h⟩
theorem v_topI {x y : Int32} (h : x = y) (k : VQ p l e R s m args below meth c G A nL kc ks Q pc lv (.int y :: st) w) : VQ p l e R s m args below meth c G A nL kc ks Q pc lv (.int x :: st) w := h ▸ k
theorem v_topJ {x y : Int64} (h : x = y) (k : VQ p l e R s m args below meth c G A nL kc ks Q pc lv (.long y :: st) w) : VQ p l e R s m args below meth c G A nL kc ks Q pc lv (.long x :: st) w := h ▸ k
end VM
