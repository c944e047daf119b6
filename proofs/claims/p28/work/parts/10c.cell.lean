/-! THE SCRIPT: what a call of cell answers; the law's end -/
def cellO (L : Nat) (xs : Nat → Int32) (k : Int32) : Option Int32 := if nI L ≤ k then some (916318735 * (k + 1)) else if k < 0 then none else some (xs k.toNatClampNeg)
theorem vin_of {L : Nat} {k : Int32} (hL : L ≤ 260) (h1 : ¬ nI L ≤ k) (h2 : ¬ k < 0) : vp_in k L := by
  have e : (nI L).toInt = (L : Int) := nI_toInt (by omega)
  rw [Int32.le_iff_toInt_le, e] at h1
  rw [Int32.lt_iff_toInt_lt, show (0 : Int32).toInt = 0 by decide] at h2
  intro h
  rcases h with h | h
  · rw [Int32.lt_iff_toInt_lt, show (0 : Int32).toInt = 0 by decide] at h
    exact h2 h
  · have h' : L ≤ k.toInt.toNat := h
    omega
section VC
variable {p : Program} {l : Launch} {e : Env} {R : Room} {s : State} {m : MethodId} {args : Array Value} {below : List Frame} {meth : Method} {c : Code} {G : GG} {A : Nat → Prop} {cc : ByteArray} {nL : Nat} {own : String} {Ts : List Cond} {ret : Option FieldType}
variable {pc : Nat} {lv : List (Nat × Value)} {st : List Value} {w w' w1 : Wd} {o : Option Value} {kc ks : Nat} {Q : State → Prop}
theorem v_sld (C : Cx p s m args meth c G A cc nL own Ts ret) {b L : Nat} {xs : Nat → Int32} {i : Int32} (hX : va_X b L xs s s.heap) (hbl : b < s.heap.size) (hbA : ¬ A b) (h : vp_in i L) (d : decode cc pc = .ok (.iaload, 1)) (k : VQ p l e R s m args below meth c G A nL kc ks Q (pc + 1) lv (.int (xs i.toNatClampNeg) :: st) w) : VQ p l e R s m args below meth c G A nL kc ks Q pc lv (.int i :: .ref b :: st) w :=
  fun H locs ls hl hP hS => va_sld C.1 C.2.1 hX hbl hbA hS h d (k H locs ls hl hP hS)
theorem v_slen (C : Cx p s m args meth c G A cc nL own Ts ret) {b L : Nat} {xs : Nat → Int32} (hX : va_X b L xs s s.heap) (hbl : b < s.heap.size) (hbA : ¬ A b) (d : decode cc pc = .ok (.arraylength, 1)) (k : VQ p l e R s m args below meth c G A nL kc ks Q (pc + 1) lv (.int (nI L) :: st) w) : VQ p l e R s m args below meth c G A nL kc ks Q pc lv (.ref b :: st) w :=
  fun H locs ls hl hP hS => va_slen C.1 C.2.1 hX hbl hbA hS d (k H locs ls hl hP hS)
def PX (G : GG) (A : Nat → Prop) (b L : Nat) (xs : Nat → Int32) (k : Int32) (w : Wd) : Array Value → State → Prop := fun a U => PP G A [.ref b, .int k] w a U ∧ va_X b L xs U U.heap ∧ b < U.heap.size
theorem PX.blind {b L : Nat} {xs : Nat → Int32} {k : Int32} : FrameBlind (PX G A b L xs k w) := fun a U g mk q => ⟨PP.blind a U g mk q.1, va_X.moved (Vm.Alike.refl _) q.2.1, q.2.2⟩
theorem hS_L_cell : yL_cell.cls ≠ "java/lang/invoke/MethodHandle" ∧ yL_cell.cls ≠ "java/lang/invoke/VarHandle" ∧ (parseMethodDescriptor yL_cell.desc).map (fun d => d.parameters.length) = some 2 := by decide +kernel
theorem cL_cell_7 : Cond.constant RL 7 916318735 ∈ wsL_cell := by decide +kernel
set_option maxRecDepth 100000 in
set_option maxHeartbeats 4000000 in
theorem r_L_cell {b L : Nat} {xs : Nat → Int32} {k z : Int32} (hL : L ≤ 260) (hbA : ¬ A b) (h : cellO L xs k = some z) : Met l yL_cell wsL_cell { frames := 0, cells := 0, slots := 0, locals := 0 } (PX G A b L xs k w) (QQ G A (some (.int z)) w) 0 0 A := by
  refine Met.ofW (cc := cL_cell) (maxL := 2) (ret := some .int) (by decide) rfl ?_
  intro p e s m args below meth c s₁ B hml hv
  obtain ⟨⟨rfl, hP, hE⟩, hX, hbl⟩ := hv
  have hl := lv_entry [.ref b, .int k] (n := 2) (Nat.le_of_ble_eq_true rfl)
  rw [lg_entry_eq]
  have C : Cx p s m ([.ref b, .int k] : List Value).toArray meth c G A cL_cell 2 RL wsL_cell (some .int) := ⟨B.exec, B.bytes, hml, findClass_of_methodNamed B.named, atoms_spec B.pre, hE, B.notSynchronized, B.returns⟩
  have K : V p l e { frames := 0, cells := 0, slots := 0, locals := 0 } s m ([.ref b, .int k] : List Value).toArray below meth c G A 2 0 [(0, .ref b), (1, .int k)] [] w (some (.int z)) w := by
    unfold cellO at h
    refine v_iload_n C 1 dL_cell_0 rfl rfl ?_
    refine v_aload_n C 0 dL_cell_1 rfl rfl ?_
    refine v_slen C hX hbl hbA dL_cell_2 ?_
    refine v_icmp_ge C (tgt := 12) dL_cell_3 (by decide) (fun q => ?_) (fun q => ?_)
    · have h := ite_t q h
      refine v_ldc C dL_cell_12 cL_cell_7 ?_
      refine v_iload_n C 1 dL_cell_14 rfl rfl ?_
      refine v_iconst C (v := 1) dL_cell_15 (by decide) ?_
      refine v_iadd C dL_cell_16 ?_
      refine v_imul C dL_cell_17 ?_
      obtain rfl := Option.some.inj h
      exact v_iret C dL_cell_18
    · have h := ite_f q h
      by_cases q2 : k < 0
      · rw [if_pos q2] at h
        cases h
      · rw [if_neg q2] at h
        refine v_aload_n C 0 dL_cell_6 rfl rfl ?_
        refine v_iload_n C 1 dL_cell_7 rfl rfl ?_
        refine v_sld C hX hbl hbA (vin_of hL q q2) dL_cell_8 ?_
        refine v_goto C (tgt := 18) dL_cell_9 (by decide) ?_
        obtain rfl := Option.some.inj h
        exact v_iret C dL_cell_18
  exact K s.heap [] _ hl hP va_S.rf
theorem v_cell {b L : Nat} {xs : Nat → Int32} {k z : Int32} {rest : List Value} (hL : L ≤ 260) (C : Cx p s m #[Value.ref b] meth c G (fun q => s.heap.size ≤ q) cL_law 11 RL wsL_law ret) (C0 : lw_At p s m meth c b L xs) (h : cellO L xs k = some z)
    (hW : (rest.map fun v => v.category).sum ≤ 8) (hst : st = [.int k, .ref b] ++ rest) (d : decode cL_law pc = .ok (.invokestatic 155, 3)) (kk : VQ p l e room_1 s m #[Value.ref b] below meth c G (fun q => s.heap.size ≤ q) 11 kc ks Q (pc + 3) lv (.int z :: rest) w) (hk : kc ≤ room_1.cells ∧ ks ≤ room_1.slots) :
    VQ p l e room_1 s m #[Value.ref b] below meth c G (fun q => s.heap.size ≤ q) 11 kc ks Q pc lv st w := by
  subst hst
  obtain ⟨hx, hb, hr, hml, hown, hts, hX, hbl, hlocks, hgv⟩ := C0
  have hbA : ¬ (fun q : Nat => s.heap.size ≤ q) b := Nat.not_le.mpr hbl
  intro H locs ls hl hP hS
  exact W.vrun hS (va_runS (As := [.ref b, .int k]) (rest := rest) (n := 2) ⟨C.1, C.2.1, C.2.2.1, C.2.2.2.1, C.2.2.2.2.1⟩ (r_L_cell hL hbA h) (va_cwS 2 C.2.2.2.2.1 gL_law_L_cell rfl rfl rfl hS_L_cell ⟨Nat.le_of_ble_eq_true rfl, Nat.le_of_ble_eq_true rfl⟩) ⟨PX.blind, fun U hU hWm => ⟨⟨rfl, by rw [hU]; exact hP, by rw [hU]; exact C.2.2.2.2.2.1.next hS hWm⟩, by rw [hU]; exact (hX.kept (hS.2.1 b hbl hbA)).moved hWm.alike, by rw [hU]; exact Nat.lt_of_lt_of_le hbl hS.1⟩⟩ rfl rfl hl.1 rfl (lv_room hW) d hk) (fun H1 locs1 h1 h2 => kk H1 locs1 ls hl h1 h2)
/-- the law's end -/
theorem law_end {b L : Nat} {xs : Nat → Int32} {v : Int32} (C0 : lw_At p s m meth c b L xs) (hv : v = 1) (hk : kc ≤ 600104 ∧ ks ≤ 7301314) (d : decode cL_law pc = .ok (.ireturn, 1)) : VQ p l e room_1 s m #[Value.ref b] below meth c G (fun q => s.heap.size ≤ q) 11 kc ks (lw_Z below #[Value.ref b] s) pc lv [.int v] w := by
  subst hv
  obtain ⟨hx, hb, hr, hml, hown, hts, hX, hbl, hlocks, hgv⟩ := C0
  intro H locs ls hl hP hS
  refine va_forget (fun q hq => hS.2.2 q hq) ?_
  refine W.widen (k := 600104) (n := 7301314) hk.1 hk.2 ?_
  exact lw_ret hx hb hr hlocks d
end VC
