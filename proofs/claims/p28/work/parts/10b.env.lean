/-! THE LAW'S START: what the Statement gives, as the world's own facts -/
/-- a text's place, whatever the arguments -/
theorem strR {own tx : String} {k a : Nat} {args : Array Value} {s : State} (h1 : (Cond.stringRef own k tx).before args s = true) (h2 : (Term.string own k).eval args s none [] s = some (.ref a)) : vk_R own k tx a s := vk_R.of h1 h2
theorem i5 {i : Nat} (h : i < 5) : i = 0 ∨ i = 1 ∨ i = 2 ∨ i = 3 ∨ i = 4 := by omega
theorem arr_of {s : State} {args : Array Value} {ty : FieldType} (h : (Cond.arrayClass ty).before args s = true) : ∃ cA : ClassId, ArrOfT s cA ty ∧ s.vm.findClass ("[" ++ ty.toString) = some cA := by
  obtain ⟨c, k, comp, h1, h2, h3⟩ := Cond.arrayClass_spec (show (Cond.arrayClass ty).holds args s none s [] = true from h)
  exact ⟨c, fun n z => ⟨(fun k h => by cases h), k, h2, comp, h3⟩, h1⟩
theorem arrq_of {s : State} {C : String} (h : va_AO C s) : ∃ cA : ClassId, ArrOfT s cA (.object C) ∧ va_RA s cA (.object C) := by
  obtain ⟨comp, c, k, h1, h2, h3, h4, h5⟩ := Cond.arrayOver_spec (show (Cond.arrayOver (.object C)).holds #[] s none s [] = true from h)
  exact ⟨c, fun n z => ⟨(fun k h => by cases h), k, h3, comp, h4⟩, k, comp, h3, h4, h1, h5⟩
theorem e_in0 : Cond.instantiable RX0 2 ∈ lw_tbl := by decide +kernel
theorem e_in1 : Cond.instantiable RX1 4 ∈ lw_tbl := by decide +kernel
theorem e_in2 : Cond.instantiable RX2 6 ∈ lw_tbl := by decide +kernel
theorem e_in3 : Cond.instantiable RX4 9 ∈ lw_tbl := by decide +kernel
theorem e_in4 : Cond.instantiable RX5 3 ∈ lw_tbl := by decide +kernel
theorem e_in5 : Cond.instantiable RX6 5 ∈ lw_tbl := by decide +kernel
theorem e_ar0 : Cond.arrayClass .int ∈ lw_tbl := by decide +kernel
theorem e_ar1 : Cond.arrayClass .boolean ∈ lw_tbl := by decide +kernel
theorem e_ao0 : Cond.arrayOver (.object "SkipQuadtree$Level") ∈ lw_tbl := by decide +kernel
theorem e_ao1 : Cond.arrayOver (.object "SkipQuadtree$State") ∈ lw_tbl := by decide +kernel
theorem e_ne0 : Cond.methodLinkNest RX0 29 yX6_heightOf "SkipQuadtree" ∈ lw_tbl := by decide +kernel
theorem e_ne2 : Cond.methodLinkNest RX3 41 yX6_distance "SkipQuadtree" ∈ lw_tbl := by decide +kernel
theorem e_ne3 : Cond.methodLinkNest RX4 45 yX6_distance "SkipQuadtree" ∈ lw_tbl := by decide +kernel
theorem e_ne4 : Cond.methodLinkNest RX0 21 yX1_init "SkipQuadtree" ∈ lw_tbl := by decide +kernel
theorem e_ne5 : Cond.methodLinkNest RX6 25 yX2_init "SkipQuadtree" ∈ lw_tbl := by decide +kernel
theorem e_de0 : Cond.declares (Bundle.initS "java/lang/RuntimeException") ∈ lw_tbl := by decide +kernel
theorem e_de1 : Cond.declares (Bundle.initS "java/lang/Exception") ∈ lw_tbl := by decide +kernel
theorem e_de2 : Cond.declares (Bundle.initS Bundle.tN) ∈ lw_tbl := by decide +kernel
theorem e_ca0 : Cond.castable eI eI ∈ lw_tbl := by decide +kernel
theorem e_ca1 : Cond.castable eA eA ∈ lw_tbl := by decide +kernel
theorem e_ca2 : Cond.castable eS eS ∈ lw_tbl := by decide +kernel
theorem e_st5 : Cond.stringRef RX6 313 "there is no such point, level, node or cursor" ∈ lw_tbl := by decide +kernel
theorem e_st6 : Cond.stringRef RX6 320 "an argument is out of range" ∈ lw_tbl := by decide +kernel
theorem e_st7 : Cond.stringRef RX6 325 "this call is not possible now" ∈ lw_tbl := by decide +kernel
theorem e_l0 : Cond.laysStatic Bundle.tN "UNASSIGNED_STACK" Bundle.steD ∈ lw_tbl := by decide +kernel
theorem e_l1 : Cond.laysStatic Bundle.tN "SUPPRESSED_SENTINEL" Bundle.listD ∈ lw_tbl := by decide +kernel
theorem e_i0 : Cond.initialized Bundle.tN ∈ lw_tbl := by decide +kernel
set_option maxRecDepth 100000 in
set_option maxHeartbeats 8000000 in
theorem law_env {p : Program} {s : State} {m : MethodId} {meth : Method} {c : Code} {b L : Nat} {xs : Nat → Int32} (C0 : lw_At p s m meth c b L xs) : ∃ G : GG, EE G (fun q => s.heap.size ≤ q) s s.heap := by
  obtain ⟨hx, hb, hr, hml, hown, hts, hX, hbl, hlocks, hgv⟩ := C0
  have hs := flat_of_before _ hgv
  have hA : ∀ a : Nat, a < s.heap.size → ¬ (fun q : Nat => s.heap.size ≤ q) a := fun a h => Nat.not_le.mpr h
  obtain ⟨c0, i0, k0⟩ := u_known (C := RX0) (T := TX0) (N := 2) (n := 2) hts inX0 (hts _ e_in0)
  obtain ⟨c1, i1, k1⟩ := u_known (C := RX1) (T := TX1) (N := 4) (n := 4) hts inX1 (hts _ e_in1)
  obtain ⟨c2, i2, k2⟩ := u_known (C := RX2) (T := TX2) (N := 6) (n := 6) hts inX2 (hts _ e_in2)
  obtain ⟨c3, i3, k3⟩ := u_known (C := RX4) (T := TX4) (N := 9) (n := 9) hts inX4 (hts _ e_in3)
  obtain ⟨c4, i4, k4⟩ := u_known (C := RX5) (T := TX5) (N := 3) (n := 3) hts inX5 (hts _ e_in4)
  obtain ⟨c5, i5_, k5⟩ := u_known (C := RX6) (T := TX6) (N := 5) (n := 5) hts inX6 (hts _ e_in5)
  obtain ⟨a0, g0, f0⟩ := arr_of (hts _ e_ar0)
  obtain ⟨a1, g1, f1⟩ := arr_of (hts _ e_ar1)
  have o0 : va_AO "SkipQuadtree$Level" s := va_AO.of (hts _ e_ao0)
  have o1 : va_AO "SkipQuadtree$State" s := va_AO.of (hts _ e_ao1)
  obtain ⟨a3, g3, f3⟩ := arrq_of o0
  obtain ⟨a4, g4, f4⟩ := arrq_of o1
  refine ⟨((fun k => if k = 0 then c0 else if k = 1 then c1 else if k = 2 then c2 else if k = 3 then c3 else if k = 4 then c4 else c5, fun k => if k = 0 then i0 else if k = 1 then i1 else if k = 2 then i2 else if k = 3 then i3 else if k = 4 then i4 else i5_), (fun k => if k = 0 then a0 else if k = 1 then a1 else if k = 2 then a0 else if k = 3 then a3 else a4), fun _ => 0, fun _ => 0), ⟨fun k q hq => ?_, fun k q hq => ?_⟩, ?_, ?_⟩
  · match k, hq with
    | 0, hq => cases hq; exact k0
    | 1, hq => cases hq; exact k1
    | 2, hq => cases hq; exact k2
    | 3, hq => cases hq; exact k3
    | 4, hq => cases hq; exact k4
    | 5, hq => cases hq; exact k5
    | k + 6, hq => simp [vwCl] at hq
  · match k, hq with
    | 0, hq => cases hq; exact ⟨g0, f0⟩
    | 1, hq => cases hq; exact ⟨g1, f1⟩
    | 2, hq => cases hq; exact ⟨g0, f0⟩
    | 3, hq => cases hq; exact ⟨g3, f3⟩
    | 4, hq => cases hq; exact ⟨g4, f4⟩
    | k + 5, hq => simp [atys] at hq
  · exact ⟨va_Nw.of rfl (hts _ e_ne0), va_Nw.of rfl (hts _ e_ne0), va_Nw.of rfl (hts _ e_ne2), va_Nw.of rfl (hts _ e_ne3), va_Nw.of rfl (hts _ e_ne4), va_Nw.of rfl (hts _ e_ne5), o0, o1⟩
  · refine ⟨⟨trivial, ?_, ?_, trivial, trivial⟩, trivial, ?_, ?_, ?_, ?_⟩
    · exact vx_Zqof (hts _ e_l0) (hts _ e_i0) (hs _ (by decide +kernel)) hA
    · exact vx_Zqof (hts _ e_l1) (hts _ e_i0) (hs _ (by decide +kernel)) hA
    · obtain ⟨q, cq, cA, kA, q1, -⟩ := Cond.exactly_spec (args := #[Value.ref b]) (first := s) (o := none) (s := s) (idx := []) (t := .string RX6 313) (cls := "java/lang/String") (hs _ (by decide +kernel))
      exact ⟨q, strR (hts _ e_st5) q1⟩
    · obtain ⟨q, cq, cA, kA, q1, -⟩ := Cond.exactly_spec (args := #[Value.ref b]) (first := s) (o := none) (s := s) (idx := []) (t := .string RX6 320) (cls := "java/lang/String") (hs _ (by decide +kernel))
      exact ⟨q, strR (hts _ e_st6) q1⟩
    · obtain ⟨q, cq, cA, kA, q1, -⟩ := Cond.exactly_spec (args := #[Value.ref b]) (first := s) (o := none) (s := s) (idx := []) (t := .string RX6 325) (cls := "java/lang/String") (hs _ (by decide +kernel))
      exact ⟨q, strR (hts _ e_st7) q1⟩
    · exact ⟨⟨va_Nw.of rfl (hts _ e_de0), va_Nw.of rfl (hts _ e_de1), va_Nw.of rfl (hts _ e_de2)⟩, ⟨va_Nw.of rfl (hts _ e_ca0), va_Nw.of rfl (hts _ e_ca1), va_Nw.of rfl (hts _ e_ca2)⟩, va_Nc.of (hs _ (by decide +kernel)), va_Nc.of (hs _ (by decide +kernel)), va_Nc.of (hs _ (by decide +kernel))⟩
