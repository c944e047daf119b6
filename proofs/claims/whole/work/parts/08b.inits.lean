theorem inX4_init_X4 : ∀ x ∈ u_ws RX4 TX4 9, x ∈ wsX4_init := by decide +kernel
theorem oiX4_init : Cond.methodLink RX4 3 objectInit ∈ wsX4_init := by decide +kernel
theorem ojX4_init : Cond.instanceMethod objectInit ∈ wsX4_init := by decide +kernel
theorem okX4_init : Cond.code objectInit ⟨#[0xb1]⟩ 1 none ∈ wsX4_init := by decide +kernel
theorem acX4_init_boolean : Cond.arrayClass (newarray.typeOf .boolean) ∈ wsX4_init := by decide +kernel
theorem fX4_init_9 : Cond.fieldLink RX4 9 (TX4 0).1 (TX4 0).2.1 (TX4 0).2.2.1 ∈ wsX4_init := by decide +kernel
theorem acX4_init_int : Cond.arrayClass (newarray.typeOf .int) ∈ wsX4_init := by decide +kernel
theorem fX4_init_15 : Cond.fieldLink RX4 15 (TX4 1).1 (TX4 1).2.1 (TX4 1).2.2.1 ∈ wsX4_init := by decide +kernel
theorem fX4_init_19 : Cond.fieldLink RX4 19 (TX4 2).1 (TX4 2).2.1 (TX4 2).2.2.1 ∈ wsX4_init := by decide +kernel
theorem fX4_init_22 : Cond.fieldLink RX4 22 (TX4 3).1 (TX4 3).2.1 (TX4 3).2.2.1 ∈ wsX4_init := by decide +kernel
theorem fX4_init_25 : Cond.fieldLink RX4 25 (TX4 4).1 (TX4 4).2.1 (TX4 4).2.2.1 ∈ wsX4_init := by decide +kernel
theorem fX4_init_28 : Cond.fieldLink RX4 28 (TX4 5).1 (TX4 5).2.1 (TX4 5).2.2.1 ∈ wsX4_init := by decide +kernel
theorem fX4_init_31 : Cond.fieldLink RX4 31 (TX4 6).1 (TX4 6).2.1 (TX4 6).2.2.1 ∈ wsX4_init := by decide +kernel
theorem fX4_init_34 : Cond.fieldLink RX4 34 (TX4 7).1 (TX4 7).2.1 (TX4 7).2.2.1 ∈ wsX4_init := by decide +kernel
def o_X4_init (b sz : Nat) : Cel := .inr (3, [.ref (sz + 0), .ref (sz + 1), .ref (sz + 2), .ref (sz + 3), .ref (sz + 4), .ref (sz + 5), .ref (sz + 6), .ref (sz + 7), .int 0])
def l_X4_init (b sz : Nat) : List Cel := [.inl (1, 24, .inl (fun _ => 0)), .inl (0, 24, .inl (fun _ => 0)), .inl (0, 24, .inl (fun _ => 0)), .inl (0, 24, .inl (fun _ => 0)), .inl (0, 24, .inl (fun _ => 0)), .inl (0, 4, .inl (fun _ => 0)), .inl (0, 4, .inl (fun _ => 0)), .inl (0, 4, .inl (upd (upd (upd (upd (fun _ => 0) 0 (-1)) 1 (-1)) 2 (-1)) 3 (-1)))]
set_option maxRecDepth 100000 in
set_option maxHeartbeats 8000000 in
theorem r_X4_init {l : Launch} (G : GG) (b sz : Nat) : ConN l yX4_init wsX4_init { frames := 1, cells := 8, slots := 132, locals := 12 } G b sz (.inr (3, [.null, .null, .null, .null, .null, .null, .null, .null, .int 0])) (.inr (3, [.ref (sz + 0), .ref (sz + 1), .ref (sz + 2), .ref (sz + 3), .ref (sz + 4), .ref (sz + 5), .ref (sz + 6), .ref (sz + 7), .int 0])) [.inl (1, 24, .inl (fun _ => 0)), .inl (0, 24, .inl (fun _ => 0)), .inl (0, 24, .inl (fun _ => 0)), .inl (0, 24, .inl (fun _ => 0)), .inl (0, 24, .inl (fun _ => 0)), .inl (0, 4, .inl (fun _ => 0)), .inl (0, 4, .inl (fun _ => 0)), .inl (0, 4, .inl (upd (upd (upd (upd (fun _ => 0) 0 (-1)) 1 (-1)) 2 (-1)) 3 (-1)))] 8 132 := by
  refine ConN.of (own := RX4) (cc := cX4_init) (maxL := 2) rfl rfl (by decide) rfl (Nat.le_of_ble_eq_true rfl) ?_
  intro p e s m args below meth c C
  refine n_aload_n C 0 dX4_init_0 rfl rfl ?_
  refine n_objInit C oiX4_init ojX4_init okX4_init dX4_init_1 (Nat.le_of_ble_eq_true rfl) (Nat.le_of_ble_eq_true rfl) ?_
  refine n_aload_n C 0 dX4_init_4 rfl rfl ?_
  refine n_bipush C (v := 24) dX4_init_5 (by decide) ?_
  refine n_newa C 1 (N' := 24) (i0 := 24) acX4_init_boolean rfl rfl (fun U h => h) (fun cA => rfl) (by decide) (by decide) (Nat.le_of_ble_eq_true rfl) (Nat.le_of_ble_eq_true rfl) (Nat.le_of_ble_eq_true rfl) dX4_init_7 ?_
  refine n_putThisF C (ci := 3) (k0 := 0) rfl inX4_init_X4 tyX4_ok nmX4 (by decide) fX4_init_9 rfl rfl (tyX4_ok 0 (by decide)) rfl rfl (by decide) dX4_init_9 ?_
  refine n_aload_n C 0 dX4_init_12 rfl rfl ?_
  refine n_bipush C (v := 24) dX4_init_13 (by decide) ?_
  refine n_newa C 0 (N' := 24) (i0 := 24) acX4_init_int rfl rfl (fun U h => h) (fun cA => rfl) (by decide) (by decide) (Nat.le_of_ble_eq_true rfl) (Nat.le_of_ble_eq_true rfl) (Nat.le_of_ble_eq_true rfl) dX4_init_15 ?_
  refine n_putThisF C (ci := 3) (k0 := 1) rfl inX4_init_X4 tyX4_ok nmX4 (by decide) fX4_init_15 rfl rfl (tyX4_ok 1 (by decide)) rfl rfl (by decide) dX4_init_17 ?_
  refine n_aload_n C 0 dX4_init_20 rfl rfl ?_
  refine n_bipush C (v := 24) dX4_init_21 (by decide) ?_
  refine n_newa C 0 (N' := 24) (i0 := 24) acX4_init_int rfl rfl (fun U h => h) (fun cA => rfl) (by decide) (by decide) (Nat.le_of_ble_eq_true rfl) (Nat.le_of_ble_eq_true rfl) (Nat.le_of_ble_eq_true rfl) dX4_init_23 ?_
  refine n_putThisF C (ci := 3) (k0 := 2) rfl inX4_init_X4 tyX4_ok nmX4 (by decide) fX4_init_19 rfl rfl (tyX4_ok 2 (by decide)) rfl rfl (by decide) dX4_init_25 ?_
  refine n_aload_n C 0 dX4_init_28 rfl rfl ?_
  refine n_bipush C (v := 24) dX4_init_29 (by decide) ?_
  refine n_newa C 0 (N' := 24) (i0 := 24) acX4_init_int rfl rfl (fun U h => h) (fun cA => rfl) (by decide) (by decide) (Nat.le_of_ble_eq_true rfl) (Nat.le_of_ble_eq_true rfl) (Nat.le_of_ble_eq_true rfl) dX4_init_31 ?_
  refine n_putThisF C (ci := 3) (k0 := 3) rfl inX4_init_X4 tyX4_ok nmX4 (by decide) fX4_init_22 rfl rfl (tyX4_ok 3 (by decide)) rfl rfl (by decide) dX4_init_33 ?_
  refine n_aload_n C 0 dX4_init_36 rfl rfl ?_
  refine n_bipush C (v := 24) dX4_init_37 (by decide) ?_
  refine n_newa C 0 (N' := 24) (i0 := 24) acX4_init_int rfl rfl (fun U h => h) (fun cA => rfl) (by decide) (by decide) (Nat.le_of_ble_eq_true rfl) (Nat.le_of_ble_eq_true rfl) (Nat.le_of_ble_eq_true rfl) dX4_init_39 ?_
  refine n_putThisF C (ci := 3) (k0 := 4) rfl inX4_init_X4 tyX4_ok nmX4 (by decide) fX4_init_25 rfl rfl (tyX4_ok 4 (by decide)) rfl rfl (by decide) dX4_init_41 ?_
  refine n_aload_n C 0 dX4_init_44 rfl rfl ?_
  refine n_iconst C (v := 4) dX4_init_45 (by decide) ?_
  refine n_newa C 0 (N' := 4) (i0 := 4) acX4_init_int rfl rfl (fun U h => h) (fun cA => rfl) (by decide) (by decide) (Nat.le_of_ble_eq_true rfl) (Nat.le_of_ble_eq_true rfl) (Nat.le_of_ble_eq_true rfl) dX4_init_46 ?_
  refine n_putThisF C (ci := 3) (k0 := 5) rfl inX4_init_X4 tyX4_ok nmX4 (by decide) fX4_init_28 rfl rfl (tyX4_ok 5 (by decide)) rfl rfl (by decide) dX4_init_48 ?_
  refine n_aload_n C 0 dX4_init_51 rfl rfl ?_
  refine n_iconst C (v := 4) dX4_init_52 (by decide) ?_
  refine n_newa C 0 (N' := 4) (i0 := 4) acX4_init_int rfl rfl (fun U h => h) (fun cA => rfl) (by decide) (by decide) (Nat.le_of_ble_eq_true rfl) (Nat.le_of_ble_eq_true rfl) (Nat.le_of_ble_eq_true rfl) dX4_init_53 ?_
  refine n_putThisF C (ci := 3) (k0 := 6) rfl inX4_init_X4 tyX4_ok nmX4 (by decide) fX4_init_31 rfl rfl (tyX4_ok 6 (by decide)) rfl rfl (by decide) dX4_init_55 ?_
  refine n_aload_n C 0 dX4_init_58 rfl rfl ?_
  refine n_iconst C (v := 4) dX4_init_59 (by decide) ?_
  refine n_newa C 0 (N' := 4) (i0 := 4) acX4_init_int rfl rfl (fun U h => h) (fun cA => rfl) (by decide) (by decide) (Nat.le_of_ble_eq_true rfl) (Nat.le_of_ble_eq_true rfl) (Nat.le_of_ble_eq_true rfl) dX4_init_60 ?_
  refine n_putThisF C (ci := 3) (k0 := 7) rfl inX4_init_X4 tyX4_ok nmX4 (by decide) fX4_init_34 rfl rfl (tyX4_ok 7 (by decide)) rfl rfl (by decide) dX4_init_62 ?_
  refine n_iconst C (v := 0) dX4_init_65 (by decide) ?_
  refine n_istore_n C (lv' := [(1, .int 0), (0, .ref b)]) dX4_init_66 rfl (by decide) rfl ?_
  refine n_iload_n C 0 dX4_init_67 rfl rfl ?_
  refine n_iconst C (v := 4) dX4_init_68 (by decide) ?_
  refine n_geF C (tgt := 85) dX4_init_69 (by decide) (by decide) ?_
  refine n_aload_n C 1 dX4_init_72 rfl rfl ?_
  refine n_getThis C (ci := 3) (k0 := 7) rfl inX4_init_X4 (by decide) fX4_init_34 dX4_init_73 rfl ?_
  refine n_iload_n C 0 dX4_init_76 rfl rfl ?_
  refine n_iconst C (v := (-1)) dX4_init_77 (by decide) ?_
  refine n_iast C (j := 7) rfl (by decide) dX4_init_78 ?_
  refine n_norm (L' := [.inl (1, 24, .inl (fun _ => 0)), .inl (0, 24, .inl (fun _ => 0)), .inl (0, 24, .inl (fun _ => 0)), .inl (0, 24, .inl (fun _ => 0)), .inl (0, 24, .inl (fun _ => 0)), .inl (0, 4, .inl (fun _ => 0)), .inl (0, 4, .inl (fun _ => 0)), .inl (0, 4, .inl (upd (fun _ => 0) 0 (-1)))]) rfl ?_
  refine n_iinc C (j := 0) (v := 1) (lv' := [(1, .int 1), (0, .ref b)]) dX4_init_79 rfl (by decide) (by decide) rfl ?_
  refine n_goto C (tgt := 67) dX4_init_82 (by decide) ?_
  refine n_iload_n C 0 dX4_init_67 rfl rfl ?_
  refine n_iconst C (v := 4) dX4_init_68 (by decide) ?_
  refine n_geF C (tgt := 85) dX4_init_69 (by decide) (by decide) ?_
  refine n_aload_n C 1 dX4_init_72 rfl rfl ?_
  refine n_getThis C (ci := 3) (k0 := 7) rfl inX4_init_X4 (by decide) fX4_init_34 dX4_init_73 rfl ?_
  refine n_iload_n C 0 dX4_init_76 rfl rfl ?_
  refine n_iconst C (v := (-1)) dX4_init_77 (by decide) ?_
  refine n_iast C (j := 7) rfl (by decide) dX4_init_78 ?_
  refine n_norm (L' := [.inl (1, 24, .inl (fun _ => 0)), .inl (0, 24, .inl (fun _ => 0)), .inl (0, 24, .inl (fun _ => 0)), .inl (0, 24, .inl (fun _ => 0)), .inl (0, 24, .inl (fun _ => 0)), .inl (0, 4, .inl (fun _ => 0)), .inl (0, 4, .inl (fun _ => 0)), .inl (0, 4, .inl (upd (upd (fun _ => 0) 0 (-1)) 1 (-1)))]) rfl ?_
  refine n_iinc C (j := 0) (v := 2) (lv' := [(1, .int 2), (0, .ref b)]) dX4_init_79 rfl (by decide) (by decide) rfl ?_
  refine n_goto C (tgt := 67) dX4_init_82 (by decide) ?_
  refine n_iload_n C 0 dX4_init_67 rfl rfl ?_
  refine n_iconst C (v := 4) dX4_init_68 (by decide) ?_
  refine n_geF C (tgt := 85) dX4_init_69 (by decide) (by decide) ?_
  refine n_aload_n C 1 dX4_init_72 rfl rfl ?_
  refine n_getThis C (ci := 3) (k0 := 7) rfl inX4_init_X4 (by decide) fX4_init_34 dX4_init_73 rfl ?_
  refine n_iload_n C 0 dX4_init_76 rfl rfl ?_
  refine n_iconst C (v := (-1)) dX4_init_77 (by decide) ?_
  refine n_iast C (j := 7) rfl (by decide) dX4_init_78 ?_
  refine n_norm (L' := [.inl (1, 24, .inl (fun _ => 0)), .inl (0, 24, .inl (fun _ => 0)), .inl (0, 24, .inl (fun _ => 0)), .inl (0, 24, .inl (fun _ => 0)), .inl (0, 24, .inl (fun _ => 0)), .inl (0, 4, .inl (fun _ => 0)), .inl (0, 4, .inl (fun _ => 0)), .inl (0, 4, .inl (upd (upd (upd (fun _ => 0) 0 (-1)) 1 (-1)) 2 (-1)))]) rfl ?_
  refine n_iinc C (j := 0) (v := 3) (lv' := [(1, .int 3), (0, .ref b)]) dX4_init_79 rfl (by decide) (by decide) rfl ?_
  refine n_goto C (tgt := 67) dX4_init_82 (by decide) ?_
  refine n_iload_n C 0 dX4_init_67 rfl rfl ?_
  refine n_iconst C (v := 4) dX4_init_68 (by decide) ?_
  refine n_geF C (tgt := 85) dX4_init_69 (by decide) (by decide) ?_
  refine n_aload_n C 1 dX4_init_72 rfl rfl ?_
  refine n_getThis C (ci := 3) (k0 := 7) rfl inX4_init_X4 (by decide) fX4_init_34 dX4_init_73 rfl ?_
  refine n_iload_n C 0 dX4_init_76 rfl rfl ?_
  refine n_iconst C (v := (-1)) dX4_init_77 (by decide) ?_
  refine n_iast C (j := 7) rfl (by decide) dX4_init_78 ?_
  refine n_norm (L' := [.inl (1, 24, .inl (fun _ => 0)), .inl (0, 24, .inl (fun _ => 0)), .inl (0, 24, .inl (fun _ => 0)), .inl (0, 24, .inl (fun _ => 0)), .inl (0, 24, .inl (fun _ => 0)), .inl (0, 4, .inl (fun _ => 0)), .inl (0, 4, .inl (fun _ => 0)), .inl (0, 4, .inl (upd (upd (upd (upd (fun _ => 0) 0 (-1)) 1 (-1)) 2 (-1)) 3 (-1)))]) rfl ?_
  refine n_iinc C (j := 0) (v := 4) (lv' := [(1, .int 4), (0, .ref b)]) dX4_init_79 rfl (by decide) (by decide) rfl ?_
  refine n_goto C (tgt := 67) dX4_init_82 (by decide) ?_
  refine n_iload_n C 0 dX4_init_67 rfl rfl ?_
  refine n_iconst C (v := 4) dX4_init_68 (by decide) ?_
  refine n_geT C (tgt := 85) dX4_init_69 (by decide) (by decide) ?_
  exact n_vret C dX4_init_85 rfl rfl rfl rfl
theorem inX1_init_X1 : ∀ x ∈ u_ws RX1 TX1 4, x ∈ wsX1_init := by decide +kernel
theorem oiX1_init : Cond.methodLink RX1 3 objectInit ∈ wsX1_init := by decide +kernel
theorem ojX1_init : Cond.instanceMethod objectInit ∈ wsX1_init := by decide +kernel
theorem okX1_init : Cond.code objectInit ⟨#[0xb1]⟩ 1 none ∈ wsX1_init := by decide +kernel
theorem acX1_init_int : Cond.arrayClass (newarray.typeOf .int) ∈ wsX1_init := by decide +kernel
theorem fX1_init_9 : Cond.fieldLink RX1 9 (TX1 0).1 (TX1 0).2.1 (TX1 0).2.2.1 ∈ wsX1_init := by decide +kernel
theorem fX1_init_15 : Cond.fieldLink RX1 15 (TX1 2).1 (TX1 2).2.1 (TX1 2).2.2.1 ∈ wsX1_init := by decide +kernel
theorem fX1_init_18 : Cond.fieldLink RX1 18 (TX1 3).1 (TX1 3).2.1 (TX1 3).2.2.1 ∈ wsX1_init := by decide +kernel
def o_X1_init (b sz : Nat) : Cel := .inr (1, [.ref (sz + 0), .int 0, .ref (sz + 1), .int 1])
def l_X1_init (b sz : Nat) : List Cel := [.inl (0, 24, .inl (fun _ => 0)), .inl (0, 24, .inl (fun _ => 0))]
set_option maxRecDepth 100000 in
set_option maxHeartbeats 8000000 in
theorem r_X1_init {l : Launch} (G : GG) (b sz : Nat) : ConN l yX1_init wsX1_init { frames := 1, cells := 2, slots := 48, locals := 12 } G b sz (.inr (1, [.null, .int 0, .null, .int 0])) (.inr (1, [.ref (sz + 0), .int 0, .ref (sz + 1), .int 1])) [.inl (0, 24, .inl (fun _ => 0)), .inl (0, 24, .inl (fun _ => 0))] 2 48 := by
  refine ConN.of (own := RX1) (cc := cX1_init) (maxL := 1) rfl rfl (by decide) rfl (Nat.le_of_ble_eq_true rfl) ?_
  intro p e s m args below meth c C
  refine n_aload_n C 0 dX1_init_0 rfl rfl ?_
  refine n_objInit C oiX1_init ojX1_init okX1_init dX1_init_1 (Nat.le_of_ble_eq_true rfl) (Nat.le_of_ble_eq_true rfl) ?_
  refine n_aload_n C 0 dX1_init_4 rfl rfl ?_
  refine n_bipush C (v := 24) dX1_init_5 (by decide) ?_
  refine n_newa C 0 (N' := 24) (i0 := 24) acX1_init_int rfl rfl (fun U h => h) (fun cA => rfl) (by decide) (by decide) (Nat.le_of_ble_eq_true rfl) (Nat.le_of_ble_eq_true rfl) (Nat.le_of_ble_eq_true rfl) dX1_init_7 ?_
  refine n_putThisF C (ci := 1) (k0 := 0) rfl inX1_init_X1 tyX1_ok nmX1 (by decide) fX1_init_9 rfl rfl (tyX1_ok 0 (by decide)) rfl rfl (by decide) dX1_init_9 ?_
  refine n_aload_n C 0 dX1_init_12 rfl rfl ?_
  refine n_bipush C (v := 24) dX1_init_13 (by decide) ?_
  refine n_newa C 0 (N' := 24) (i0 := 24) acX1_init_int rfl rfl (fun U h => h) (fun cA => rfl) (by decide) (by decide) (Nat.le_of_ble_eq_true rfl) (Nat.le_of_ble_eq_true rfl) (Nat.le_of_ble_eq_true rfl) dX1_init_15 ?_
  refine n_putThisF C (ci := 1) (k0 := 2) rfl inX1_init_X1 tyX1_ok nmX1 (by decide) fX1_init_15 rfl rfl (tyX1_ok 2 (by decide)) rfl rfl (by decide) dX1_init_17 ?_
  refine n_aload_n C 0 dX1_init_20 rfl rfl ?_
  refine n_iconst C (v := 1) dX1_init_21 (by decide) ?_
  refine n_putThis C (ci := 1) (k0 := 3) rfl inX1_init_X1 tyX1_ok nmX1 (by decide) fX1_init_18 rfl (tyX1_ok 3 (by decide)) rfl rfl (by decide) dX1_init_22 ?_
  exact n_vret C dX1_init_25 rfl rfl rfl rfl
theorem inX0_init_X0 : ∀ x ∈ u_ws RX0 TX0 2, x ∈ wsX0_init := by decide +kernel
theorem oiX0_init : Cond.methodLink RX0 3 objectInit ∈ wsX0_init := by decide +kernel
theorem ojX0_init : Cond.instanceMethod objectInit ∈ wsX0_init := by decide +kernel
theorem okX0_init : Cond.code objectInit ⟨#[0xb1]⟩ 1 none ∈ wsX0_init := by decide +kernel
theorem clX0_init_9 : Cond.classLink RX0 9 "SkipQuadtree$Level" ∈ wsX0_init := by decide +kernel
theorem fX0_init_11 : Cond.fieldLink RX0 11 (TX0 0).1 (TX0 0).2.1 (TX0 0).2.2.1 ∈ wsX0_init := by decide +kernel
theorem acX0_init_int : Cond.arrayClass (newarray.typeOf .int) ∈ wsX0_init := by decide +kernel
theorem fX0_init_17 : Cond.fieldLink RX0 17 (TX0 1).1 (TX0 1).2.1 (TX0 1).2.2.1 ∈ wsX0_init := by decide +kernel
theorem cnX0_init_X1 : Cond.instantiable RX1 4 ∈ wsX0_init := by decide +kernel
theorem cjX0_init_X1 : Cond.initialized RX1 ∈ wsX0_init := by decide +kernel
theorem inX0_init_X1 : ∀ x ∈ u_ws RX1 TX1 4, x ∈ wsX0_init := by decide +kernel
theorem dfX1 : ∀ j, j < 4 → defaultValue (tyX1 j) = vp_V [.null, .int 0, .null, .int 0] j := by decide +kernel
theorem hI_X1 : yX1_init.cls ≠ "java/lang/invoke/MethodHandle" ∧ yX1_init.cls ≠ "java/lang/invoke/VarHandle" ∧ (parseMethodDescriptor yX1_init.desc).map (fun d => d.parameters.length) = some 0 := by decide +kernel
theorem imX0_init_X1 : Cond.instanceMethod yX1_init ∈ wsX0_init := by decide +kernel
def o_X0_init (b sz : Nat) : Cel := .inr (0, [.ref (sz + 0), .ref (sz + 1)])
def l_X0_init (b sz : Nat) : List Cel := [.inl (3, 5, .inr (.inr (.inr (.inr (va_up (va_up (va_up (va_up (va_up (fun _ => none) 0 (some (sz + 2))) 1 (some (sz + 5))) 2 (some (sz + 8))) 3 (some (sz + 11))) 4 (some (sz + 14))))))), .inl (0, 24, .inl (fun _ => 0)), .inr (1, [.ref (sz + 3), .int 0, .ref (sz + 4), .int 1]), .inl (0, 24, .inl (fun _ => 0)), .inl (0, 24, .inl (fun _ => 0)), .inr (1, [.ref (sz + 6), .int 0, .ref (sz + 7), .int 1]), .inl (0, 24, .inl (fun _ => 0)), .inl (0, 24, .inl (fun _ => 0)), .inr (1, [.ref (sz + 9), .int 0, .ref (sz + 10), .int 1]), .inl (0, 24, .inl (fun _ => 0)), .inl (0, 24, .inl (fun _ => 0)), .inr (1, [.ref (sz + 12), .int 0, .ref (sz + 13), .int 1]), .inl (0, 24, .inl (fun _ => 0)), .inl (0, 24, .inl (fun _ => 0)), .inr (1, [.ref (sz + 15), .int 0, .ref (sz + 16), .int 1]), .inl (0, 24, .inl (fun _ => 0)), .inl (0, 24, .inl (fun _ => 0))]
set_option maxRecDepth 100000 in
set_option maxHeartbeats 8000000 in
theorem r_X0_init {l : Launch} (G : GG) (b sz : Nat) : ConN l yX0_init wsX0_init { frames := 2, cells := 17, slots := 289, locals := 32 } G b sz (.inr (0, [.null, .null])) (.inr (0, [.ref (sz + 0), .ref (sz + 1)])) [.inl (3, 5, .inr (.inr (.inr (.inr (va_up (va_up (va_up (va_up (va_up (fun _ => none) 0 (some (sz + 2))) 1 (some (sz + 5))) 2 (some (sz + 8))) 3 (some (sz + 11))) 4 (some (sz + 14))))))), .inl (0, 24, .inl (fun _ => 0)), .inr (1, [.ref (sz + 3), .int 0, .ref (sz + 4), .int 1]), .inl (0, 24, .inl (fun _ => 0)), .inl (0, 24, .inl (fun _ => 0)), .inr (1, [.ref (sz + 6), .int 0, .ref (sz + 7), .int 1]), .inl (0, 24, .inl (fun _ => 0)), .inl (0, 24, .inl (fun _ => 0)), .inr (1, [.ref (sz + 9), .int 0, .ref (sz + 10), .int 1]), .inl (0, 24, .inl (fun _ => 0)), .inl (0, 24, .inl (fun _ => 0)), .inr (1, [.ref (sz + 12), .int 0, .ref (sz + 13), .int 1]), .inl (0, 24, .inl (fun _ => 0)), .inl (0, 24, .inl (fun _ => 0)), .inr (1, [.ref (sz + 15), .int 0, .ref (sz + 16), .int 1]), .inl (0, 24, .inl (fun _ => 0)), .inl (0, 24, .inl (fun _ => 0))] 17 289 := by
  refine ConN.of (own := RX0) (cc := cX0_init) (maxL := 2) rfl rfl (by decide) rfl (Nat.le_of_ble_eq_true rfl) ?_
  intro p e s m args below meth c C
  refine n_aload_n C 0 dX0_init_0 rfl rfl ?_
  refine n_objInit C oiX0_init ojX0_init okX0_init dX0_init_1 (Nat.le_of_ble_eq_true rfl) (Nat.le_of_ble_eq_true rfl) ?_
  refine n_aload_n C 0 dX0_init_4 rfl rfl ?_
  refine n_iconst C (v := 5) dX0_init_5 (by decide) ?_
  refine n_newq C 3 (N' := 5) clX0_init_9 C.2.2.2.2.2.1.2.2.2.2.2.2.2.1 rfl (by decide) (by decide) (Nat.le_of_ble_eq_true rfl) (Nat.le_of_ble_eq_true rfl) (Nat.le_of_ble_eq_true rfl) dX0_init_6 ?_
  refine n_putThisF C (ci := 0) (k0 := 0) rfl inX0_init_X0 tyX0_ok nmX0 (by decide) fX0_init_11 rfl rfl (tyX0_ok 0 (by decide)) rfl rfl (by decide) dX0_init_9 ?_
  refine n_aload_n C 0 dX0_init_12 rfl rfl ?_
  refine n_bipush C (v := 24) dX0_init_13 (by decide) ?_
  refine n_newa C 0 (N' := 24) (i0 := 24) acX0_init_int rfl rfl (fun U h => h) (fun cA => rfl) (by decide) (by decide) (Nat.le_of_ble_eq_true rfl) (Nat.le_of_ble_eq_true rfl) (Nat.le_of_ble_eq_true rfl) dX0_init_15 ?_
  refine n_putThisF C (ci := 0) (k0 := 1) rfl inX0_init_X0 tyX0_ok nmX0 (by decide) fX0_init_17 rfl rfl (tyX0_ok 1 (by decide)) rfl rfl (by decide) dX0_init_17 ?_
  refine n_iconst C (v := 0) dX0_init_20 (by decide) ?_
  refine n_istore_n C (lv' := [(1, .int 0), (0, .ref b)]) dX0_init_21 rfl (by decide) rfl ?_
  refine n_iload_n C 0 dX0_init_22 rfl rfl ?_
  refine n_iconst C (v := 5) dX0_init_23 (by decide) ?_
  refine n_geF C (tgt := 46) dX0_init_24 (by decide) (by decide) ?_
  refine n_aload_n C 1 dX0_init_27 rfl rfl ?_
  refine n_getThis C (ci := 0) (k0 := 0) rfl inX0_init_X0 (by decide) fX0_init_11 dX0_init_28 rfl ?_
  refine n_iload_n C 0 dX0_init_31 rfl rfl ?_
  refine n_new C (ci := 1) (fs := [.null, .int 0, .null, .int 0]) rfl inX0_init_X1 tyX1_ok clX0_init_9 cnX0_init_X1 cjX0_init_X1 dfX1 (Nat.le_of_ble_eq_true rfl) (Nat.le_of_ble_eq_true rfl) dX0_init_32 ?_
  refine n_dup C dX0_init_35 rfl ?_
  refine n_callN C (j := 2) gX0_init_X1_init_n21 rfl C.2.2.2.2.2.1.2.2.2.2.2.1 cjX0_init_X1 imX0_init_X1 rfl ⟨rfl, rfl⟩ hI_X1 ⟨(Nat.le_of_ble_eq_true rfl), (Nat.le_of_ble_eq_true rfl)⟩ rfl rfl (r_X1_init _ _ _) (Nat.le_of_ble_eq_true rfl) dX0_init_36 ⟨(Nat.le_of_ble_eq_true rfl), (Nat.le_of_ble_eq_true rfl)⟩ ?_
  refine n_norm (L' := [.inl (3, 5, .inr (.inr (.inr (.inr (fun _ => none))))), .inl (0, 24, .inl (fun _ => 0)), .inr (1, [.ref (sz + 3), .int 0, .ref (sz + 4), .int 1]), .inl (0, 24, .inl (fun _ => 0)), .inl (0, 24, .inl (fun _ => 0))]) rfl ?_
  refine n_aast C (j := 0) (jv := 2) (ci := 1) (kd := 3) rfl rfl rfl rfl (by decide) dX0_init_39 ?_
  refine n_norm (L' := [.inl (3, 5, .inr (.inr (.inr (.inr (va_up (fun _ => none) 0 (some (sz + 2))))))), .inl (0, 24, .inl (fun _ => 0)), .inr (1, [.ref (sz + 3), .int 0, .ref (sz + 4), .int 1]), .inl (0, 24, .inl (fun _ => 0)), .inl (0, 24, .inl (fun _ => 0))]) rfl ?_
  refine n_iinc C (j := 0) (v := 1) (lv' := [(1, .int 1), (0, .ref b)]) dX0_init_40 rfl (by decide) (by decide) rfl ?_
  refine n_goto C (tgt := 22) dX0_init_43 (by decide) ?_
  refine n_iload_n C 0 dX0_init_22 rfl rfl ?_
  refine n_iconst C (v := 5) dX0_init_23 (by decide) ?_
  refine n_geF C (tgt := 46) dX0_init_24 (by decide) (by decide) ?_
  refine n_aload_n C 1 dX0_init_27 rfl rfl ?_
  refine n_getThis C (ci := 0) (k0 := 0) rfl inX0_init_X0 (by decide) fX0_init_11 dX0_init_28 rfl ?_
  refine n_iload_n C 0 dX0_init_31 rfl rfl ?_
  refine n_new C (ci := 1) (fs := [.null, .int 0, .null, .int 0]) rfl inX0_init_X1 tyX1_ok clX0_init_9 cnX0_init_X1 cjX0_init_X1 dfX1 (Nat.le_of_ble_eq_true rfl) (Nat.le_of_ble_eq_true rfl) dX0_init_32 ?_
  refine n_dup C dX0_init_35 rfl ?_
  refine n_callN C (j := 5) gX0_init_X1_init_n21 rfl C.2.2.2.2.2.1.2.2.2.2.2.1 cjX0_init_X1 imX0_init_X1 rfl ⟨rfl, rfl⟩ hI_X1 ⟨(Nat.le_of_ble_eq_true rfl), (Nat.le_of_ble_eq_true rfl)⟩ rfl rfl (r_X1_init _ _ _) (Nat.le_of_ble_eq_true rfl) dX0_init_36 ⟨(Nat.le_of_ble_eq_true rfl), (Nat.le_of_ble_eq_true rfl)⟩ ?_
  refine n_norm (L' := [.inl (3, 5, .inr (.inr (.inr (.inr (va_up (fun _ => none) 0 (some (sz + 2))))))), .inl (0, 24, .inl (fun _ => 0)), .inr (1, [.ref (sz + 3), .int 0, .ref (sz + 4), .int 1]), .inl (0, 24, .inl (fun _ => 0)), .inl (0, 24, .inl (fun _ => 0)), .inr (1, [.ref (sz + 6), .int 0, .ref (sz + 7), .int 1]), .inl (0, 24, .inl (fun _ => 0)), .inl (0, 24, .inl (fun _ => 0))]) rfl ?_
  refine n_aast C (j := 0) (jv := 5) (ci := 1) (kd := 3) rfl rfl rfl rfl (by decide) dX0_init_39 ?_
  refine n_norm (L' := [.inl (3, 5, .inr (.inr (.inr (.inr (va_up (va_up (fun _ => none) 0 (some (sz + 2))) 1 (some (sz + 5))))))), .inl (0, 24, .inl (fun _ => 0)), .inr (1, [.ref (sz + 3), .int 0, .ref (sz + 4), .int 1]), .inl (0, 24, .inl (fun _ => 0)), .inl (0, 24, .inl (fun _ => 0)), .inr (1, [.ref (sz + 6), .int 0, .ref (sz + 7), .int 1]), .inl (0, 24, .inl (fun _ => 0)), .inl (0, 24, .inl (fun _ => 0))]) rfl ?_
  refine n_iinc C (j := 0) (v := 2) (lv' := [(1, .int 2), (0, .ref b)]) dX0_init_40 rfl (by decide) (by decide) rfl ?_
  refine n_goto C (tgt := 22) dX0_init_43 (by decide) ?_
  refine n_iload_n C 0 dX0_init_22 rfl rfl ?_
  refine n_iconst C (v := 5) dX0_init_23 (by decide) ?_
  refine n_geF C (tgt := 46) dX0_init_24 (by decide) (by decide) ?_
  refine n_aload_n C 1 dX0_init_27 rfl rfl ?_
  refine n_getThis C (ci := 0) (k0 := 0) rfl inX0_init_X0 (by decide) fX0_init_11 dX0_init_28 rfl ?_
  refine n_iload_n C 0 dX0_init_31 rfl rfl ?_
  refine n_new C (ci := 1) (fs := [.null, .int 0, .null, .int 0]) rfl inX0_init_X1 tyX1_ok clX0_init_9 cnX0_init_X1 cjX0_init_X1 dfX1 (Nat.le_of_ble_eq_true rfl) (Nat.le_of_ble_eq_true rfl) dX0_init_32 ?_
  refine n_dup C dX0_init_35 rfl ?_
  refine n_callN C (j := 8) gX0_init_X1_init_n21 rfl C.2.2.2.2.2.1.2.2.2.2.2.1 cjX0_init_X1 imX0_init_X1 rfl ⟨rfl, rfl⟩ hI_X1 ⟨(Nat.le_of_ble_eq_true rfl), (Nat.le_of_ble_eq_true rfl)⟩ rfl rfl (r_X1_init _ _ _) (Nat.le_of_ble_eq_true rfl) dX0_init_36 ⟨(Nat.le_of_ble_eq_true rfl), (Nat.le_of_ble_eq_true rfl)⟩ ?_
  refine n_norm (L' := [.inl (3, 5, .inr (.inr (.inr (.inr (va_up (va_up (fun _ => none) 0 (some (sz + 2))) 1 (some (sz + 5))))))), .inl (0, 24, .inl (fun _ => 0)), .inr (1, [.ref (sz + 3), .int 0, .ref (sz + 4), .int 1]), .inl (0, 24, .inl (fun _ => 0)), .inl (0, 24, .inl (fun _ => 0)), .inr (1, [.ref (sz + 6), .int 0, .ref (sz + 7), .int 1]), .inl (0, 24, .inl (fun _ => 0)), .inl (0, 24, .inl (fun _ => 0)), .inr (1, [.ref (sz + 9), .int 0, .ref (sz + 10), .int 1]), .inl (0, 24, .inl (fun _ => 0)), .inl (0, 24, .inl (fun _ => 0))]) rfl ?_
  refine n_aast C (j := 0) (jv := 8) (ci := 1) (kd := 3) rfl rfl rfl rfl (by decide) dX0_init_39 ?_
  refine n_norm (L' := [.inl (3, 5, .inr (.inr (.inr (.inr (va_up (va_up (va_up (fun _ => none) 0 (some (sz + 2))) 1 (some (sz + 5))) 2 (some (sz + 8))))))), .inl (0, 24, .inl (fun _ => 0)), .inr (1, [.ref (sz + 3), .int 0, .ref (sz + 4), .int 1]), .inl (0, 24, .inl (fun _ => 0)), .inl (0, 24, .inl (fun _ => 0)), .inr (1, [.ref (sz + 6), .int 0, .ref (sz + 7), .int 1]), .inl (0, 24, .inl (fun _ => 0)), .inl (0, 24, .inl (fun _ => 0)), .inr (1, [.ref (sz + 9), .int 0, .ref (sz + 10), .int 1]), .inl (0, 24, .inl (fun _ => 0)), .inl (0, 24, .inl (fun _ => 0))]) rfl ?_
  refine n_iinc C (j := 0) (v := 3) (lv' := [(1, .int 3), (0, .ref b)]) dX0_init_40 rfl (by decide) (by decide) rfl ?_
  refine n_goto C (tgt := 22) dX0_init_43 (by decide) ?_
  refine n_iload_n C 0 dX0_init_22 rfl rfl ?_
  refine n_iconst C (v := 5) dX0_init_23 (by decide) ?_
  refine n_geF C (tgt := 46) dX0_init_24 (by decide) (by decide) ?_
  refine n_aload_n C 1 dX0_init_27 rfl rfl ?_
  refine n_getThis C (ci := 0) (k0 := 0) rfl inX0_init_X0 (by decide) fX0_init_11 dX0_init_28 rfl ?_
  refine n_iload_n C 0 dX0_init_31 rfl rfl ?_
  refine n_new C (ci := 1) (fs := [.null, .int 0, .null, .int 0]) rfl inX0_init_X1 tyX1_ok clX0_init_9 cnX0_init_X1 cjX0_init_X1 dfX1 (Nat.le_of_ble_eq_true rfl) (Nat.le_of_ble_eq_true rfl) dX0_init_32 ?_
  refine n_dup C dX0_init_35 rfl ?_
  refine n_callN C (j := 11) gX0_init_X1_init_n21 rfl C.2.2.2.2.2.1.2.2.2.2.2.1 cjX0_init_X1 imX0_init_X1 rfl ⟨rfl, rfl⟩ hI_X1 ⟨(Nat.le_of_ble_eq_true rfl), (Nat.le_of_ble_eq_true rfl)⟩ rfl rfl (r_X1_init _ _ _) (Nat.le_of_ble_eq_true rfl) dX0_init_36 ⟨(Nat.le_of_ble_eq_true rfl), (Nat.le_of_ble_eq_true rfl)⟩ ?_
  refine n_norm (L' := [.inl (3, 5, .inr (.inr (.inr (.inr (va_up (va_up (va_up (fun _ => none) 0 (some (sz + 2))) 1 (some (sz + 5))) 2 (some (sz + 8))))))), .inl (0, 24, .inl (fun _ => 0)), .inr (1, [.ref (sz + 3), .int 0, .ref (sz + 4), .int 1]), .inl (0, 24, .inl (fun _ => 0)), .inl (0, 24, .inl (fun _ => 0)), .inr (1, [.ref (sz + 6), .int 0, .ref (sz + 7), .int 1]), .inl (0, 24, .inl (fun _ => 0)), .inl (0, 24, .inl (fun _ => 0)), .inr (1, [.ref (sz + 9), .int 0, .ref (sz + 10), .int 1]), .inl (0, 24, .inl (fun _ => 0)), .inl (0, 24, .inl (fun _ => 0)), .inr (1, [.ref (sz + 12), .int 0, .ref (sz + 13), .int 1]), .inl (0, 24, .inl (fun _ => 0)), .inl (0, 24, .inl (fun _ => 0))]) rfl ?_
  refine n_aast C (j := 0) (jv := 11) (ci := 1) (kd := 3) rfl rfl rfl rfl (by decide) dX0_init_39 ?_
  refine n_norm (L' := [.inl (3, 5, .inr (.inr (.inr (.inr (va_up (va_up (va_up (va_up (fun _ => none) 0 (some (sz + 2))) 1 (some (sz + 5))) 2 (some (sz + 8))) 3 (some (sz + 11))))))), .inl (0, 24, .inl (fun _ => 0)), .inr (1, [.ref (sz + 3), .int 0, .ref (sz + 4), .int 1]), .inl (0, 24, .inl (fun _ => 0)), .inl (0, 24, .inl (fun _ => 0)), .inr (1, [.ref (sz + 6), .int 0, .ref (sz + 7), .int 1]), .inl (0, 24, .inl (fun _ => 0)), .inl (0, 24, .inl (fun _ => 0)), .inr (1, [.ref (sz + 9), .int 0, .ref (sz + 10), .int 1]), .inl (0, 24, .inl (fun _ => 0)), .inl (0, 24, .inl (fun _ => 0)), .inr (1, [.ref (sz + 12), .int 0, .ref (sz + 13), .int 1]), .inl (0, 24, .inl (fun _ => 0)), .inl (0, 24, .inl (fun _ => 0))]) rfl ?_
  refine n_iinc C (j := 0) (v := 4) (lv' := [(1, .int 4), (0, .ref b)]) dX0_init_40 rfl (by decide) (by decide) rfl ?_
  refine n_goto C (tgt := 22) dX0_init_43 (by decide) ?_
  refine n_iload_n C 0 dX0_init_22 rfl rfl ?_
  refine n_iconst C (v := 5) dX0_init_23 (by decide) ?_
  refine n_geF C (tgt := 46) dX0_init_24 (by decide) (by decide) ?_
  refine n_aload_n C 1 dX0_init_27 rfl rfl ?_
  refine n_getThis C (ci := 0) (k0 := 0) rfl inX0_init_X0 (by decide) fX0_init_11 dX0_init_28 rfl ?_
  refine n_iload_n C 0 dX0_init_31 rfl rfl ?_
  refine n_new C (ci := 1) (fs := [.null, .int 0, .null, .int 0]) rfl inX0_init_X1 tyX1_ok clX0_init_9 cnX0_init_X1 cjX0_init_X1 dfX1 (Nat.le_of_ble_eq_true rfl) (Nat.le_of_ble_eq_true rfl) dX0_init_32 ?_
  refine n_dup C dX0_init_35 rfl ?_
  refine n_callN C (j := 14) gX0_init_X1_init_n21 rfl C.2.2.2.2.2.1.2.2.2.2.2.1 cjX0_init_X1 imX0_init_X1 rfl ⟨rfl, rfl⟩ hI_X1 ⟨(Nat.le_of_ble_eq_true rfl), (Nat.le_of_ble_eq_true rfl)⟩ rfl rfl (r_X1_init _ _ _) (Nat.le_of_ble_eq_true rfl) dX0_init_36 ⟨(Nat.le_of_ble_eq_true rfl), (Nat.le_of_ble_eq_true rfl)⟩ ?_
  refine n_norm (L' := [.inl (3, 5, .inr (.inr (.inr (.inr (va_up (va_up (va_up (va_up (fun _ => none) 0 (some (sz + 2))) 1 (some (sz + 5))) 2 (some (sz + 8))) 3 (some (sz + 11))))))), .inl (0, 24, .inl (fun _ => 0)), .inr (1, [.ref (sz + 3), .int 0, .ref (sz + 4), .int 1]), .inl (0, 24, .inl (fun _ => 0)), .inl (0, 24, .inl (fun _ => 0)), .inr (1, [.ref (sz + 6), .int 0, .ref (sz + 7), .int 1]), .inl (0, 24, .inl (fun _ => 0)), .inl (0, 24, .inl (fun _ => 0)), .inr (1, [.ref (sz + 9), .int 0, .ref (sz + 10), .int 1]), .inl (0, 24, .inl (fun _ => 0)), .inl (0, 24, .inl (fun _ => 0)), .inr (1, [.ref (sz + 12), .int 0, .ref (sz + 13), .int 1]), .inl (0, 24, .inl (fun _ => 0)), .inl (0, 24, .inl (fun _ => 0)), .inr (1, [.ref (sz + 15), .int 0, .ref (sz + 16), .int 1]), .inl (0, 24, .inl (fun _ => 0)), .inl (0, 24, .inl (fun _ => 0))]) rfl ?_
  refine n_aast C (j := 0) (jv := 14) (ci := 1) (kd := 3) rfl rfl rfl rfl (by decide) dX0_init_39 ?_
  refine n_norm (L' := [.inl (3, 5, .inr (.inr (.inr (.inr (va_up (va_up (va_up (va_up (va_up (fun _ => none) 0 (some (sz + 2))) 1 (some (sz + 5))) 2 (some (sz + 8))) 3 (some (sz + 11))) 4 (some (sz + 14))))))), .inl (0, 24, .inl (fun _ => 0)), .inr (1, [.ref (sz + 3), .int 0, .ref (sz + 4), .int 1]), .inl (0, 24, .inl (fun _ => 0)), .inl (0, 24, .inl (fun _ => 0)), .inr (1, [.ref (sz + 6), .int 0, .ref (sz + 7), .int 1]), .inl (0, 24, .inl (fun _ => 0)), .inl (0, 24, .inl (fun _ => 0)), .inr (1, [.ref (sz + 9), .int 0, .ref (sz + 10), .int 1]), .inl (0, 24, .inl (fun _ => 0)), .inl (0, 24, .inl (fun _ => 0)), .inr (1, [.ref (sz + 12), .int 0, .ref (sz + 13), .int 1]), .inl (0, 24, .inl (fun _ => 0)), .inl (0, 24, .inl (fun _ => 0)), .inr (1, [.ref (sz + 15), .int 0, .ref (sz + 16), .int 1]), .inl (0, 24, .inl (fun _ => 0)), .inl (0, 24, .inl (fun _ => 0))]) rfl ?_
  refine n_iinc C (j := 0) (v := 5) (lv' := [(1, .int 5), (0, .ref b)]) dX0_init_40 rfl (by decide) (by decide) rfl ?_
  refine n_goto C (tgt := 22) dX0_init_43 (by decide) ?_
  refine n_iload_n C 0 dX0_init_22 rfl rfl ?_
  refine n_iconst C (v := 5) dX0_init_23 (by decide) ?_
  refine n_geT C (tgt := 46) dX0_init_24 (by decide) (by decide) ?_
  exact n_vret C dX0_init_46 rfl rfl rfl rfl
theorem inX5_init_X5 : ∀ x ∈ u_ws RX5 TX5 3, x ∈ wsX5_init := by decide +kernel
theorem oiX5_init : Cond.methodLink RX5 3 objectInit ∈ wsX5_init := by decide +kernel
theorem ojX5_init : Cond.instanceMethod objectInit ∈ wsX5_init := by decide +kernel
theorem okX5_init : Cond.code objectInit ⟨#[0xb1]⟩ 1 none ∈ wsX5_init := by decide +kernel
theorem clX5_init_9 : Cond.classLink RX5 9 "SkipQuadtree$State" ∈ wsX5_init := by decide +kernel
theorem fX5_init_11 : Cond.fieldLink RX5 11 (TX5 0).1 (TX5 0).2.1 (TX5 0).2.2.1 ∈ wsX5_init := by decide +kernel
theorem cnX5_init_X4 : Cond.instantiable RX4 9 ∈ wsX5_init := by decide +kernel
theorem cjX5_init_X4 : Cond.initialized RX4 ∈ wsX5_init := by decide +kernel
theorem inX5_init_X4 : ∀ x ∈ u_ws RX4 TX4 9, x ∈ wsX5_init := by decide +kernel
theorem dfX4 : ∀ j, j < 9 → defaultValue (tyX4 j) = vp_V [.null, .null, .null, .null, .null, .null, .null, .null, .int 0] j := by decide +kernel
theorem hI_X4 : yX4_init.cls ≠ "java/lang/invoke/MethodHandle" ∧ yX4_init.cls ≠ "java/lang/invoke/VarHandle" ∧ (parseMethodDescriptor yX4_init.desc).map (fun d => d.parameters.length) = some 0 := by decide +kernel
theorem imX5_init_X4 : Cond.instanceMethod yX4_init ∈ wsX5_init := by decide +kernel
theorem mkX5_init_17 : Cond.methodLink RX5 17 yX4_init ∈ wsX5_init := by decide +kernel
def o_X5_init (b sz : Nat) : Cel := .inr (4, [.ref (sz + 0), .int 0, .int 0])
def l_X5_init (b sz : Nat) : List Cel := [.inl (4, 4, .inr (.inr (.inr (.inr (va_up (va_up (va_up (va_up (fun _ => none) 0 (some (sz + 1))) 1 (some (sz + 10))) 2 (some (sz + 19))) 3 (some (sz + 28))))))), .inr (3, [.ref (sz + 2), .ref (sz + 3), .ref (sz + 4), .ref (sz + 5), .ref (sz + 6), .ref (sz + 7), .ref (sz + 8), .ref (sz + 9), .int 0]), .inl (1, 24, .inl (fun _ => 0)), .inl (0, 24, .inl (fun _ => 0)), .inl (0, 24, .inl (fun _ => 0)), .inl (0, 24, .inl (fun _ => 0)), .inl (0, 24, .inl (fun _ => 0)), .inl (0, 4, .inl (fun _ => 0)), .inl (0, 4, .inl (fun _ => 0)), .inl (0, 4, .inl (upd (upd (upd (upd (fun _ => 0) 0 (-1)) 1 (-1)) 2 (-1)) 3 (-1))), .inr (3, [.ref (sz + 11), .ref (sz + 12), .ref (sz + 13), .ref (sz + 14), .ref (sz + 15), .ref (sz + 16), .ref (sz + 17), .ref (sz + 18), .int 0]), .inl (1, 24, .inl (fun _ => 0)), .inl (0, 24, .inl (fun _ => 0)), .inl (0, 24, .inl (fun _ => 0)), .inl (0, 24, .inl (fun _ => 0)), .inl (0, 24, .inl (fun _ => 0)), .inl (0, 4, .inl (fun _ => 0)), .inl (0, 4, .inl (fun _ => 0)), .inl (0, 4, .inl (upd (upd (upd (upd (fun _ => 0) 0 (-1)) 1 (-1)) 2 (-1)) 3 (-1))), .inr (3, [.ref (sz + 20), .ref (sz + 21), .ref (sz + 22), .ref (sz + 23), .ref (sz + 24), .ref (sz + 25), .ref (sz + 26), .ref (sz + 27), .int 0]), .inl (1, 24, .inl (fun _ => 0)), .inl (0, 24, .inl (fun _ => 0)), .inl (0, 24, .inl (fun _ => 0)), .inl (0, 24, .inl (fun _ => 0)), .inl (0, 24, .inl (fun _ => 0)), .inl (0, 4, .inl (fun _ => 0)), .inl (0, 4, .inl (fun _ => 0)), .inl (0, 4, .inl (upd (upd (upd (upd (fun _ => 0) 0 (-1)) 1 (-1)) 2 (-1)) 3 (-1))), .inr (3, [.ref (sz + 29), .ref (sz + 30), .ref (sz + 31), .ref (sz + 32), .ref (sz + 33), .ref (sz + 34), .ref (sz + 35), .ref (sz + 36), .int 0]), .inl (1, 24, .inl (fun _ => 0)), .inl (0, 24, .inl (fun _ => 0)), .inl (0, 24, .inl (fun _ => 0)), .inl (0, 24, .inl (fun _ => 0)), .inl (0, 24, .inl (fun _ => 0)), .inl (0, 4, .inl (fun _ => 0)), .inl (0, 4, .inl (fun _ => 0)), .inl (0, 4, .inl (upd (upd (upd (upd (fun _ => 0) 0 (-1)) 1 (-1)) 2 (-1)) 3 (-1)))]
set_option maxRecDepth 100000 in
set_option maxHeartbeats 8000000 in
theorem r_X5_init {l : Launch} (G : GG) (b sz : Nat) : ConN l yX5_init wsX5_init { frames := 2, cells := 37, slots := 568, locals := 33 } G b sz (.inr (4, [.null, .int 0, .int 0])) (.inr (4, [.ref (sz + 0), .int 0, .int 0])) [.inl (4, 4, .inr (.inr (.inr (.inr (va_up (va_up (va_up (va_up (fun _ => none) 0 (some (sz + 1))) 1 (some (sz + 10))) 2 (some (sz + 19))) 3 (some (sz + 28))))))), .inr (3, [.ref (sz + 2), .ref (sz + 3), .ref (sz + 4), .ref (sz + 5), .ref (sz + 6), .ref (sz + 7), .ref (sz + 8), .ref (sz + 9), .int 0]), .inl (1, 24, .inl (fun _ => 0)), .inl (0, 24, .inl (fun _ => 0)), .inl (0, 24, .inl (fun _ => 0)), .inl (0, 24, .inl (fun _ => 0)), .inl (0, 24, .inl (fun _ => 0)), .inl (0, 4, .inl (fun _ => 0)), .inl (0, 4, .inl (fun _ => 0)), .inl (0, 4, .inl (upd (upd (upd (upd (fun _ => 0) 0 (-1)) 1 (-1)) 2 (-1)) 3 (-1))), .inr (3, [.ref (sz + 11), .ref (sz + 12), .ref (sz + 13), .ref (sz + 14), .ref (sz + 15), .ref (sz + 16), .ref (sz + 17), .ref (sz + 18), .int 0]), .inl (1, 24, .inl (fun _ => 0)), .inl (0, 24, .inl (fun _ => 0)), .inl (0, 24, .inl (fun _ => 0)), .inl (0, 24, .inl (fun _ => 0)), .inl (0, 24, .inl (fun _ => 0)), .inl (0, 4, .inl (fun _ => 0)), .inl (0, 4, .inl (fun _ => 0)), .inl (0, 4, .inl (upd (upd (upd (upd (fun _ => 0) 0 (-1)) 1 (-1)) 2 (-1)) 3 (-1))), .inr (3, [.ref (sz + 20), .ref (sz + 21), .ref (sz + 22), .ref (sz + 23), .ref (sz + 24), .ref (sz + 25), .ref (sz + 26), .ref (sz + 27), .int 0]), .inl (1, 24, .inl (fun _ => 0)), .inl (0, 24, .inl (fun _ => 0)), .inl (0, 24, .inl (fun _ => 0)), .inl (0, 24, .inl (fun _ => 0)), .inl (0, 24, .inl (fun _ => 0)), .inl (0, 4, .inl (fun _ => 0)), .inl (0, 4, .inl (fun _ => 0)), .inl (0, 4, .inl (upd (upd (upd (upd (fun _ => 0) 0 (-1)) 1 (-1)) 2 (-1)) 3 (-1))), .inr (3, [.ref (sz + 29), .ref (sz + 30), .ref (sz + 31), .ref (sz + 32), .ref (sz + 33), .ref (sz + 34), .ref (sz + 35), .ref (sz + 36), .int 0]), .inl (1, 24, .inl (fun _ => 0)), .inl (0, 24, .inl (fun _ => 0)), .inl (0, 24, .inl (fun _ => 0)), .inl (0, 24, .inl (fun _ => 0)), .inl (0, 24, .inl (fun _ => 0)), .inl (0, 4, .inl (fun _ => 0)), .inl (0, 4, .inl (fun _ => 0)), .inl (0, 4, .inl (upd (upd (upd (upd (fun _ => 0) 0 (-1)) 1 (-1)) 2 (-1)) 3 (-1)))] 37 568 := by
  refine ConN.of (own := RX5) (cc := cX5_init) (maxL := 2) rfl rfl (by decide) rfl (Nat.le_of_ble_eq_true rfl) ?_
  intro p e s m args below meth c C
  refine n_aload_n C 0 dX5_init_0 rfl rfl ?_
  refine n_objInit C oiX5_init ojX5_init okX5_init dX5_init_1 (Nat.le_of_ble_eq_true rfl) (Nat.le_of_ble_eq_true rfl) ?_
  refine n_aload_n C 0 dX5_init_4 rfl rfl ?_
  refine n_iconst C (v := 4) dX5_init_5 (by decide) ?_
  refine n_newq C 4 (N' := 4) clX5_init_9 C.2.2.2.2.2.1.2.2.2.2.2.2.2.2 rfl (by decide) (by decide) (Nat.le_of_ble_eq_true rfl) (Nat.le_of_ble_eq_true rfl) (Nat.le_of_ble_eq_true rfl) dX5_init_6 ?_
  refine n_putThisF C (ci := 4) (k0 := 0) rfl inX5_init_X5 tyX5_ok nmX5 (by decide) fX5_init_11 rfl rfl (tyX5_ok 0 (by decide)) rfl rfl (by decide) dX5_init_9 ?_
  refine n_iconst C (v := 0) dX5_init_12 (by decide) ?_
  refine n_istore_n C (lv' := [(1, .int 0), (0, .ref b)]) dX5_init_13 rfl (by decide) rfl ?_
  refine n_iload_n C 0 dX5_init_14 rfl rfl ?_
  refine n_iconst C (v := 4) dX5_init_15 (by decide) ?_
  refine n_geF C (tgt := 38) dX5_init_16 (by decide) (by decide) ?_
  refine n_aload_n C 1 dX5_init_19 rfl rfl ?_
  refine n_getThis C (ci := 4) (k0 := 0) rfl inX5_init_X5 (by decide) fX5_init_11 dX5_init_20 rfl ?_
  refine n_iload_n C 0 dX5_init_23 rfl rfl ?_
  refine n_new C (ci := 3) (fs := [.null, .null, .null, .null, .null, .null, .null, .null, .int 0]) rfl inX5_init_X4 tyX4_ok clX5_init_9 cnX5_init_X4 cjX5_init_X4 dfX4 (Nat.le_of_ble_eq_true rfl) (Nat.le_of_ble_eq_true rfl) dX5_init_24 ?_
  refine n_dup C dX5_init_27 rfl ?_
  refine n_callI C (j := 1) gX5_init_X4_init rfl mkX5_init_17 cjX5_init_X4 imX5_init_X4 rfl ⟨rfl, rfl⟩ hI_X4 ⟨(Nat.le_of_ble_eq_true rfl), (Nat.le_of_ble_eq_true rfl)⟩ rfl rfl (r_X4_init _ _ _) (Nat.le_of_ble_eq_true rfl) dX5_init_28 ⟨(Nat.le_of_ble_eq_true rfl), (Nat.le_of_ble_eq_true rfl)⟩ ?_
  refine n_norm (L' := [.inl (4, 4, .inr (.inr (.inr (.inr (fun _ => none))))), .inr (3, [.ref (sz + 2), .ref (sz + 3), .ref (sz + 4), .ref (sz + 5), .ref (sz + 6), .ref (sz + 7), .ref (sz + 8), .ref (sz + 9), .int 0]), .inl (1, 24, .inl (fun _ => 0)), .inl (0, 24, .inl (fun _ => 0)), .inl (0, 24, .inl (fun _ => 0)), .inl (0, 24, .inl (fun _ => 0)), .inl (0, 24, .inl (fun _ => 0)), .inl (0, 4, .inl (fun _ => 0)), .inl (0, 4, .inl (fun _ => 0)), .inl (0, 4, .inl (upd (upd (upd (upd (fun _ => 0) 0 (-1)) 1 (-1)) 2 (-1)) 3 (-1)))]) rfl ?_
  refine n_aast C (j := 0) (jv := 1) (ci := 3) (kd := 4) rfl rfl rfl rfl (by decide) dX5_init_31 ?_
  refine n_norm (L' := [.inl (4, 4, .inr (.inr (.inr (.inr (va_up (fun _ => none) 0 (some (sz + 1))))))), .inr (3, [.ref (sz + 2), .ref (sz + 3), .ref (sz + 4), .ref (sz + 5), .ref (sz + 6), .ref (sz + 7), .ref (sz + 8), .ref (sz + 9), .int 0]), .inl (1, 24, .inl (fun _ => 0)), .inl (0, 24, .inl (fun _ => 0)), .inl (0, 24, .inl (fun _ => 0)), .inl (0, 24, .inl (fun _ => 0)), .inl (0, 24, .inl (fun _ => 0)), .inl (0, 4, .inl (fun _ => 0)), .inl (0, 4, .inl (fun _ => 0)), .inl (0, 4, .inl (upd (upd (upd (upd (fun _ => 0) 0 (-1)) 1 (-1)) 2 (-1)) 3 (-1)))]) rfl ?_
  refine n_iinc C (j := 0) (v := 1) (lv' := [(1, .int 1), (0, .ref b)]) dX5_init_32 rfl (by decide) (by decide) rfl ?_
  refine n_goto C (tgt := 14) dX5_init_35 (by decide) ?_
  refine n_iload_n C 0 dX5_init_14 rfl rfl ?_
  refine n_iconst C (v := 4) dX5_init_15 (by decide) ?_
  refine n_geF C (tgt := 38) dX5_init_16 (by decide) (by decide) ?_
  refine n_aload_n C 1 dX5_init_19 rfl rfl ?_
  refine n_getThis C (ci := 4) (k0 := 0) rfl inX5_init_X5 (by decide) fX5_init_11 dX5_init_20 rfl ?_
  refine n_iload_n C 0 dX5_init_23 rfl rfl ?_
  refine n_new C (ci := 3) (fs := [.null, .null, .null, .null, .null, .null, .null, .null, .int 0]) rfl inX5_init_X4 tyX4_ok clX5_init_9 cnX5_init_X4 cjX5_init_X4 dfX4 (Nat.le_of_ble_eq_true rfl) (Nat.le_of_ble_eq_true rfl) dX5_init_24 ?_
  refine n_dup C dX5_init_27 rfl ?_
  refine n_callI C (j := 10) gX5_init_X4_init rfl mkX5_init_17 cjX5_init_X4 imX5_init_X4 rfl ⟨rfl, rfl⟩ hI_X4 ⟨(Nat.le_of_ble_eq_true rfl), (Nat.le_of_ble_eq_true rfl)⟩ rfl rfl (r_X4_init _ _ _) (Nat.le_of_ble_eq_true rfl) dX5_init_28 ⟨(Nat.le_of_ble_eq_true rfl), (Nat.le_of_ble_eq_true rfl)⟩ ?_
  refine n_norm (L' := [.inl (4, 4, .inr (.inr (.inr (.inr (va_up (fun _ => none) 0 (some (sz + 1))))))), .inr (3, [.ref (sz + 2), .ref (sz + 3), .ref (sz + 4), .ref (sz + 5), .ref (sz + 6), .ref (sz + 7), .ref (sz + 8), .ref (sz + 9), .int 0]), .inl (1, 24, .inl (fun _ => 0)), .inl (0, 24, .inl (fun _ => 0)), .inl (0, 24, .inl (fun _ => 0)), .inl (0, 24, .inl (fun _ => 0)), .inl (0, 24, .inl (fun _ => 0)), .inl (0, 4, .inl (fun _ => 0)), .inl (0, 4, .inl (fun _ => 0)), .inl (0, 4, .inl (upd (upd (upd (upd (fun _ => 0) 0 (-1)) 1 (-1)) 2 (-1)) 3 (-1))), .inr (3, [.ref (sz + 11), .ref (sz + 12), .ref (sz + 13), .ref (sz + 14), .ref (sz + 15), .ref (sz + 16), .ref (sz + 17), .ref (sz + 18), .int 0]), .inl (1, 24, .inl (fun _ => 0)), .inl (0, 24, .inl (fun _ => 0)), .inl (0, 24, .inl (fun _ => 0)), .inl (0, 24, .inl (fun _ => 0)), .inl (0, 24, .inl (fun _ => 0)), .inl (0, 4, .inl (fun _ => 0)), .inl (0, 4, .inl (fun _ => 0)), .inl (0, 4, .inl (upd (upd (upd (upd (fun _ => 0) 0 (-1)) 1 (-1)) 2 (-1)) 3 (-1)))]) rfl ?_
  refine n_aast C (j := 0) (jv := 10) (ci := 3) (kd := 4) rfl rfl rfl rfl (by decide) dX5_init_31 ?_
  refine n_norm (L' := [.inl (4, 4, .inr (.inr (.inr (.inr (va_up (va_up (fun _ => none) 0 (some (sz + 1))) 1 (some (sz + 10))))))), .inr (3, [.ref (sz + 2), .ref (sz + 3), .ref (sz + 4), .ref (sz + 5), .ref (sz + 6), .ref (sz + 7), .ref (sz + 8), .ref (sz + 9), .int 0]), .inl (1, 24, .inl (fun _ => 0)), .inl (0, 24, .inl (fun _ => 0)), .inl (0, 24, .inl (fun _ => 0)), .inl (0, 24, .inl (fun _ => 0)), .inl (0, 24, .inl (fun _ => 0)), .inl (0, 4, .inl (fun _ => 0)), .inl (0, 4, .inl (fun _ => 0)), .inl (0, 4, .inl (upd (upd (upd (upd (fun _ => 0) 0 (-1)) 1 (-1)) 2 (-1)) 3 (-1))), .inr (3, [.ref (sz + 11), .ref (sz + 12), .ref (sz + 13), .ref (sz + 14), .ref (sz + 15), .ref (sz + 16), .ref (sz + 17), .ref (sz + 18), .int 0]), .inl (1, 24, .inl (fun _ => 0)), .inl (0, 24, .inl (fun _ => 0)), .inl (0, 24, .inl (fun _ => 0)), .inl (0, 24, .inl (fun _ => 0)), .inl (0, 24, .inl (fun _ => 0)), .inl (0, 4, .inl (fun _ => 0)), .inl (0, 4, .inl (fun _ => 0)), .inl (0, 4, .inl (upd (upd (upd (upd (fun _ => 0) 0 (-1)) 1 (-1)) 2 (-1)) 3 (-1)))]) rfl ?_
  refine n_iinc C (j := 0) (v := 2) (lv' := [(1, .int 2), (0, .ref b)]) dX5_init_32 rfl (by decide) (by decide) rfl ?_
  refine n_goto C (tgt := 14) dX5_init_35 (by decide) ?_
  refine n_iload_n C 0 dX5_init_14 rfl rfl ?_
  refine n_iconst C (v := 4) dX5_init_15 (by decide) ?_
  refine n_geF C (tgt := 38) dX5_init_16 (by decide) (by decide) ?_
  refine n_aload_n C 1 dX5_init_19 rfl rfl ?_
  refine n_getThis C (ci := 4) (k0 := 0) rfl inX5_init_X5 (by decide) fX5_init_11 dX5_init_20 rfl ?_
  refine n_iload_n C 0 dX5_init_23 rfl rfl ?_
  refine n_new C (ci := 3) (fs := [.null, .null, .null, .null, .null, .null, .null, .null, .int 0]) rfl inX5_init_X4 tyX4_ok clX5_init_9 cnX5_init_X4 cjX5_init_X4 dfX4 (Nat.le_of_ble_eq_true rfl) (Nat.le_of_ble_eq_true rfl) dX5_init_24 ?_
  refine n_dup C dX5_init_27 rfl ?_
  refine n_callI C (j := 19) gX5_init_X4_init rfl mkX5_init_17 cjX5_init_X4 imX5_init_X4 rfl ⟨rfl, rfl⟩ hI_X4 ⟨(Nat.le_of_ble_eq_true rfl), (Nat.le_of_ble_eq_true rfl)⟩ rfl rfl (r_X4_init _ _ _) (Nat.le_of_ble_eq_true rfl) dX5_init_28 ⟨(Nat.le_of_ble_eq_true rfl), (Nat.le_of_ble_eq_true rfl)⟩ ?_
  refine n_norm (L' := [.inl (4, 4, .inr (.inr (.inr (.inr (va_up (va_up (fun _ => none) 0 (some (sz + 1))) 1 (some (sz + 10))))))), .inr (3, [.ref (sz + 2), .ref (sz + 3), .ref (sz + 4), .ref (sz + 5), .ref (sz + 6), .ref (sz + 7), .ref (sz + 8), .ref (sz + 9), .int 0]), .inl (1, 24, .inl (fun _ => 0)), .inl (0, 24, .inl (fun _ => 0)), .inl (0, 24, .inl (fun _ => 0)), .inl (0, 24, .inl (fun _ => 0)), .inl (0, 24, .inl (fun _ => 0)), .inl (0, 4, .inl (fun _ => 0)), .inl (0, 4, .inl (fun _ => 0)), .inl (0, 4, .inl (upd (upd (upd (upd (fun _ => 0) 0 (-1)) 1 (-1)) 2 (-1)) 3 (-1))), .inr (3, [.ref (sz + 11), .ref (sz + 12), .ref (sz + 13), .ref (sz + 14), .ref (sz + 15), .ref (sz + 16), .ref (sz + 17), .ref (sz + 18), .int 0]), .inl (1, 24, .inl (fun _ => 0)), .inl (0, 24, .inl (fun _ => 0)), .inl (0, 24, .inl (fun _ => 0)), .inl (0, 24, .inl (fun _ => 0)), .inl (0, 24, .inl (fun _ => 0)), .inl (0, 4, .inl (fun _ => 0)), .inl (0, 4, .inl (fun _ => 0)), .inl (0, 4, .inl (upd (upd (upd (upd (fun _ => 0) 0 (-1)) 1 (-1)) 2 (-1)) 3 (-1))), .inr (3, [.ref (sz + 20), .ref (sz + 21), .ref (sz + 22), .ref (sz + 23), .ref (sz + 24), .ref (sz + 25), .ref (sz + 26), .ref (sz + 27), .int 0]), .inl (1, 24, .inl (fun _ => 0)), .inl (0, 24, .inl (fun _ => 0)), .inl (0, 24, .inl (fun _ => 0)), .inl (0, 24, .inl (fun _ => 0)), .inl (0, 24, .inl (fun _ => 0)), .inl (0, 4, .inl (fun _ => 0)), .inl (0, 4, .inl (fun _ => 0)), .inl (0, 4, .inl (upd (upd (upd (upd (fun _ => 0) 0 (-1)) 1 (-1)) 2 (-1)) 3 (-1)))]) rfl ?_
  refine n_aast C (j := 0) (jv := 19) (ci := 3) (kd := 4) rfl rfl rfl rfl (by decide) dX5_init_31 ?_
  refine n_norm (L' := [.inl (4, 4, .inr (.inr (.inr (.inr (va_up (va_up (va_up (fun _ => none) 0 (some (sz + 1))) 1 (some (sz + 10))) 2 (some (sz + 19))))))), .inr (3, [.ref (sz + 2), .ref (sz + 3), .ref (sz + 4), .ref (sz + 5), .ref (sz + 6), .ref (sz + 7), .ref (sz + 8), .ref (sz + 9), .int 0]), .inl (1, 24, .inl (fun _ => 0)), .inl (0, 24, .inl (fun _ => 0)), .inl (0, 24, .inl (fun _ => 0)), .inl (0, 24, .inl (fun _ => 0)), .inl (0, 24, .inl (fun _ => 0)), .inl (0, 4, .inl (fun _ => 0)), .inl (0, 4, .inl (fun _ => 0)), .inl (0, 4, .inl (upd (upd (upd (upd (fun _ => 0) 0 (-1)) 1 (-1)) 2 (-1)) 3 (-1))), .inr (3, [.ref (sz + 11), .ref (sz + 12), .ref (sz + 13), .ref (sz + 14), .ref (sz + 15), .ref (sz + 16), .ref (sz + 17), .ref (sz + 18), .int 0]), .inl (1, 24, .inl (fun _ => 0)), .inl (0, 24, .inl (fun _ => 0)), .inl (0, 24, .inl (fun _ => 0)), .inl (0, 24, .inl (fun _ => 0)), .inl (0, 24, .inl (fun _ => 0)), .inl (0, 4, .inl (fun _ => 0)), .inl (0, 4, .inl (fun _ => 0)), .inl (0, 4, .inl (upd (upd (upd (upd (fun _ => 0) 0 (-1)) 1 (-1)) 2 (-1)) 3 (-1))), .inr (3, [.ref (sz + 20), .ref (sz + 21), .ref (sz + 22), .ref (sz + 23), .ref (sz + 24), .ref (sz + 25), .ref (sz + 26), .ref (sz + 27), .int 0]), .inl (1, 24, .inl (fun _ => 0)), .inl (0, 24, .inl (fun _ => 0)), .inl (0, 24, .inl (fun _ => 0)), .inl (0, 24, .inl (fun _ => 0)), .inl (0, 24, .inl (fun _ => 0)), .inl (0, 4, .inl (fun _ => 0)), .inl (0, 4, .inl (fun _ => 0)), .inl (0, 4, .inl (upd (upd (upd (upd (fun _ => 0) 0 (-1)) 1 (-1)) 2 (-1)) 3 (-1)))]) rfl ?_
  refine n_iinc C (j := 0) (v := 3) (lv' := [(1, .int 3), (0, .ref b)]) dX5_init_32 rfl (by decide) (by decide) rfl ?_
  refine n_goto C (tgt := 14) dX5_init_35 (by decide) ?_
  refine n_iload_n C 0 dX5_init_14 rfl rfl ?_
  refine n_iconst C (v := 4) dX5_init_15 (by decide) ?_
  refine n_geF C (tgt := 38) dX5_init_16 (by decide) (by decide) ?_
  refine n_aload_n C 1 dX5_init_19 rfl rfl ?_
  refine n_getThis C (ci := 4) (k0 := 0) rfl inX5_init_X5 (by decide) fX5_init_11 dX5_init_20 rfl ?_
  refine n_iload_n C 0 dX5_init_23 rfl rfl ?_
  refine n_new C (ci := 3) (fs := [.null, .null, .null, .null, .null, .null, .null, .null, .int 0]) rfl inX5_init_X4 tyX4_ok clX5_init_9 cnX5_init_X4 cjX5_init_X4 dfX4 (Nat.le_of_ble_eq_true rfl) (Nat.le_of_ble_eq_true rfl) dX5_init_24 ?_
  refine n_dup C dX5_init_27 rfl ?_
  refine n_callI C (j := 28) gX5_init_X4_init rfl mkX5_init_17 cjX5_init_X4 imX5_init_X4 rfl ⟨rfl, rfl⟩ hI_X4 ⟨(Nat.le_of_ble_eq_true rfl), (Nat.le_of_ble_eq_true rfl)⟩ rfl rfl (r_X4_init _ _ _) (Nat.le_of_ble_eq_true rfl) dX5_init_28 ⟨(Nat.le_of_ble_eq_true rfl), (Nat.le_of_ble_eq_true rfl)⟩ ?_
  refine n_norm (L' := [.inl (4, 4, .inr (.inr (.inr (.inr (va_up (va_up (va_up (fun _ => none) 0 (some (sz + 1))) 1 (some (sz + 10))) 2 (some (sz + 19))))))), .inr (3, [.ref (sz + 2), .ref (sz + 3), .ref (sz + 4), .ref (sz + 5), .ref (sz + 6), .ref (sz + 7), .ref (sz + 8), .ref (sz + 9), .int 0]), .inl (1, 24, .inl (fun _ => 0)), .inl (0, 24, .inl (fun _ => 0)), .inl (0, 24, .inl (fun _ => 0)), .inl (0, 24, .inl (fun _ => 0)), .inl (0, 24, .inl (fun _ => 0)), .inl (0, 4, .inl (fun _ => 0)), .inl (0, 4, .inl (fun _ => 0)), .inl (0, 4, .inl (upd (upd (upd (upd (fun _ => 0) 0 (-1)) 1 (-1)) 2 (-1)) 3 (-1))), .inr (3, [.ref (sz + 11), .ref (sz + 12), .ref (sz + 13), .ref (sz + 14), .ref (sz + 15), .ref (sz + 16), .ref (sz + 17), .ref (sz + 18), .int 0]), .inl (1, 24, .inl (fun _ => 0)), .inl (0, 24, .inl (fun _ => 0)), .inl (0, 24, .inl (fun _ => 0)), .inl (0, 24, .inl (fun _ => 0)), .inl (0, 24, .inl (fun _ => 0)), .inl (0, 4, .inl (fun _ => 0)), .inl (0, 4, .inl (fun _ => 0)), .inl (0, 4, .inl (upd (upd (upd (upd (fun _ => 0) 0 (-1)) 1 (-1)) 2 (-1)) 3 (-1))), .inr (3, [.ref (sz + 20), .ref (sz + 21), .ref (sz + 22), .ref (sz + 23), .ref (sz + 24), .ref (sz + 25), .ref (sz + 26), .ref (sz + 27), .int 0]), .inl (1, 24, .inl (fun _ => 0)), .inl (0, 24, .inl (fun _ => 0)), .inl (0, 24, .inl (fun _ => 0)), .inl (0, 24, .inl (fun _ => 0)), .inl (0, 24, .inl (fun _ => 0)), .inl (0, 4, .inl (fun _ => 0)), .inl (0, 4, .inl (fun _ => 0)), .inl (0, 4, .inl (upd (upd (upd (upd (fun _ => 0) 0 (-1)) 1 (-1)) 2 (-1)) 3 (-1))), .inr (3, [.ref (sz + 29), .ref (sz + 30), .ref (sz + 31), .ref (sz + 32), .ref (sz + 33), .ref (sz + 34), .ref (sz + 35), .ref (sz + 36), .int 0]), .inl (1, 24, .inl (fun _ => 0)), .inl (0, 24, .inl (fun _ => 0)), .inl (0, 24, .inl (fun _ => 0)), .inl (0, 24, .inl (fun _ => 0)), .inl (0, 24, .inl (fun _ => 0)), .inl (0, 4, .inl (fun _ => 0)), .inl (0, 4, .inl (fun _ => 0)), .inl (0, 4, .inl (upd (upd (upd (upd (fun _ => 0) 0 (-1)) 1 (-1)) 2 (-1)) 3 (-1)))]) rfl ?_
  refine n_aast C (j := 0) (jv := 28) (ci := 3) (kd := 4) rfl rfl rfl rfl (by decide) dX5_init_31 ?_
  refine n_norm (L' := [.inl (4, 4, .inr (.inr (.inr (.inr (va_up (va_up (va_up (va_up (fun _ => none) 0 (some (sz + 1))) 1 (some (sz + 10))) 2 (some (sz + 19))) 3 (some (sz + 28))))))), .inr (3, [.ref (sz + 2), .ref (sz + 3), .ref (sz + 4), .ref (sz + 5), .ref (sz + 6), .ref (sz + 7), .ref (sz + 8), .ref (sz + 9), .int 0]), .inl (1, 24, .inl (fun _ => 0)), .inl (0, 24, .inl (fun _ => 0)), .inl (0, 24, .inl (fun _ => 0)), .inl (0, 24, .inl (fun _ => 0)), .inl (0, 24, .inl (fun _ => 0)), .inl (0, 4, .inl (fun _ => 0)), .inl (0, 4, .inl (fun _ => 0)), .inl (0, 4, .inl (upd (upd (upd (upd (fun _ => 0) 0 (-1)) 1 (-1)) 2 (-1)) 3 (-1))), .inr (3, [.ref (sz + 11), .ref (sz + 12), .ref (sz + 13), .ref (sz + 14), .ref (sz + 15), .ref (sz + 16), .ref (sz + 17), .ref (sz + 18), .int 0]), .inl (1, 24, .inl (fun _ => 0)), .inl (0, 24, .inl (fun _ => 0)), .inl (0, 24, .inl (fun _ => 0)), .inl (0, 24, .inl (fun _ => 0)), .inl (0, 24, .inl (fun _ => 0)), .inl (0, 4, .inl (fun _ => 0)), .inl (0, 4, .inl (fun _ => 0)), .inl (0, 4, .inl (upd (upd (upd (upd (fun _ => 0) 0 (-1)) 1 (-1)) 2 (-1)) 3 (-1))), .inr (3, [.ref (sz + 20), .ref (sz + 21), .ref (sz + 22), .ref (sz + 23), .ref (sz + 24), .ref (sz + 25), .ref (sz + 26), .ref (sz + 27), .int 0]), .inl (1, 24, .inl (fun _ => 0)), .inl (0, 24, .inl (fun _ => 0)), .inl (0, 24, .inl (fun _ => 0)), .inl (0, 24, .inl (fun _ => 0)), .inl (0, 24, .inl (fun _ => 0)), .inl (0, 4, .inl (fun _ => 0)), .inl (0, 4, .inl (fun _ => 0)), .inl (0, 4, .inl (upd (upd (upd (upd (fun _ => 0) 0 (-1)) 1 (-1)) 2 (-1)) 3 (-1))), .inr (3, [.ref (sz + 29), .ref (sz + 30), .ref (sz + 31), .ref (sz + 32), .ref (sz + 33), .ref (sz + 34), .ref (sz + 35), .ref (sz + 36), .int 0]), .inl (1, 24, .inl (fun _ => 0)), .inl (0, 24, .inl (fun _ => 0)), .inl (0, 24, .inl (fun _ => 0)), .inl (0, 24, .inl (fun _ => 0)), .inl (0, 24, .inl (fun _ => 0)), .inl (0, 4, .inl (fun _ => 0)), .inl (0, 4, .inl (fun _ => 0)), .inl (0, 4, .inl (upd (upd (upd (upd (fun _ => 0) 0 (-1)) 1 (-1)) 2 (-1)) 3 (-1)))]) rfl ?_
  refine n_iinc C (j := 0) (v := 4) (lv' := [(1, .int 4), (0, .ref b)]) dX5_init_32 rfl (by decide) (by decide) rfl ?_
  refine n_goto C (tgt := 14) dX5_init_35 (by decide) ?_
  refine n_iload_n C 0 dX5_init_14 rfl rfl ?_
  refine n_iconst C (v := 4) dX5_init_15 (by decide) ?_
  refine n_geT C (tgt := 38) dX5_init_16 (by decide) (by decide) ?_
  exact n_vret C dX5_init_38 rfl rfl rfl rfl
theorem inX2_init_X2 : ∀ x ∈ u_ws RX2 TX2 6, x ∈ wsX2_init := by decide +kernel
theorem oiX2_init : Cond.methodLink RX2 3 objectInit ∈ wsX2_init := by decide +kernel
theorem ojX2_init : Cond.instanceMethod objectInit ∈ wsX2_init := by decide +kernel
theorem okX2_init : Cond.code objectInit ⟨#[0xb1]⟩ 1 none ∈ wsX2_init := by decide +kernel
theorem acX2_init_int : Cond.arrayClass (newarray.typeOf .int) ∈ wsX2_init := by decide +kernel
theorem fX2_init_9 : Cond.fieldLink RX2 9 (TX2 0).1 (TX2 0).2.1 (TX2 0).2.2.1 ∈ wsX2_init := by decide +kernel
theorem fX2_init_15 : Cond.fieldLink RX2 15 (TX2 3).1 (TX2 3).2.1 (TX2 3).2.2.1 ∈ wsX2_init := by decide +kernel
def o_X2_init (b sz : Nat) : Cel := .inr (2, [.ref (sz + 0), .int 0, .int 0, .ref (sz + 1), .int 0, .int 0])
def l_X2_init (b sz : Nat) : List Cel := [.inl (0, 120, .inl (fun _ => 0)), .inl (0, 3, .inl (fun _ => 0))]
set_option maxRecDepth 100000 in
set_option maxHeartbeats 8000000 in
theorem r_X2_init {l : Launch} (G : GG) (b sz : Nat) : ConN l yX2_init wsX2_init { frames := 1, cells := 2, slots := 123, locals := 12 } G b sz (.inr (2, [.null, .int 0, .int 0, .null, .int 0, .int 0])) (.inr (2, [.ref (sz + 0), .int 0, .int 0, .ref (sz + 1), .int 0, .int 0])) [.inl (0, 120, .inl (fun _ => 0)), .inl (0, 3, .inl (fun _ => 0))] 2 123 := by
  refine ConN.of (own := RX2) (cc := cX2_init) (maxL := 1) rfl rfl (by decide) rfl (Nat.le_of_ble_eq_true rfl) ?_
  intro p e s m args below meth c C
  refine n_aload_n C 0 dX2_init_0 rfl rfl ?_
  refine n_objInit C oiX2_init ojX2_init okX2_init dX2_init_1 (Nat.le_of_ble_eq_true rfl) (Nat.le_of_ble_eq_true rfl) ?_
  refine n_aload_n C 0 dX2_init_4 rfl rfl ?_
  refine n_bipush C (v := 120) dX2_init_5 (by decide) ?_
  refine n_newa C 0 (N' := 120) (i0 := 120) acX2_init_int rfl rfl (fun U h => h) (fun cA => rfl) (by decide) (by decide) (Nat.le_of_ble_eq_true rfl) (Nat.le_of_ble_eq_true rfl) (Nat.le_of_ble_eq_true rfl) dX2_init_7 ?_
  refine n_putThisF C (ci := 2) (k0 := 0) rfl inX2_init_X2 tyX2_ok nmX2 (by decide) fX2_init_9 rfl rfl (tyX2_ok 0 (by decide)) rfl rfl (by decide) dX2_init_9 ?_
  refine n_aload_n C 0 dX2_init_12 rfl rfl ?_
  refine n_iconst C (v := 3) dX2_init_13 (by decide) ?_
  refine n_newa C 0 (N' := 3) (i0 := 3) acX2_init_int rfl rfl (fun U h => h) (fun cA => rfl) (by decide) (by decide) (Nat.le_of_ble_eq_true rfl) (Nat.le_of_ble_eq_true rfl) (Nat.le_of_ble_eq_true rfl) dX2_init_14 ?_
  refine n_putThisF C (ci := 2) (k0 := 3) rfl inX2_init_X2 tyX2_ok nmX2 (by decide) fX2_init_15 rfl rfl (tyX2_ok 3 (by decide)) rfl rfl (by decide) dX2_init_16 ?_
  exact n_vret C dX2_init_19 rfl rfl rfl rfl
theorem inX6_init_X6 : ∀ x ∈ u_ws RX6 TX6 5, x ∈ wsX6_init := by decide +kernel
theorem oiX6_init : Cond.methodLink RX6 1 objectInit ∈ wsX6_init := by decide +kernel
theorem ojX6_init : Cond.instanceMethod objectInit ∈ wsX6_init := by decide +kernel
theorem okX6_init : Cond.code objectInit ⟨#[0xb1]⟩ 1 none ∈ wsX6_init := by decide +kernel
theorem clX6_init_7 : Cond.classLink RX6 7 RX4 ∈ wsX6_init := by decide +kernel
theorem cnX6_init_X4 : Cond.instantiable RX4 9 ∈ wsX6_init := by decide +kernel
theorem cjX6_init_X4 : Cond.initialized RX4 ∈ wsX6_init := by decide +kernel
theorem inX6_init_X4 : ∀ x ∈ u_ws RX4 TX4 9, x ∈ wsX6_init := by decide +kernel
theorem imX6_init_X4 : Cond.instanceMethod yX4_init ∈ wsX6_init := by decide +kernel
theorem mkX6_init_9 : Cond.methodLink RX6 9 yX4_init ∈ wsX6_init := by decide +kernel
theorem fX6_init_10 : Cond.fieldLink RX6 10 (TX6 0).1 (TX6 0).2.1 (TX6 0).2.2.1 ∈ wsX6_init := by decide +kernel
theorem clX6_init_16 : Cond.classLink RX6 16 RX5 ∈ wsX6_init := by decide +kernel
theorem cnX6_init_X5 : Cond.instantiable RX5 3 ∈ wsX6_init := by decide +kernel
theorem cjX6_init_X5 : Cond.initialized RX5 ∈ wsX6_init := by decide +kernel
theorem inX6_init_X5 : ∀ x ∈ u_ws RX5 TX5 3, x ∈ wsX6_init := by decide +kernel
theorem dfX5 : ∀ j, j < 3 → defaultValue (tyX5 j) = vp_V [.null, .int 0, .int 0] j := by decide +kernel
theorem hI_X5 : yX5_init.cls ≠ "java/lang/invoke/MethodHandle" ∧ yX5_init.cls ≠ "java/lang/invoke/VarHandle" ∧ (parseMethodDescriptor yX5_init.desc).map (fun d => d.parameters.length) = some 0 := by decide +kernel
theorem imX6_init_X5 : Cond.instanceMethod yX5_init ∈ wsX6_init := by decide +kernel
theorem mkX6_init_18 : Cond.methodLink RX6 18 yX5_init ∈ wsX6_init := by decide +kernel
theorem fX6_init_19 : Cond.fieldLink RX6 19 (TX6 1).1 (TX6 1).2.1 (TX6 1).2.2.1 ∈ wsX6_init := by decide +kernel
theorem clX6_init_23 : Cond.classLink RX6 23 RX2 ∈ wsX6_init := by decide +kernel
theorem cnX6_init_X2 : Cond.instantiable RX2 6 ∈ wsX6_init := by decide +kernel
theorem cjX6_init_X2 : Cond.initialized RX2 ∈ wsX6_init := by decide +kernel
theorem inX6_init_X2 : ∀ x ∈ u_ws RX2 TX2 6, x ∈ wsX6_init := by decide +kernel
theorem dfX2 : ∀ j, j < 6 → defaultValue (tyX2 j) = vp_V [.null, .int 0, .int 0, .null, .int 0, .int 0] j := by decide +kernel
theorem hI_X2 : yX2_init.cls ≠ "java/lang/invoke/MethodHandle" ∧ yX2_init.cls ≠ "java/lang/invoke/VarHandle" ∧ (parseMethodDescriptor yX2_init.desc).map (fun d => d.parameters.length) = some 0 := by decide +kernel
theorem imX6_init_X2 : Cond.instanceMethod yX2_init ∈ wsX6_init := by decide +kernel
theorem fX6_init_26 : Cond.fieldLink RX6 26 (TX6 2).1 (TX6 2).2.1 (TX6 2).2.2.1 ∈ wsX6_init := by decide +kernel
theorem clX6_init_30 : Cond.classLink RX6 30 RX0 ∈ wsX6_init := by decide +kernel
theorem cnX6_init_X0 : Cond.instantiable RX0 2 ∈ wsX6_init := by decide +kernel
theorem cjX6_init_X0 : Cond.initialized RX0 ∈ wsX6_init := by decide +kernel
theorem inX6_init_X0 : ∀ x ∈ u_ws RX0 TX0 2, x ∈ wsX6_init := by decide +kernel
theorem dfX0 : ∀ j, j < 2 → defaultValue (tyX0 j) = vp_V [.null, .null] j := by decide +kernel
theorem hI_X0 : yX0_init.cls ≠ "java/lang/invoke/MethodHandle" ∧ yX0_init.cls ≠ "java/lang/invoke/VarHandle" ∧ (parseMethodDescriptor yX0_init.desc).map (fun d => d.parameters.length) = some 0 := by decide +kernel
theorem imX6_init_X0 : Cond.instanceMethod yX0_init ∈ wsX6_init := by decide +kernel
theorem mkX6_init_32 : Cond.methodLink RX6 32 yX0_init ∈ wsX6_init := by decide +kernel
theorem fX6_init_33 : Cond.fieldLink RX6 33 (TX6 3).1 (TX6 3).2.1 (TX6 3).2.2.1 ∈ wsX6_init := by decide +kernel
theorem fX6_init_37 : Cond.fieldLink RX6 37 (TX6 4).1 (TX6 4).2.1 (TX6 4).2.2.1 ∈ wsX6_init := by decide +kernel
def o_X6_init (b sz : Nat) : Cel := .inr (5, [.ref (sz + 0), .ref (sz + 9), .ref (sz + 47), .ref (sz + 50), .ref (sz + 68)])
def l_X6_init (b sz : Nat) : List Cel := [.inr (3, [.ref (sz + 1), .ref (sz + 2), .ref (sz + 3), .ref (sz + 4), .ref (sz + 5), .ref (sz + 6), .ref (sz + 7), .ref (sz + 8), .int 0]), .inl (1, 24, .inl (fun _ => 0)), .inl (0, 24, .inl (fun _ => 0)), .inl (0, 24, .inl (fun _ => 0)), .inl (0, 24, .inl (fun _ => 0)), .inl (0, 24, .inl (fun _ => 0)), .inl (0, 4, .inl (fun _ => 0)), .inl (0, 4, .inl (fun _ => 0)), .inl (0, 4, .inl (upd (upd (upd (upd (fun _ => 0) 0 (-1)) 1 (-1)) 2 (-1)) 3 (-1))), .inr (4, [.ref (sz + 10), .int 0, .int 0]), .inl (4, 4, .inr (.inr (.inr (.inr (va_up (va_up (va_up (va_up (fun _ => none) 0 (some (sz + 11))) 1 (some (sz + 20))) 2 (some (sz + 29))) 3 (some (sz + 38))))))), .inr (3, [.ref (sz + 12), .ref (sz + 13), .ref (sz + 14), .ref (sz + 15), .ref (sz + 16), .ref (sz + 17), .ref (sz + 18), .ref (sz + 19), .int 0]), .inl (1, 24, .inl (fun _ => 0)), .inl (0, 24, .inl (fun _ => 0)), .inl (0, 24, .inl (fun _ => 0)), .inl (0, 24, .inl (fun _ => 0)), .inl (0, 24, .inl (fun _ => 0)), .inl (0, 4, .inl (fun _ => 0)), .inl (0, 4, .inl (fun _ => 0)), .inl (0, 4, .inl (upd (upd (upd (upd (fun _ => 0) 0 (-1)) 1 (-1)) 2 (-1)) 3 (-1))), .inr (3, [.ref (sz + 21), .ref (sz + 22), .ref (sz + 23), .ref (sz + 24), .ref (sz + 25), .ref (sz + 26), .ref (sz + 27), .ref (sz + 28), .int 0]), .inl (1, 24, .inl (fun _ => 0)), .inl (0, 24, .inl (fun _ => 0)), .inl (0, 24, .inl (fun _ => 0)), .inl (0, 24, .inl (fun _ => 0)), .inl (0, 24, .inl (fun _ => 0)), .inl (0, 4, .inl (fun _ => 0)), .inl (0, 4, .inl (fun _ => 0)), .inl (0, 4, .inl (upd (upd (upd (upd (fun _ => 0) 0 (-1)) 1 (-1)) 2 (-1)) 3 (-1))), .inr (3, [.ref (sz + 30), .ref (sz + 31), .ref (sz + 32), .ref (sz + 33), .ref (sz + 34), .ref (sz + 35), .ref (sz + 36), .ref (sz + 37), .int 0]), .inl (1, 24, .inl (fun _ => 0)), .inl (0, 24, .inl (fun _ => 0)), .inl (0, 24, .inl (fun _ => 0)), .inl (0, 24, .inl (fun _ => 0)), .inl (0, 24, .inl (fun _ => 0)), .inl (0, 4, .inl (fun _ => 0)), .inl (0, 4, .inl (fun _ => 0)), .inl (0, 4, .inl (upd (upd (upd (upd (fun _ => 0) 0 (-1)) 1 (-1)) 2 (-1)) 3 (-1))), .inr (3, [.ref (sz + 39), .ref (sz + 40), .ref (sz + 41), .ref (sz + 42), .ref (sz + 43), .ref (sz + 44), .ref (sz + 45), .ref (sz + 46), .int 0]), .inl (1, 24, .inl (fun _ => 0)), .inl (0, 24, .inl (fun _ => 0)), .inl (0, 24, .inl (fun _ => 0)), .inl (0, 24, .inl (fun _ => 0)), .inl (0, 24, .inl (fun _ => 0)), .inl (0, 4, .inl (fun _ => 0)), .inl (0, 4, .inl (fun _ => 0)), .inl (0, 4, .inl (upd (upd (upd (upd (fun _ => 0) 0 (-1)) 1 (-1)) 2 (-1)) 3 (-1))), .inr (2, [.ref (sz + 48), .int 0, .int 0, .ref (sz + 49), .int 0, .int 0]), .inl (0, 120, .inl (fun _ => 0)), .inl (0, 3, .inl (fun _ => 0)), .inr (0, [.ref (sz + 51), .ref (sz + 52)]), .inl (3, 5, .inr (.inr (.inr (.inr (va_up (va_up (va_up (va_up (va_up (fun _ => none) 0 (some (sz + 53))) 1 (some (sz + 56))) 2 (some (sz + 59))) 3 (some (sz + 62))) 4 (some (sz + 65))))))), .inl (0, 24, .inl (fun _ => 0)), .inr (1, [.ref (sz + 54), .int 0, .ref (sz + 55), .int 1]), .inl (0, 24, .inl (fun _ => 0)), .inl (0, 24, .inl (fun _ => 0)), .inr (1, [.ref (sz + 57), .int 0, .ref (sz + 58), .int 1]), .inl (0, 24, .inl (fun _ => 0)), .inl (0, 24, .inl (fun _ => 0)), .inr (1, [.ref (sz + 60), .int 0, .ref (sz + 61), .int 1]), .inl (0, 24, .inl (fun _ => 0)), .inl (0, 24, .inl (fun _ => 0)), .inr (1, [.ref (sz + 63), .int 0, .ref (sz + 64), .int 1]), .inl (0, 24, .inl (fun _ => 0)), .inl (0, 24, .inl (fun _ => 0)), .inr (1, [.ref (sz + 66), .int 0, .ref (sz + 67), .int 1]), .inl (0, 24, .inl (fun _ => 0)), .inl (0, 24, .inl (fun _ => 0)), .inr (0, [.ref (sz + 69), .ref (sz + 70)]), .inl (3, 5, .inr (.inr (.inr (.inr (va_up (va_up (va_up (va_up (va_up (fun _ => none) 0 (some (sz + 71))) 1 (some (sz + 74))) 2 (some (sz + 77))) 3 (some (sz + 80))) 4 (some (sz + 83))))))), .inl (0, 24, .inl (fun _ => 0)), .inr (1, [.ref (sz + 72), .int 0, .ref (sz + 73), .int 1]), .inl (0, 24, .inl (fun _ => 0)), .inl (0, 24, .inl (fun _ => 0)), .inr (1, [.ref (sz + 75), .int 0, .ref (sz + 76), .int 1]), .inl (0, 24, .inl (fun _ => 0)), .inl (0, 24, .inl (fun _ => 0)), .inr (1, [.ref (sz + 78), .int 0, .ref (sz + 79), .int 1]), .inl (0, 24, .inl (fun _ => 0)), .inl (0, 24, .inl (fun _ => 0)), .inr (1, [.ref (sz + 81), .int 0, .ref (sz + 82), .int 1]), .inl (0, 24, .inl (fun _ => 0)), .inl (0, 24, .inl (fun _ => 0)), .inr (1, [.ref (sz + 84), .int 0, .ref (sz + 85), .int 1]), .inl (0, 24, .inl (fun _ => 0)), .inl (0, 24, .inl (fun _ => 0))]
set_option maxRecDepth 100000 in
set_option maxHeartbeats 8000000 in
theorem r_X6_init {l : Launch} (G : GG) (b sz : Nat) : ConN l yX6_init wsX6_init { frames := 3, cells := 86, slots := 1423, locals := 54 } G b sz (.inr (5, [.null, .null, .null, .null, .null])) (.inr (5, [.ref (sz + 0), .ref (sz + 9), .ref (sz + 47), .ref (sz + 50), .ref (sz + 68)])) [.inr (3, [.ref (sz + 1), .ref (sz + 2), .ref (sz + 3), .ref (sz + 4), .ref (sz + 5), .ref (sz + 6), .ref (sz + 7), .ref (sz + 8), .int 0]), .inl (1, 24, .inl (fun _ => 0)), .inl (0, 24, .inl (fun _ => 0)), .inl (0, 24, .inl (fun _ => 0)), .inl (0, 24, .inl (fun _ => 0)), .inl (0, 24, .inl (fun _ => 0)), .inl (0, 4, .inl (fun _ => 0)), .inl (0, 4, .inl (fun _ => 0)), .inl (0, 4, .inl (upd (upd (upd (upd (fun _ => 0) 0 (-1)) 1 (-1)) 2 (-1)) 3 (-1))), .inr (4, [.ref (sz + 10), .int 0, .int 0]), .inl (4, 4, .inr (.inr (.inr (.inr (va_up (va_up (va_up (va_up (fun _ => none) 0 (some (sz + 11))) 1 (some (sz + 20))) 2 (some (sz + 29))) 3 (some (sz + 38))))))), .inr (3, [.ref (sz + 12), .ref (sz + 13), .ref (sz + 14), .ref (sz + 15), .ref (sz + 16), .ref (sz + 17), .ref (sz + 18), .ref (sz + 19), .int 0]), .inl (1, 24, .inl (fun _ => 0)), .inl (0, 24, .inl (fun _ => 0)), .inl (0, 24, .inl (fun _ => 0)), .inl (0, 24, .inl (fun _ => 0)), .inl (0, 24, .inl (fun _ => 0)), .inl (0, 4, .inl (fun _ => 0)), .inl (0, 4, .inl (fun _ => 0)), .inl (0, 4, .inl (upd (upd (upd (upd (fun _ => 0) 0 (-1)) 1 (-1)) 2 (-1)) 3 (-1))), .inr (3, [.ref (sz + 21), .ref (sz + 22), .ref (sz + 23), .ref (sz + 24), .ref (sz + 25), .ref (sz + 26), .ref (sz + 27), .ref (sz + 28), .int 0]), .inl (1, 24, .inl (fun _ => 0)), .inl (0, 24, .inl (fun _ => 0)), .inl (0, 24, .inl (fun _ => 0)), .inl (0, 24, .inl (fun _ => 0)), .inl (0, 24, .inl (fun _ => 0)), .inl (0, 4, .inl (fun _ => 0)), .inl (0, 4, .inl (fun _ => 0)), .inl (0, 4, .inl (upd (upd (upd (upd (fun _ => 0) 0 (-1)) 1 (-1)) 2 (-1)) 3 (-1))), .inr (3, [.ref (sz + 30), .ref (sz + 31), .ref (sz + 32), .ref (sz + 33), .ref (sz + 34), .ref (sz + 35), .ref (sz + 36), .ref (sz + 37), .int 0]), .inl (1, 24, .inl (fun _ => 0)), .inl (0, 24, .inl (fun _ => 0)), .inl (0, 24, .inl (fun _ => 0)), .inl (0, 24, .inl (fun _ => 0)), .inl (0, 24, .inl (fun _ => 0)), .inl (0, 4, .inl (fun _ => 0)), .inl (0, 4, .inl (fun _ => 0)), .inl (0, 4, .inl (upd (upd (upd (upd (fun _ => 0) 0 (-1)) 1 (-1)) 2 (-1)) 3 (-1))), .inr (3, [.ref (sz + 39), .ref (sz + 40), .ref (sz + 41), .ref (sz + 42), .ref (sz + 43), .ref (sz + 44), .ref (sz + 45), .ref (sz + 46), .int 0]), .inl (1, 24, .inl (fun _ => 0)), .inl (0, 24, .inl (fun _ => 0)), .inl (0, 24, .inl (fun _ => 0)), .inl (0, 24, .inl (fun _ => 0)), .inl (0, 24, .inl (fun _ => 0)), .inl (0, 4, .inl (fun _ => 0)), .inl (0, 4, .inl (fun _ => 0)), .inl (0, 4, .inl (upd (upd (upd (upd (fun _ => 0) 0 (-1)) 1 (-1)) 2 (-1)) 3 (-1))), .inr (2, [.ref (sz + 48), .int 0, .int 0, .ref (sz + 49), .int 0, .int 0]), .inl (0, 120, .inl (fun _ => 0)), .inl (0, 3, .inl (fun _ => 0)), .inr (0, [.ref (sz + 51), .ref (sz + 52)]), .inl (3, 5, .inr (.inr (.inr (.inr (va_up (va_up (va_up (va_up (va_up (fun _ => none) 0 (some (sz + 53))) 1 (some (sz + 56))) 2 (some (sz + 59))) 3 (some (sz + 62))) 4 (some (sz + 65))))))), .inl (0, 24, .inl (fun _ => 0)), .inr (1, [.ref (sz + 54), .int 0, .ref (sz + 55), .int 1]), .inl (0, 24, .inl (fun _ => 0)), .inl (0, 24, .inl (fun _ => 0)), .inr (1, [.ref (sz + 57), .int 0, .ref (sz + 58), .int 1]), .inl (0, 24, .inl (fun _ => 0)), .inl (0, 24, .inl (fun _ => 0)), .inr (1, [.ref (sz + 60), .int 0, .ref (sz + 61), .int 1]), .inl (0, 24, .inl (fun _ => 0)), .inl (0, 24, .inl (fun _ => 0)), .inr (1, [.ref (sz + 63), .int 0, .ref (sz + 64), .int 1]), .inl (0, 24, .inl (fun _ => 0)), .inl (0, 24, .inl (fun _ => 0)), .inr (1, [.ref (sz + 66), .int 0, .ref (sz + 67), .int 1]), .inl (0, 24, .inl (fun _ => 0)), .inl (0, 24, .inl (fun _ => 0)), .inr (0, [.ref (sz + 69), .ref (sz + 70)]), .inl (3, 5, .inr (.inr (.inr (.inr (va_up (va_up (va_up (va_up (va_up (fun _ => none) 0 (some (sz + 71))) 1 (some (sz + 74))) 2 (some (sz + 77))) 3 (some (sz + 80))) 4 (some (sz + 83))))))), .inl (0, 24, .inl (fun _ => 0)), .inr (1, [.ref (sz + 72), .int 0, .ref (sz + 73), .int 1]), .inl (0, 24, .inl (fun _ => 0)), .inl (0, 24, .inl (fun _ => 0)), .inr (1, [.ref (sz + 75), .int 0, .ref (sz + 76), .int 1]), .inl (0, 24, .inl (fun _ => 0)), .inl (0, 24, .inl (fun _ => 0)), .inr (1, [.ref (sz + 78), .int 0, .ref (sz + 79), .int 1]), .inl (0, 24, .inl (fun _ => 0)), .inl (0, 24, .inl (fun _ => 0)), .inr (1, [.ref (sz + 81), .int 0, .ref (sz + 82), .int 1]), .inl (0, 24, .inl (fun _ => 0)), .inl (0, 24, .inl (fun _ => 0)), .inr (1, [.ref (sz + 84), .int 0, .ref (sz + 85), .int 1]), .inl (0, 24, .inl (fun _ => 0)), .inl (0, 24, .inl (fun _ => 0))] 86 1423 := by
  refine ConN.of (own := RX6) (cc := cX6_init) (maxL := 1) rfl rfl (by decide) rfl (Nat.le_of_ble_eq_true rfl) ?_
  intro p e s m args below meth c C
  refine n_aload_n C 0 dX6_init_0 rfl rfl ?_
  refine n_objInit C oiX6_init ojX6_init okX6_init dX6_init_1 (Nat.le_of_ble_eq_true rfl) (Nat.le_of_ble_eq_true rfl) ?_
  refine n_aload_n C 0 dX6_init_4 rfl rfl ?_
  refine n_new C (ci := 3) (fs := [.null, .null, .null, .null, .null, .null, .null, .null, .int 0]) rfl inX6_init_X4 tyX4_ok clX6_init_7 cnX6_init_X4 cjX6_init_X4 dfX4 (Nat.le_of_ble_eq_true rfl) (Nat.le_of_ble_eq_true rfl) dX6_init_5 ?_
  refine n_dup C dX6_init_8 rfl ?_
  refine n_callI C (j := 0) gX6_init_X4_init rfl mkX6_init_9 cjX6_init_X4 imX6_init_X4 rfl ⟨rfl, rfl⟩ hI_X4 ⟨(Nat.le_of_ble_eq_true rfl), (Nat.le_of_ble_eq_true rfl)⟩ rfl rfl (r_X4_init _ _ _) (Nat.le_of_ble_eq_true rfl) dX6_init_9 ⟨(Nat.le_of_ble_eq_true rfl), (Nat.le_of_ble_eq_true rfl)⟩ ?_
  refine n_norm (L' := [.inr (3, [.ref (sz + 1), .ref (sz + 2), .ref (sz + 3), .ref (sz + 4), .ref (sz + 5), .ref (sz + 6), .ref (sz + 7), .ref (sz + 8), .int 0]), .inl (1, 24, .inl (fun _ => 0)), .inl (0, 24, .inl (fun _ => 0)), .inl (0, 24, .inl (fun _ => 0)), .inl (0, 24, .inl (fun _ => 0)), .inl (0, 24, .inl (fun _ => 0)), .inl (0, 4, .inl (fun _ => 0)), .inl (0, 4, .inl (fun _ => 0)), .inl (0, 4, .inl (upd (upd (upd (upd (fun _ => 0) 0 (-1)) 1 (-1)) 2 (-1)) 3 (-1)))]) rfl ?_
  refine n_putThisF C (ci := 5) (k0 := 0) rfl inX6_init_X6 tyX6_ok nmX6 (by decide) fX6_init_10 rfl rfl (tyX6_ok 0 (by decide)) rfl rfl (by decide) dX6_init_12 ?_
  refine n_aload_n C 0 dX6_init_15 rfl rfl ?_
  refine n_new C (ci := 4) (fs := [.null, .int 0, .int 0]) rfl inX6_init_X5 tyX5_ok clX6_init_16 cnX6_init_X5 cjX6_init_X5 dfX5 (Nat.le_of_ble_eq_true rfl) (Nat.le_of_ble_eq_true rfl) dX6_init_16 ?_
  refine n_dup C dX6_init_19 rfl ?_
  refine n_callI C (j := 9) gX6_init_X5_init rfl mkX6_init_18 cjX6_init_X5 imX6_init_X5 rfl ⟨rfl, rfl⟩ hI_X5 ⟨(Nat.le_of_ble_eq_true rfl), (Nat.le_of_ble_eq_true rfl)⟩ rfl rfl (r_X5_init _ _ _) (Nat.le_of_ble_eq_true rfl) dX6_init_20 ⟨(Nat.le_of_ble_eq_true rfl), (Nat.le_of_ble_eq_true rfl)⟩ ?_
  refine n_norm (L' := [.inr (3, [.ref (sz + 1), .ref (sz + 2), .ref (sz + 3), .ref (sz + 4), .ref (sz + 5), .ref (sz + 6), .ref (sz + 7), .ref (sz + 8), .int 0]), .inl (1, 24, .inl (fun _ => 0)), .inl (0, 24, .inl (fun _ => 0)), .inl (0, 24, .inl (fun _ => 0)), .inl (0, 24, .inl (fun _ => 0)), .inl (0, 24, .inl (fun _ => 0)), .inl (0, 4, .inl (fun _ => 0)), .inl (0, 4, .inl (fun _ => 0)), .inl (0, 4, .inl (upd (upd (upd (upd (fun _ => 0) 0 (-1)) 1 (-1)) 2 (-1)) 3 (-1))), .inr (4, [.ref (sz + 10), .int 0, .int 0]), .inl (4, 4, .inr (.inr (.inr (.inr (va_up (va_up (va_up (va_up (fun _ => none) 0 (some (sz + 11))) 1 (some (sz + 20))) 2 (some (sz + 29))) 3 (some (sz + 38))))))), .inr (3, [.ref (sz + 12), .ref (sz + 13), .ref (sz + 14), .ref (sz + 15), .ref (sz + 16), .ref (sz + 17), .ref (sz + 18), .ref (sz + 19), .int 0]), .inl (1, 24, .inl (fun _ => 0)), .inl (0, 24, .inl (fun _ => 0)), .inl (0, 24, .inl (fun _ => 0)), .inl (0, 24, .inl (fun _ => 0)), .inl (0, 24, .inl (fun _ => 0)), .inl (0, 4, .inl (fun _ => 0)), .inl (0, 4, .inl (fun _ => 0)), .inl (0, 4, .inl (upd (upd (upd (upd (fun _ => 0) 0 (-1)) 1 (-1)) 2 (-1)) 3 (-1))), .inr (3, [.ref (sz + 21), .ref (sz + 22), .ref (sz + 23), .ref (sz + 24), .ref (sz + 25), .ref (sz + 26), .ref (sz + 27), .ref (sz + 28), .int 0]), .inl (1, 24, .inl (fun _ => 0)), .inl (0, 24, .inl (fun _ => 0)), .inl (0, 24, .inl (fun _ => 0)), .inl (0, 24, .inl (fun _ => 0)), .inl (0, 24, .inl (fun _ => 0)), .inl (0, 4, .inl (fun _ => 0)), .inl (0, 4, .inl (fun _ => 0)), .inl (0, 4, .inl (upd (upd (upd (upd (fun _ => 0) 0 (-1)) 1 (-1)) 2 (-1)) 3 (-1))), .inr (3, [.ref (sz + 30), .ref (sz + 31), .ref (sz + 32), .ref (sz + 33), .ref (sz + 34), .ref (sz + 35), .ref (sz + 36), .ref (sz + 37), .int 0]), .inl (1, 24, .inl (fun _ => 0)), .inl (0, 24, .inl (fun _ => 0)), .inl (0, 24, .inl (fun _ => 0)), .inl (0, 24, .inl (fun _ => 0)), .inl (0, 24, .inl (fun _ => 0)), .inl (0, 4, .inl (fun _ => 0)), .inl (0, 4, .inl (fun _ => 0)), .inl (0, 4, .inl (upd (upd (upd (upd (fun _ => 0) 0 (-1)) 1 (-1)) 2 (-1)) 3 (-1))), .inr (3, [.ref (sz + 39), .ref (sz + 40), .ref (sz + 41), .ref (sz + 42), .ref (sz + 43), .ref (sz + 44), .ref (sz + 45), .ref (sz + 46), .int 0]), .inl (1, 24, .inl (fun _ => 0)), .inl (0, 24, .inl (fun _ => 0)), .inl (0, 24, .inl (fun _ => 0)), .inl (0, 24, .inl (fun _ => 0)), .inl (0, 24, .inl (fun _ => 0)), .inl (0, 4, .inl (fun _ => 0)), .inl (0, 4, .inl (fun _ => 0)), .inl (0, 4, .inl (upd (upd (upd (upd (fun _ => 0) 0 (-1)) 1 (-1)) 2 (-1)) 3 (-1)))]) rfl ?_
  refine n_putThisF C (ci := 5) (k0 := 1) rfl inX6_init_X6 tyX6_ok nmX6 (by decide) fX6_init_19 rfl rfl (tyX6_ok 1 (by decide)) rfl rfl (by decide) dX6_init_23 ?_
  refine n_aload_n C 0 dX6_init_26 rfl rfl ?_
  refine n_new C (ci := 2) (fs := [.null, .int 0, .int 0, .null, .int 0, .int 0]) rfl inX6_init_X2 tyX2_ok clX6_init_23 cnX6_init_X2 cjX6_init_X2 dfX2 (Nat.le_of_ble_eq_true rfl) (Nat.le_of_ble_eq_true rfl) dX6_init_27 ?_
  refine n_dup C dX6_init_30 rfl ?_
  refine n_callN C (j := 47) gX6_init_X2_init_n25 rfl C.2.2.2.2.2.1.2.2.2.2.2.2.1 cjX6_init_X2 imX6_init_X2 rfl ⟨rfl, rfl⟩ hI_X2 ⟨(Nat.le_of_ble_eq_true rfl), (Nat.le_of_ble_eq_true rfl)⟩ rfl rfl (r_X2_init _ _ _) (Nat.le_of_ble_eq_true rfl) dX6_init_31 ⟨(Nat.le_of_ble_eq_true rfl), (Nat.le_of_ble_eq_true rfl)⟩ ?_
  refine n_norm (L' := [.inr (3, [.ref (sz + 1), .ref (sz + 2), .ref (sz + 3), .ref (sz + 4), .ref (sz + 5), .ref (sz + 6), .ref (sz + 7), .ref (sz + 8), .int 0]), .inl (1, 24, .inl (fun _ => 0)), .inl (0, 24, .inl (fun _ => 0)), .inl (0, 24, .inl (fun _ => 0)), .inl (0, 24, .inl (fun _ => 0)), .inl (0, 24, .inl (fun _ => 0)), .inl (0, 4, .inl (fun _ => 0)), .inl (0, 4, .inl (fun _ => 0)), .inl (0, 4, .inl (upd (upd (upd (upd (fun _ => 0) 0 (-1)) 1 (-1)) 2 (-1)) 3 (-1))), .inr (4, [.ref (sz + 10), .int 0, .int 0]), .inl (4, 4, .inr (.inr (.inr (.inr (va_up (va_up (va_up (va_up (fun _ => none) 0 (some (sz + 11))) 1 (some (sz + 20))) 2 (some (sz + 29))) 3 (some (sz + 38))))))), .inr (3, [.ref (sz + 12), .ref (sz + 13), .ref (sz + 14), .ref (sz + 15), .ref (sz + 16), .ref (sz + 17), .ref (sz + 18), .ref (sz + 19), .int 0]), .inl (1, 24, .inl (fun _ => 0)), .inl (0, 24, .inl (fun _ => 0)), .inl (0, 24, .inl (fun _ => 0)), .inl (0, 24, .inl (fun _ => 0)), .inl (0, 24, .inl (fun _ => 0)), .inl (0, 4, .inl (fun _ => 0)), .inl (0, 4, .inl (fun _ => 0)), .inl (0, 4, .inl (upd (upd (upd (upd (fun _ => 0) 0 (-1)) 1 (-1)) 2 (-1)) 3 (-1))), .inr (3, [.ref (sz + 21), .ref (sz + 22), .ref (sz + 23), .ref (sz + 24), .ref (sz + 25), .ref (sz + 26), .ref (sz + 27), .ref (sz + 28), .int 0]), .inl (1, 24, .inl (fun _ => 0)), .inl (0, 24, .inl (fun _ => 0)), .inl (0, 24, .inl (fun _ => 0)), .inl (0, 24, .inl (fun _ => 0)), .inl (0, 24, .inl (fun _ => 0)), .inl (0, 4, .inl (fun _ => 0)), .inl (0, 4, .inl (fun _ => 0)), .inl (0, 4, .inl (upd (upd (upd (upd (fun _ => 0) 0 (-1)) 1 (-1)) 2 (-1)) 3 (-1))), .inr (3, [.ref (sz + 30), .ref (sz + 31), .ref (sz + 32), .ref (sz + 33), .ref (sz + 34), .ref (sz + 35), .ref (sz + 36), .ref (sz + 37), .int 0]), .inl (1, 24, .inl (fun _ => 0)), .inl (0, 24, .inl (fun _ => 0)), .inl (0, 24, .inl (fun _ => 0)), .inl (0, 24, .inl (fun _ => 0)), .inl (0, 24, .inl (fun _ => 0)), .inl (0, 4, .inl (fun _ => 0)), .inl (0, 4, .inl (fun _ => 0)), .inl (0, 4, .inl (upd (upd (upd (upd (fun _ => 0) 0 (-1)) 1 (-1)) 2 (-1)) 3 (-1))), .inr (3, [.ref (sz + 39), .ref (sz + 40), .ref (sz + 41), .ref (sz + 42), .ref (sz + 43), .ref (sz + 44), .ref (sz + 45), .ref (sz + 46), .int 0]), .inl (1, 24, .inl (fun _ => 0)), .inl (0, 24, .inl (fun _ => 0)), .inl (0, 24, .inl (fun _ => 0)), .inl (0, 24, .inl (fun _ => 0)), .inl (0, 24, .inl (fun _ => 0)), .inl (0, 4, .inl (fun _ => 0)), .inl (0, 4, .inl (fun _ => 0)), .inl (0, 4, .inl (upd (upd (upd (upd (fun _ => 0) 0 (-1)) 1 (-1)) 2 (-1)) 3 (-1))), .inr (2, [.ref (sz + 48), .int 0, .int 0, .ref (sz + 49), .int 0, .int 0]), .inl (0, 120, .inl (fun _ => 0)), .inl (0, 3, .inl (fun _ => 0))]) rfl ?_
  refine n_putThisF C (ci := 5) (k0 := 2) rfl inX6_init_X6 tyX6_ok nmX6 (by decide) fX6_init_26 rfl rfl (tyX6_ok 2 (by decide)) rfl rfl (by decide) dX6_init_34 ?_
  refine n_aload_n C 0 dX6_init_37 rfl rfl ?_
  refine n_new C (ci := 0) (fs := [.null, .null]) rfl inX6_init_X0 tyX0_ok clX6_init_30 cnX6_init_X0 cjX6_init_X0 dfX0 (Nat.le_of_ble_eq_true rfl) (Nat.le_of_ble_eq_true rfl) dX6_init_38 ?_
  refine n_dup C dX6_init_41 rfl ?_
  refine n_callI C (j := 50) gX6_init_X0_init rfl mkX6_init_32 cjX6_init_X0 imX6_init_X0 rfl ⟨rfl, rfl⟩ hI_X0 ⟨(Nat.le_of_ble_eq_true rfl), (Nat.le_of_ble_eq_true rfl)⟩ rfl rfl (r_X0_init _ _ _) (Nat.le_of_ble_eq_true rfl) dX6_init_42 ⟨(Nat.le_of_ble_eq_true rfl), (Nat.le_of_ble_eq_true rfl)⟩ ?_
  refine n_norm (L' := [.inr (3, [.ref (sz + 1), .ref (sz + 2), .ref (sz + 3), .ref (sz + 4), .ref (sz + 5), .ref (sz + 6), .ref (sz + 7), .ref (sz + 8), .int 0]), .inl (1, 24, .inl (fun _ => 0)), .inl (0, 24, .inl (fun _ => 0)), .inl (0, 24, .inl (fun _ => 0)), .inl (0, 24, .inl (fun _ => 0)), .inl (0, 24, .inl (fun _ => 0)), .inl (0, 4, .inl (fun _ => 0)), .inl (0, 4, .inl (fun _ => 0)), .inl (0, 4, .inl (upd (upd (upd (upd (fun _ => 0) 0 (-1)) 1 (-1)) 2 (-1)) 3 (-1))), .inr (4, [.ref (sz + 10), .int 0, .int 0]), .inl (4, 4, .inr (.inr (.inr (.inr (va_up (va_up (va_up (va_up (fun _ => none) 0 (some (sz + 11))) 1 (some (sz + 20))) 2 (some (sz + 29))) 3 (some (sz + 38))))))), .inr (3, [.ref (sz + 12), .ref (sz + 13), .ref (sz + 14), .ref (sz + 15), .ref (sz + 16), .ref (sz + 17), .ref (sz + 18), .ref (sz + 19), .int 0]), .inl (1, 24, .inl (fun _ => 0)), .inl (0, 24, .inl (fun _ => 0)), .inl (0, 24, .inl (fun _ => 0)), .inl (0, 24, .inl (fun _ => 0)), .inl (0, 24, .inl (fun _ => 0)), .inl (0, 4, .inl (fun _ => 0)), .inl (0, 4, .inl (fun _ => 0)), .inl (0, 4, .inl (upd (upd (upd (upd (fun _ => 0) 0 (-1)) 1 (-1)) 2 (-1)) 3 (-1))), .inr (3, [.ref (sz + 21), .ref (sz + 22), .ref (sz + 23), .ref (sz + 24), .ref (sz + 25), .ref (sz + 26), .ref (sz + 27), .ref (sz + 28), .int 0]), .inl (1, 24, .inl (fun _ => 0)), .inl (0, 24, .inl (fun _ => 0)), .inl (0, 24, .inl (fun _ => 0)), .inl (0, 24, .inl (fun _ => 0)), .inl (0, 24, .inl (fun _ => 0)), .inl (0, 4, .inl (fun _ => 0)), .inl (0, 4, .inl (fun _ => 0)), .inl (0, 4, .inl (upd (upd (upd (upd (fun _ => 0) 0 (-1)) 1 (-1)) 2 (-1)) 3 (-1))), .inr (3, [.ref (sz + 30), .ref (sz + 31), .ref (sz + 32), .ref (sz + 33), .ref (sz + 34), .ref (sz + 35), .ref (sz + 36), .ref (sz + 37), .int 0]), .inl (1, 24, .inl (fun _ => 0)), .inl (0, 24, .inl (fun _ => 0)), .inl (0, 24, .inl (fun _ => 0)), .inl (0, 24, .inl (fun _ => 0)), .inl (0, 24, .inl (fun _ => 0)), .inl (0, 4, .inl (fun _ => 0)), .inl (0, 4, .inl (fun _ => 0)), .inl (0, 4, .inl (upd (upd (upd (upd (fun _ => 0) 0 (-1)) 1 (-1)) 2 (-1)) 3 (-1))), .inr (3, [.ref (sz + 39), .ref (sz + 40), .ref (sz + 41), .ref (sz + 42), .ref (sz + 43), .ref (sz + 44), .ref (sz + 45), .ref (sz + 46), .int 0]), .inl (1, 24, .inl (fun _ => 0)), .inl (0, 24, .inl (fun _ => 0)), .inl (0, 24, .inl (fun _ => 0)), .inl (0, 24, .inl (fun _ => 0)), .inl (0, 24, .inl (fun _ => 0)), .inl (0, 4, .inl (fun _ => 0)), .inl (0, 4, .inl (fun _ => 0)), .inl (0, 4, .inl (upd (upd (upd (upd (fun _ => 0) 0 (-1)) 1 (-1)) 2 (-1)) 3 (-1))), .inr (2, [.ref (sz + 48), .int 0, .int 0, .ref (sz + 49), .int 0, .int 0]), .inl (0, 120, .inl (fun _ => 0)), .inl (0, 3, .inl (fun _ => 0)), .inr (0, [.ref (sz + 51), .ref (sz + 52)]), .inl (3, 5, .inr (.inr (.inr (.inr (va_up (va_up (va_up (va_up (va_up (fun _ => none) 0 (some (sz + 53))) 1 (some (sz + 56))) 2 (some (sz + 59))) 3 (some (sz + 62))) 4 (some (sz + 65))))))), .inl (0, 24, .inl (fun _ => 0)), .inr (1, [.ref (sz + 54), .int 0, .ref (sz + 55), .int 1]), .inl (0, 24, .inl (fun _ => 0)), .inl (0, 24, .inl (fun _ => 0)), .inr (1, [.ref (sz + 57), .int 0, .ref (sz + 58), .int 1]), .inl (0, 24, .inl (fun _ => 0)), .inl (0, 24, .inl (fun _ => 0)), .inr (1, [.ref (sz + 60), .int 0, .ref (sz + 61), .int 1]), .inl (0, 24, .inl (fun _ => 0)), .inl (0, 24, .inl (fun _ => 0)), .inr (1, [.ref (sz + 63), .int 0, .ref (sz + 64), .int 1]), .inl (0, 24, .inl (fun _ => 0)), .inl (0, 24, .inl (fun _ => 0)), .inr (1, [.ref (sz + 66), .int 0, .ref (sz + 67), .int 1]), .inl (0, 24, .inl (fun _ => 0)), .inl (0, 24, .inl (fun _ => 0))]) rfl ?_
  refine n_putThis C (ci := 5) (k0 := 3) rfl inX6_init_X6 tyX6_ok nmX6 (by decide) fX6_init_33 rfl (tyX6_ok 3 (by decide)) rfl rfl (by decide) dX6_init_45 ?_
  refine n_aload_n C 0 dX6_init_48 rfl rfl ?_
  refine n_new C (ci := 0) (fs := [.null, .null]) rfl inX6_init_X0 tyX0_ok clX6_init_30 cnX6_init_X0 cjX6_init_X0 dfX0 (Nat.le_of_ble_eq_true rfl) (Nat.le_of_ble_eq_true rfl) dX6_init_49 ?_
  refine n_dup C dX6_init_52 rfl ?_
  refine n_callI C (j := 68) gX6_init_X0_init rfl mkX6_init_32 cjX6_init_X0 imX6_init_X0 rfl ⟨rfl, rfl⟩ hI_X0 ⟨(Nat.le_of_ble_eq_true rfl), (Nat.le_of_ble_eq_true rfl)⟩ rfl rfl (r_X0_init _ _ _) (Nat.le_of_ble_eq_true rfl) dX6_init_53 ⟨(Nat.le_of_ble_eq_true rfl), (Nat.le_of_ble_eq_true rfl)⟩ ?_
  refine n_norm (L' := [.inr (3, [.ref (sz + 1), .ref (sz + 2), .ref (sz + 3), .ref (sz + 4), .ref (sz + 5), .ref (sz + 6), .ref (sz + 7), .ref (sz + 8), .int 0]), .inl (1, 24, .inl (fun _ => 0)), .inl (0, 24, .inl (fun _ => 0)), .inl (0, 24, .inl (fun _ => 0)), .inl (0, 24, .inl (fun _ => 0)), .inl (0, 24, .inl (fun _ => 0)), .inl (0, 4, .inl (fun _ => 0)), .inl (0, 4, .inl (fun _ => 0)), .inl (0, 4, .inl (upd (upd (upd (upd (fun _ => 0) 0 (-1)) 1 (-1)) 2 (-1)) 3 (-1))), .inr (4, [.ref (sz + 10), .int 0, .int 0]), .inl (4, 4, .inr (.inr (.inr (.inr (va_up (va_up (va_up (va_up (fun _ => none) 0 (some (sz + 11))) 1 (some (sz + 20))) 2 (some (sz + 29))) 3 (some (sz + 38))))))), .inr (3, [.ref (sz + 12), .ref (sz + 13), .ref (sz + 14), .ref (sz + 15), .ref (sz + 16), .ref (sz + 17), .ref (sz + 18), .ref (sz + 19), .int 0]), .inl (1, 24, .inl (fun _ => 0)), .inl (0, 24, .inl (fun _ => 0)), .inl (0, 24, .inl (fun _ => 0)), .inl (0, 24, .inl (fun _ => 0)), .inl (0, 24, .inl (fun _ => 0)), .inl (0, 4, .inl (fun _ => 0)), .inl (0, 4, .inl (fun _ => 0)), .inl (0, 4, .inl (upd (upd (upd (upd (fun _ => 0) 0 (-1)) 1 (-1)) 2 (-1)) 3 (-1))), .inr (3, [.ref (sz + 21), .ref (sz + 22), .ref (sz + 23), .ref (sz + 24), .ref (sz + 25), .ref (sz + 26), .ref (sz + 27), .ref (sz + 28), .int 0]), .inl (1, 24, .inl (fun _ => 0)), .inl (0, 24, .inl (fun _ => 0)), .inl (0, 24, .inl (fun _ => 0)), .inl (0, 24, .inl (fun _ => 0)), .inl (0, 24, .inl (fun _ => 0)), .inl (0, 4, .inl (fun _ => 0)), .inl (0, 4, .inl (fun _ => 0)), .inl (0, 4, .inl (upd (upd (upd (upd (fun _ => 0) 0 (-1)) 1 (-1)) 2 (-1)) 3 (-1))), .inr (3, [.ref (sz + 30), .ref (sz + 31), .ref (sz + 32), .ref (sz + 33), .ref (sz + 34), .ref (sz + 35), .ref (sz + 36), .ref (sz + 37), .int 0]), .inl (1, 24, .inl (fun _ => 0)), .inl (0, 24, .inl (fun _ => 0)), .inl (0, 24, .inl (fun _ => 0)), .inl (0, 24, .inl (fun _ => 0)), .inl (0, 24, .inl (fun _ => 0)), .inl (0, 4, .inl (fun _ => 0)), .inl (0, 4, .inl (fun _ => 0)), .inl (0, 4, .inl (upd (upd (upd (upd (fun _ => 0) 0 (-1)) 1 (-1)) 2 (-1)) 3 (-1))), .inr (3, [.ref (sz + 39), .ref (sz + 40), .ref (sz + 41), .ref (sz + 42), .ref (sz + 43), .ref (sz + 44), .ref (sz + 45), .ref (sz + 46), .int 0]), .inl (1, 24, .inl (fun _ => 0)), .inl (0, 24, .inl (fun _ => 0)), .inl (0, 24, .inl (fun _ => 0)), .inl (0, 24, .inl (fun _ => 0)), .inl (0, 24, .inl (fun _ => 0)), .inl (0, 4, .inl (fun _ => 0)), .inl (0, 4, .inl (fun _ => 0)), .inl (0, 4, .inl (upd (upd (upd (upd (fun _ => 0) 0 (-1)) 1 (-1)) 2 (-1)) 3 (-1))), .inr (2, [.ref (sz + 48), .int 0, .int 0, .ref (sz + 49), .int 0, .int 0]), .inl (0, 120, .inl (fun _ => 0)), .inl (0, 3, .inl (fun _ => 0)), .inr (0, [.ref (sz + 51), .ref (sz + 52)]), .inl (3, 5, .inr (.inr (.inr (.inr (va_up (va_up (va_up (va_up (va_up (fun _ => none) 0 (some (sz + 53))) 1 (some (sz + 56))) 2 (some (sz + 59))) 3 (some (sz + 62))) 4 (some (sz + 65))))))), .inl (0, 24, .inl (fun _ => 0)), .inr (1, [.ref (sz + 54), .int 0, .ref (sz + 55), .int 1]), .inl (0, 24, .inl (fun _ => 0)), .inl (0, 24, .inl (fun _ => 0)), .inr (1, [.ref (sz + 57), .int 0, .ref (sz + 58), .int 1]), .inl (0, 24, .inl (fun _ => 0)), .inl (0, 24, .inl (fun _ => 0)), .inr (1, [.ref (sz + 60), .int 0, .ref (sz + 61), .int 1]), .inl (0, 24, .inl (fun _ => 0)), .inl (0, 24, .inl (fun _ => 0)), .inr (1, [.ref (sz + 63), .int 0, .ref (sz + 64), .int 1]), .inl (0, 24, .inl (fun _ => 0)), .inl (0, 24, .inl (fun _ => 0)), .inr (1, [.ref (sz + 66), .int 0, .ref (sz + 67), .int 1]), .inl (0, 24, .inl (fun _ => 0)), .inl (0, 24, .inl (fun _ => 0)), .inr (0, [.ref (sz + 69), .ref (sz + 70)]), .inl (3, 5, .inr (.inr (.inr (.inr (va_up (va_up (va_up (va_up (va_up (fun _ => none) 0 (some (sz + 71))) 1 (some (sz + 74))) 2 (some (sz + 77))) 3 (some (sz + 80))) 4 (some (sz + 83))))))), .inl (0, 24, .inl (fun _ => 0)), .inr (1, [.ref (sz + 72), .int 0, .ref (sz + 73), .int 1]), .inl (0, 24, .inl (fun _ => 0)), .inl (0, 24, .inl (fun _ => 0)), .inr (1, [.ref (sz + 75), .int 0, .ref (sz + 76), .int 1]), .inl (0, 24, .inl (fun _ => 0)), .inl (0, 24, .inl (fun _ => 0)), .inr (1, [.ref (sz + 78), .int 0, .ref (sz + 79), .int 1]), .inl (0, 24, .inl (fun _ => 0)), .inl (0, 24, .inl (fun _ => 0)), .inr (1, [.ref (sz + 81), .int 0, .ref (sz + 82), .int 1]), .inl (0, 24, .inl (fun _ => 0)), .inl (0, 24, .inl (fun _ => 0)), .inr (1, [.ref (sz + 84), .int 0, .ref (sz + 85), .int 1]), .inl (0, 24, .inl (fun _ => 0)), .inl (0, 24, .inl (fun _ => 0))]) rfl ?_
  refine n_putThis C (ci := 5) (k0 := 4) rfl inX6_init_X6 tyX6_ok nmX6 (by decide) fX6_init_37 rfl (tyX6_ok 4 (by decide)) rfl rfl (by decide) dX6_init_56 ?_
  exact n_vret C dX6_init_59 rfl rfl rfl rfl
theorem inX7_init_X7 : ∀ x ∈ u_ws RX7 TX7 20, x ∈ wsX7_init := by decide +kernel
theorem oiX7_init : Cond.methodLink RX7 1 objectInit ∈ wsX7_init := by decide +kernel
theorem ojX7_init : Cond.instanceMethod objectInit ∈ wsX7_init := by decide +kernel
theorem okX7_init : Cond.code objectInit ⟨#[0xb1]⟩ 1 none ∈ wsX7_init := by decide +kernel
theorem acX7_init_int : Cond.arrayClass (newarray.typeOf .int) ∈ wsX7_init := by decide +kernel
theorem fX7_init_7 : Cond.fieldLink RX7 7 (TX7 0).1 (TX7 0).2.1 (TX7 0).2.2.1 ∈ wsX7_init := by decide +kernel
theorem fX7_init_13 : Cond.fieldLink RX7 13 (TX7 1).1 (TX7 1).2.1 (TX7 1).2.2.1 ∈ wsX7_init := by decide +kernel
theorem fX7_init_16 : Cond.fieldLink RX7 16 (TX7 2).1 (TX7 2).2.1 (TX7 2).2.2.1 ∈ wsX7_init := by decide +kernel
theorem fX7_init_19 : Cond.fieldLink RX7 19 (TX7 5).1 (TX7 5).2.1 (TX7 5).2.2.1 ∈ wsX7_init := by decide +kernel
theorem fX7_init_22 : Cond.fieldLink RX7 22 (TX7 7).1 (TX7 7).2.1 (TX7 7).2.2.1 ∈ wsX7_init := by decide +kernel
theorem fX7_init_25 : Cond.fieldLink RX7 25 (TX7 8).1 (TX7 8).2.1 (TX7 8).2.2.1 ∈ wsX7_init := by decide +kernel
theorem fX7_init_28 : Cond.fieldLink RX7 28 (TX7 9).1 (TX7 9).2.1 (TX7 9).2.2.1 ∈ wsX7_init := by decide +kernel
theorem fX7_init_31 : Cond.fieldLink RX7 31 (TX7 10).1 (TX7 10).2.1 (TX7 10).2.2.1 ∈ wsX7_init := by decide +kernel
theorem fX7_init_34 : Cond.fieldLink RX7 34 (TX7 18).1 (TX7 18).2.1 (TX7 18).2.2.1 ∈ wsX7_init := by decide +kernel
def o_X7_init (b sz : Nat) : Cel := .inr (6, [.ref (sz + 0), .ref (sz + 1), .ref (sz + 2), .int 0, .int 0, .ref (sz + 3), .int 0, .ref (sz + 4), .ref (sz + 5), .ref (sz + 6), .ref (sz + 7), .long 0, .int 0, .int 0, .int 0, .int 0, .int 0, .int 0, .ref (sz + 8), .long 0])
def l_X7_init (b sz : Nat) : List Cel := [.inl (0, 141, .inl (fun _ => 0)), .inl (0, 564, .inl (fun _ => 0)), .inl (0, 141, .inl (fun _ => 0)), .inl (0, 120, .inl (fun _ => 0)), .inl (0, 160, .inl (fun _ => 0)), .inl (0, 5, .inl (fun _ => 0)), .inl (0, 160, .inl (fun _ => 0)), .inl (0, 5, .inl (fun _ => 0)), .inl (0, 3, .inl (fun _ => 0))]
set_option maxRecDepth 100000 in
set_option maxHeartbeats 8000000 in
theorem r_X7_init {l : Launch} (G : GG) (b sz : Nat) : ConN l yX7_init wsX7_init { frames := 1, cells := 9, slots := 1299, locals := 12 } G b sz (.inr (6, [.null, .null, .null, .int 0, .int 0, .null, .int 0, .null, .null, .null, .null, .long 0, .int 0, .int 0, .int 0, .int 0, .int 0, .int 0, .null, .long 0])) (.inr (6, [.ref (sz + 0), .ref (sz + 1), .ref (sz + 2), .int 0, .int 0, .ref (sz + 3), .int 0, .ref (sz + 4), .ref (sz + 5), .ref (sz + 6), .ref (sz + 7), .long 0, .int 0, .int 0, .int 0, .int 0, .int 0, .int 0, .ref (sz + 8), .long 0])) [.inl (0, 141, .inl (fun _ => 0)), .inl (0, 564, .inl (fun _ => 0)), .inl (0, 141, .inl (fun _ => 0)), .inl (0, 120, .inl (fun _ => 0)), .inl (0, 160, .inl (fun _ => 0)), .inl (0, 5, .inl (fun _ => 0)), .inl (0, 160, .inl (fun _ => 0)), .inl (0, 5, .inl (fun _ => 0)), .inl (0, 3, .inl (fun _ => 0))] 9 1299 := by
  refine ConN.of (own := RX7) (cc := cX7_init) (maxL := 1) rfl rfl (by decide) rfl (Nat.le_of_ble_eq_true rfl) ?_
  intro p e s m args below meth c C
  refine n_aload_n C 0 dX7_init_0 rfl rfl ?_
  refine n_objInit C oiX7_init ojX7_init okX7_init dX7_init_1 (Nat.le_of_ble_eq_true rfl) (Nat.le_of_ble_eq_true rfl) ?_
  refine n_aload_n C 0 dX7_init_4 rfl rfl ?_
  refine n_sipush C (v := 141) dX7_init_5 (by decide) ?_
  refine n_newa C 0 (N' := 141) (i0 := 141) acX7_init_int rfl rfl (fun U h => h) (fun cA => rfl) (by decide) (by decide) (Nat.le_of_ble_eq_true rfl) (Nat.le_of_ble_eq_true rfl) (Nat.le_of_ble_eq_true rfl) dX7_init_8 ?_
  refine n_putThisF C (ci := 6) (k0 := 0) rfl inX7_init_X7 tyX7_ok nmX7 (by decide) fX7_init_7 rfl rfl (tyX7_ok 0 (by decide)) rfl rfl (by decide) dX7_init_10 ?_
  refine n_aload_n C 0 dX7_init_13 rfl rfl ?_
  refine n_sipush C (v := 564) dX7_init_14 (by decide) ?_
  refine n_newa C 0 (N' := 564) (i0 := 564) acX7_init_int rfl rfl (fun U h => h) (fun cA => rfl) (by decide) (by decide) (Nat.le_of_ble_eq_true rfl) (Nat.le_of_ble_eq_true rfl) (Nat.le_of_ble_eq_true rfl) dX7_init_17 ?_
  refine n_putThisF C (ci := 6) (k0 := 1) rfl inX7_init_X7 tyX7_ok nmX7 (by decide) fX7_init_13 rfl rfl (tyX7_ok 1 (by decide)) rfl rfl (by decide) dX7_init_19 ?_
  refine n_aload_n C 0 dX7_init_22 rfl rfl ?_
  refine n_sipush C (v := 141) dX7_init_23 (by decide) ?_
  refine n_newa C 0 (N' := 141) (i0 := 141) acX7_init_int rfl rfl (fun U h => h) (fun cA => rfl) (by decide) (by decide) (Nat.le_of_ble_eq_true rfl) (Nat.le_of_ble_eq_true rfl) (Nat.le_of_ble_eq_true rfl) dX7_init_26 ?_
  refine n_putThisF C (ci := 6) (k0 := 2) rfl inX7_init_X7 tyX7_ok nmX7 (by decide) fX7_init_16 rfl rfl (tyX7_ok 2 (by decide)) rfl rfl (by decide) dX7_init_28 ?_
  refine n_aload_n C 0 dX7_init_31 rfl rfl ?_
  refine n_bipush C (v := 120) dX7_init_32 (by decide) ?_
  refine n_newa C 0 (N' := 120) (i0 := 120) acX7_init_int rfl rfl (fun U h => h) (fun cA => rfl) (by decide) (by decide) (Nat.le_of_ble_eq_true rfl) (Nat.le_of_ble_eq_true rfl) (Nat.le_of_ble_eq_true rfl) dX7_init_34 ?_
  refine n_putThisF C (ci := 6) (k0 := 5) rfl inX7_init_X7 tyX7_ok nmX7 (by decide) fX7_init_19 rfl rfl (tyX7_ok 5 (by decide)) rfl rfl (by decide) dX7_init_36 ?_
  refine n_aload_n C 0 dX7_init_39 rfl rfl ?_
  refine n_sipush C (v := 160) dX7_init_40 (by decide) ?_
  refine n_newa C 0 (N' := 160) (i0 := 160) acX7_init_int rfl rfl (fun U h => h) (fun cA => rfl) (by decide) (by decide) (Nat.le_of_ble_eq_true rfl) (Nat.le_of_ble_eq_true rfl) (Nat.le_of_ble_eq_true rfl) dX7_init_43 ?_
  refine n_putThisF C (ci := 6) (k0 := 7) rfl inX7_init_X7 tyX7_ok nmX7 (by decide) fX7_init_22 rfl rfl (tyX7_ok 7 (by decide)) rfl rfl (by decide) dX7_init_45 ?_
  refine n_aload_n C 0 dX7_init_48 rfl rfl ?_
  refine n_iconst C (v := 5) dX7_init_49 (by decide) ?_
  refine n_newa C 0 (N' := 5) (i0 := 5) acX7_init_int rfl rfl (fun U h => h) (fun cA => rfl) (by decide) (by decide) (Nat.le_of_ble_eq_true rfl) (Nat.le_of_ble_eq_true rfl) (Nat.le_of_ble_eq_true rfl) dX7_init_50 ?_
  refine n_putThisF C (ci := 6) (k0 := 8) rfl inX7_init_X7 tyX7_ok nmX7 (by decide) fX7_init_25 rfl rfl (tyX7_ok 8 (by decide)) rfl rfl (by decide) dX7_init_52 ?_
  refine n_aload_n C 0 dX7_init_55 rfl rfl ?_
  refine n_sipush C (v := 160) dX7_init_56 (by decide) ?_
  refine n_newa C 0 (N' := 160) (i0 := 160) acX7_init_int rfl rfl (fun U h => h) (fun cA => rfl) (by decide) (by decide) (Nat.le_of_ble_eq_true rfl) (Nat.le_of_ble_eq_true rfl) (Nat.le_of_ble_eq_true rfl) dX7_init_59 ?_
  refine n_putThisF C (ci := 6) (k0 := 9) rfl inX7_init_X7 tyX7_ok nmX7 (by decide) fX7_init_28 rfl rfl (tyX7_ok 9 (by decide)) rfl rfl (by decide) dX7_init_61 ?_
  refine n_aload_n C 0 dX7_init_64 rfl rfl ?_
  refine n_iconst C (v := 5) dX7_init_65 (by decide) ?_
  refine n_newa C 0 (N' := 5) (i0 := 5) acX7_init_int rfl rfl (fun U h => h) (fun cA => rfl) (by decide) (by decide) (Nat.le_of_ble_eq_true rfl) (Nat.le_of_ble_eq_true rfl) (Nat.le_of_ble_eq_true rfl) dX7_init_66 ?_
  refine n_putThisF C (ci := 6) (k0 := 10) rfl inX7_init_X7 tyX7_ok nmX7 (by decide) fX7_init_31 rfl rfl (tyX7_ok 10 (by decide)) rfl rfl (by decide) dX7_init_68 ?_
  refine n_aload_n C 0 dX7_init_71 rfl rfl ?_
  refine n_iconst C (v := 3) dX7_init_72 (by decide) ?_
  refine n_newa C 0 (N' := 3) (i0 := 3) acX7_init_int rfl rfl (fun U h => h) (fun cA => rfl) (by decide) (by decide) (Nat.le_of_ble_eq_true rfl) (Nat.le_of_ble_eq_true rfl) (Nat.le_of_ble_eq_true rfl) dX7_init_73 ?_
  refine n_putThisF C (ci := 6) (k0 := 18) rfl inX7_init_X7 tyX7_ok nmX7 (by decide) fX7_init_34 rfl rfl (tyX7_ok 18 (by decide)) rfl rfl (by decide) dX7_init_75 ?_
  exact n_vret C dX7_init_78 rfl rfl rfl rfl
