theorem hS_L_areSearches : yL_areSearches.cls ≠ "java/lang/invoke/MethodHandle" ∧ yL_areSearches.cls ≠ "java/lang/invoke/VarHandle" ∧ (parseMethodDescriptor yL_areSearches.desc).map (fun d => d.parameters.length) = some 3 := by decide +kernel
theorem hS_L_isMoved : yL_isMoved.cls ≠ "java/lang/invoke/MethodHandle" ∧ yL_isMoved.cls ≠ "java/lang/invoke/VarHandle" ∧ (parseMethodDescriptor yL_isMoved.desc).map (fun d => d.parameters.length) = some 4 := by decide +kernel
theorem hS_L_isClosest : yL_isClosest.cls ≠ "java/lang/invoke/MethodHandle" ∧ yL_isClosest.cls ≠ "java/lang/invoke/VarHandle" ∧ (parseMethodDescriptor yL_isClosest.desc).map (fun d => d.parameters.length) = some 1 := by decide +kernel
theorem hS_L_refused : yL_refused.cls ≠ "java/lang/invoke/MethodHandle" ∧ yL_refused.cls ≠ "java/lang/invoke/VarHandle" ∧ (parseMethodDescriptor yL_refused.desc).map (fun d => d.parameters.length) = some 1 := by decide +kernel
theorem hS_L_isGone : yL_isGone.cls ≠ "java/lang/invoke/MethodHandle" ∧ yL_isGone.cls ≠ "java/lang/invoke/VarHandle" ∧ (parseMethodDescriptor yL_isGone.desc).map (fun d => d.parameters.length) = some 4 := by decide +kernel
theorem hS_L_areNodes : yL_areNodes.cls ≠ "java/lang/invoke/MethodHandle" ∧ yL_areNodes.cls ≠ "java/lang/invoke/VarHandle" ∧ (parseMethodDescriptor yL_areNodes.desc).map (fun d => d.parameters.length) = some 2 := by decide +kernel
theorem cL_law_23 : Cond.constant RL 23 (-5000002) ∈ wsL_law := by decide +kernel
theorem cL_law_159 : Cond.constant RL 159 (10000000) ∈ wsL_law := by decide +kernel
theorem hS_L_low : yL_low.cls ≠ "java/lang/invoke/MethodHandle" ∧ yL_low.cls ≠ "java/lang/invoke/VarHandle" ∧ (parseMethodDescriptor yL_low.desc).map (fun d => d.parameters.length) = some 2 := by decide +kernel
theorem cL_law_163 : Cond.constant RL 163 (1000000) ∈ wsL_law := by decide +kernel
set_option maxRecDepth 100000 in
set_option maxHeartbeats 4000000 in
theorem r_L_law_p365 {p : Program} {l : Launch} {e : Env} {s : State} {m : MethodId} {below : List Frame} {meth : Method} {c : Code} {G : GG} {b L : Nat} {xs : Nat → Int32} (hL : L ≤ 260) (hst : l.stackTraces = false) (C0 : lw_At p s m meth c b L xs) (C : Cx p s m #[Value.ref b] meth c G (fun q => s.heap.size ≤ q) cL_law 11 RL wsL_law ret) (n : Nat) (T : Nat) (hT : 20 ≤ T) {k32 : Wd → Nat → Nat → Int32 → Int32 → Option (Int32 × Wd)} {z : (Int32 × Wd)} (hz : z.1 = 1) (H32 : ∀ (w : Wd) (b1 : Nat) (b2 : Int32) (b3 : Int32), k32 w b b1 b2 b3 = some z → ∀ kc ks : Nat, kc + T ≤ 600104 ∧ ks + 6 * T ≤ 7301314 → VQ p l e room_1 s m #[Value.ref b] below meth c G (fun q => s.heap.size ≤ q) 11 kc ks (lw_Z below #[Value.ref b] s) 32 [(0, .ref b), (1, .ref b1), (2, .int b2), (3, .int b3)] [] w) : ∀ (w : Wd) (a1 : Nat) (a2 : Int32) (a3 : Int32) (a5 : Int32), m_L_law_p365 L xs n k32 w b a1 a2 a3 a5 = some z → ∀ kc ks : Nat, kc + (T + 21) ≤ 600104 ∧ ks + 6 * (T + 21) ≤ 7301314 → VQ p l e room_1 s m #[Value.ref b] below meth c G (fun q => s.heap.size ≤ q) 11 kc ks (lw_Z below #[Value.ref b] s) 365 [(0, .ref b), (1, .ref a1), (2, .int a2), (3, .int a3), (5, .int a5)] [] w := by
  intro w a1 a2 a3 a5 h kc ks hk
  unfold m_L_law_p365 at h
  refine v_iload_n C 2 dL_law_365 rfl rfl ?_
  refine v_if_eq C (tgt := 483) dL_law_366 (by decide) (fun q => ?_) (fun q => ?_)
  · have h := ite_t q h
    refine v_iconst C (v := 0) dL_law_483 (by decide) ?_
    refine v_istore_n C (lv' := [(2, .int 0), (0, .ref b), (1, .ref a1), (3, .int a3), (5, .int a5)]) dL_law_484 rfl (by decide) rfl ?_
    refine v_iinc C (k := 3) (v := (a3 + 1)) (lv' := [(3, .int (a3 + 1)), (2, .int 0), (0, .ref b), (1, .ref a1), (5, .int a5)]) dL_law_485 rfl rfl (by decide) rfl ?_
    refine v_goto C (tgt := 32) dL_law_488 (by decide) ?_
    refine v_sub [2, 3, 1, 0] rfl ?_
    exact H32 _ _ _ _ h _ _ ⟨show kc + T ≤ 600104 by omega, show ks + 6 * T ≤ 7301314 by omega⟩
  · have h := ite_f q h
    refine v_aload_n C 1 dL_law_369 rfl rfl ?_
    refine v_iload C 4 dL_law_370 rfl ?_
    refine v_bipush C (v := 7) dL_law_372 (by decide) ?_
    refine v_idiv C dL_law_374 (by decide) ?_
    refine v_bipush C (v := 64) dL_law_375 (by decide) ?_
    refine v_irem C dL_law_377 (by decide) ?_
    refine v_iload C 4 dL_law_378 rfl ?_
    refine v_at (pc' := 380) rfl ?_
    refine v_sipush C (v := 448) dL_law_380 (by decide) ?_
    refine v_idiv C dL_law_383 (by decide) ?_
    refine v_bipush C (v := 64) dL_law_384 (by decide) ?_
    refine v_irem C dL_law_386 (by decide) ?_
    obtain ⟨x1, e_x1, h⟩ := bnd h
    refine v_callSi C (av := [.ref a1, .int (jrm (a5 / 7) 64), .int (jrm (a5 / 448) 64)]) (rest := []) gL_law_L_areSearches rfl ⟨rfl, rfl⟩ hS_L_areSearches ⟨(Nat.le_of_ble_eq_true rfl), (Nat.le_of_ble_eq_true rfl)⟩ (r_L_areSearches (A := (fun q => s.heap.size ≤ q)) e_x1) rfl rfl (Nat.le_of_ble_eq_true rfl) dL_law_387 (hk := ⟨show kc ≤ 600104 by omega, show ks ≤ 7301314 by omega⟩) ?_
    refine v_if_eq C (tgt := 483) dL_law_390 (by decide) (fun q => ?_) (fun q => ?_)
    · have h := ite_t q h
      refine v_iconst C (v := 0) dL_law_483 (by decide) ?_
      refine v_istore_n C (lv' := [(2, .int 0), (0, .ref b), (1, .ref a1), (3, .int a3), (5, .int a5)]) dL_law_484 rfl (by decide) rfl ?_
      refine v_iinc C (k := 3) (v := (a3 + 1)) (lv' := [(3, .int (a3 + 1)), (2, .int 0), (0, .ref b), (1, .ref a1), (5, .int a5)]) dL_law_485 rfl rfl (by decide) rfl ?_
      refine v_goto C (tgt := 32) dL_law_488 (by decide) ?_
      refine v_sub [2, 3, 1, 0] rfl ?_
      exact H32 _ _ _ _ h _ _ ⟨show kc + T ≤ 600104 by omega, show ks + 6 * T ≤ 7301314 by omega⟩
    · have h := ite_f q h
      refine v_aload_n C 1 dL_law_393 rfl rfl ?_
      refine v_iload C 4 dL_law_394 rfl ?_
      refine v_iconst C (v := 3) dL_law_396 (by decide) ?_
      refine v_idiv C dL_law_397 (by decide) ?_
      refine v_bipush C (v := 24) dL_law_398 (by decide) ?_
      refine v_irem C dL_law_400 (by decide) ?_
      refine v_iload C 4 dL_law_401 rfl ?_
      refine v_at (pc' := 403) rfl ?_
      refine v_bipush C (v := 72) dL_law_403 (by decide) ?_
      refine v_idiv C dL_law_405 (by decide) ?_
      refine v_bipush C (v := 64) dL_law_406 (by decide) ?_
      refine v_irem C dL_law_408 (by decide) ?_
      refine v_iload C 4 dL_law_409 rfl ?_
      refine v_sipush C (v := 4608) dL_law_411 (by decide) ?_
      refine v_idiv C dL_law_414 (by decide) ?_
      refine v_bipush C (v := 64) dL_law_415 (by decide) ?_
      refine v_at (pc' := 417) rfl ?_
      refine v_irem C dL_law_417 (by decide) ?_
      obtain ⟨z2, e_z2, h⟩ := bnd h
      refine v_callSK C (av := [.ref a1, .int (jrm (a5 / 3) 24), .int (jrm (a5 / 72) 64), .int (jrm (a5 / 4608) 64)]) (rest := []) gL_law_L_isMoved rfl ⟨rfl, rfl⟩ hS_L_isMoved ⟨(Nat.le_of_ble_eq_true rfl), (Nat.le_of_ble_eq_true rfl)⟩ (r_L_isMoved (A := fun q => s.heap.size ≤ q) hst e_z2) rfl rfl (Nat.le_of_ble_eq_true rfl) dL_law_418 (hk := ⟨show kc + 1 ≤ 600104 by omega, show ks + 6 ≤ 7301314 by omega⟩) ?_
      refine v_if_eq C (tgt := 483) dL_law_421 (by decide) (fun q => ?_) (fun q => ?_)
      · have h := ite_t q h
        refine v_iconst C (v := 0) dL_law_483 (by decide) ?_
        refine v_istore_n C (lv' := [(2, .int 0), (0, .ref b), (1, .ref a1), (3, .int a3), (5, .int a5)]) dL_law_484 rfl (by decide) rfl ?_
        refine v_iinc C (k := 3) (v := (a3 + 1)) (lv' := [(3, .int (a3 + 1)), (2, .int 0), (0, .ref b), (1, .ref a1), (5, .int a5)]) dL_law_485 rfl rfl (by decide) rfl ?_
        refine v_goto C (tgt := 32) dL_law_488 (by decide) ?_
        refine v_sub [2, 3, 1, 0] rfl ?_
        exact H32 _ _ _ _ h _ _ ⟨show (kc + 1) + T ≤ 600104 by omega, show (ks + 6) + 6 * T ≤ 7301314 by omega⟩
      · have h := ite_f q h
        refine v_aload_n C 1 dL_law_424 rfl rfl ?_
        obtain ⟨x3, e_x3, h⟩ := bnd h
        refine v_callSi C (av := [.ref a1]) (rest := []) gL_law_L_isClosest rfl ⟨rfl, rfl⟩ hS_L_isClosest ⟨(Nat.le_of_ble_eq_true rfl), (Nat.le_of_ble_eq_true rfl)⟩ (r_L_isClosest (A := (fun q => s.heap.size ≤ q)) e_x3) rfl rfl (Nat.le_of_ble_eq_true rfl) dL_law_425 (hk := ⟨show (kc + 1) ≤ 600104 by omega, show (ks + 6) ≤ 7301314 by omega⟩) ?_
        refine v_if_eq C (tgt := 483) dL_law_428 (by decide) (fun q => ?_) (fun q => ?_)
        · have h := ite_t q h
          refine v_iconst C (v := 0) dL_law_483 (by decide) ?_
          refine v_istore_n C (lv' := [(2, .int 0), (0, .ref b), (1, .ref a1), (3, .int a3), (5, .int a5)]) dL_law_484 rfl (by decide) rfl ?_
          refine v_iinc C (k := 3) (v := (a3 + 1)) (lv' := [(3, .int (a3 + 1)), (2, .int 0), (0, .ref b), (1, .ref a1), (5, .int a5)]) dL_law_485 rfl rfl (by decide) rfl ?_
          refine v_goto C (tgt := 32) dL_law_488 (by decide) ?_
          refine v_sub [2, 3, 1, 0] rfl ?_
          exact H32 _ _ _ _ h _ _ ⟨show (kc + 1) + T ≤ 600104 by omega, show (ks + 6) + 6 * T ≤ 7301314 by omega⟩
        · have h := ite_f q h
          refine v_iload_n C 3 dL_law_431 rfl rfl ?_
          refine v_iconst C (v := 4) dL_law_432 (by decide) ?_
          refine v_irem C dL_law_433 (by decide) ?_
          refine v_iconst C (v := 2) dL_law_434 (by decide) ?_
          refine v_icmp_ne C (tgt := 465) dL_law_435 (by decide) (fun q => ?_) (fun q => ?_)
          · have h := ite_f q h
            refine v_iload_n C 3 dL_law_465 rfl rfl ?_
            refine v_iconst C (v := 5) dL_law_466 (by decide) ?_
            refine v_irem C dL_law_467 (by decide) ?_
            refine v_iconst C (v := 3) dL_law_468 (by decide) ?_
            refine v_icmp_ne C (tgt := 479) dL_law_469 (by decide) (fun q => ?_) (fun q => ?_)
            · have h := ite_f q h
              refine v_iconst C (v := 1) dL_law_479 (by decide) ?_
              refine v_goto C (tgt := 484) dL_law_480 (by decide) ?_
              refine v_istore_n C (lv' := [(2, .int 1), (0, .ref b), (1, .ref a1), (3, .int a3), (5, .int a5)]) dL_law_484 rfl (by decide) rfl ?_
              refine v_iinc C (k := 3) (v := (a3 + 1)) (lv' := [(3, .int (a3 + 1)), (2, .int 1), (0, .ref b), (1, .ref a1), (5, .int a5)]) dL_law_485 rfl rfl (by decide) rfl ?_
              refine v_goto C (tgt := 32) dL_law_488 (by decide) ?_
              refine v_sub [2, 3, 1, 0] rfl ?_
              exact H32 _ _ _ _ h _ _ ⟨show (kc + 1) + T ≤ 600104 by omega, show (ks + 6) + 6 * T ≤ 7301314 by omega⟩
            · have h := ite_t q h
              refine v_aload_n C 1 dL_law_472 rfl rfl ?_
              obtain ⟨z4, e_z4, h⟩ := bnd h
              refine v_callSK C (av := [.ref a1]) (rest := []) gL_law_L_refused rfl ⟨rfl, rfl⟩ hS_L_refused ⟨(Nat.le_of_ble_eq_true rfl), (Nat.le_of_ble_eq_true rfl)⟩ (r_L_refused (A := fun q => s.heap.size ≤ q) hst e_z4) rfl rfl (Nat.le_of_ble_eq_true rfl) dL_law_473 (hk := ⟨show (kc + 1) + 20 ≤ 600104 by omega, show (ks + 6) + 120 ≤ 7301314 by omega⟩) ?_
              refine v_if_eq C (tgt := 483) dL_law_476 (by decide) (fun q => ?_) (fun q => ?_)
              · have h := ite_t q h
                refine v_iconst C (v := 0) dL_law_483 (by decide) ?_
                refine v_istore_n C (lv' := [(2, .int 0), (0, .ref b), (1, .ref a1), (3, .int a3), (5, .int a5)]) dL_law_484 rfl (by decide) rfl ?_
                refine v_iinc C (k := 3) (v := (a3 + 1)) (lv' := [(3, .int (a3 + 1)), (2, .int 0), (0, .ref b), (1, .ref a1), (5, .int a5)]) dL_law_485 rfl rfl (by decide) rfl ?_
                refine v_goto C (tgt := 32) dL_law_488 (by decide) ?_
                refine v_sub [2, 3, 1, 0] rfl ?_
                exact H32 _ _ _ _ h _ _ ⟨show ((kc + 1) + 20) + T ≤ 600104 by omega, show ((ks + 6) + 120) + 6 * T ≤ 7301314 by omega⟩
              · have h := ite_f q h
                refine v_iconst C (v := 1) dL_law_479 (by decide) ?_
                refine v_goto C (tgt := 484) dL_law_480 (by decide) ?_
                refine v_istore_n C (lv' := [(2, .int 1), (0, .ref b), (1, .ref a1), (3, .int a3), (5, .int a5)]) dL_law_484 rfl (by decide) rfl ?_
                refine v_iinc C (k := 3) (v := (a3 + 1)) (lv' := [(3, .int (a3 + 1)), (2, .int 1), (0, .ref b), (1, .ref a1), (5, .int a5)]) dL_law_485 rfl rfl (by decide) rfl ?_
                refine v_goto C (tgt := 32) dL_law_488 (by decide) ?_
                refine v_sub [2, 3, 1, 0] rfl ?_
                exact H32 _ _ _ _ h _ _ ⟨show ((kc + 1) + 20) + T ≤ 600104 by omega, show ((ks + 6) + 120) + 6 * T ≤ 7301314 by omega⟩
          · have h := ite_t q h
            refine v_aload_n C 1 dL_law_438 rfl rfl ?_
            refine v_iload C 4 dL_law_439 rfl ?_
            refine v_iconst C (v := 4) dL_law_441 (by decide) ?_
            refine v_irem C dL_law_442 (by decide) ?_
            refine v_iload C 4 dL_law_443 rfl ?_
            refine v_iconst C (v := 5) dL_law_445 (by decide) ?_
            refine v_idiv C dL_law_446 (by decide) ?_
            refine v_at (pc' := 447) rfl ?_
            refine v_bipush C (v := 64) dL_law_447 (by decide) ?_
            refine v_irem C dL_law_449 (by decide) ?_
            refine v_iload C 4 dL_law_450 rfl ?_
            refine v_sipush C (v := 320) dL_law_452 (by decide) ?_
            refine v_idiv C dL_law_455 (by decide) ?_
            refine v_bipush C (v := 64) dL_law_456 (by decide) ?_
            refine v_irem C dL_law_458 (by decide) ?_
            obtain ⟨z5, e_z5, h⟩ := bnd h
            refine v_callSi C (av := [.ref a1, .int (jrm a5 4), .int (jrm (a5 / 5) 64), .int (jrm (a5 / 320) 64)]) (rest := []) gL_law_L_isGone rfl ⟨rfl, rfl⟩ hS_L_isGone ⟨(Nat.le_of_ble_eq_true rfl), (Nat.le_of_ble_eq_true rfl)⟩ (r_L_isGone (A := (fun q => s.heap.size ≤ q)) e_z5) rfl rfl (Nat.le_of_ble_eq_true rfl) dL_law_459 (hk := ⟨show (kc + 1) ≤ 600104 by omega, show (ks + 6) ≤ 7301314 by omega⟩) ?_
            refine v_at (pc' := 462) rfl ?_
            refine v_if_eq C (tgt := 483) dL_law_462 (by decide) (fun q => ?_) (fun q => ?_)
            · have h := ite_t q h
              refine v_iconst C (v := 0) dL_law_483 (by decide) ?_
              refine v_istore_n C (lv' := [(2, .int 0), (0, .ref b), (1, .ref a1), (3, .int a3), (5, .int a5)]) dL_law_484 rfl (by decide) rfl ?_
              refine v_iinc C (k := 3) (v := (a3 + 1)) (lv' := [(3, .int (a3 + 1)), (2, .int 0), (0, .ref b), (1, .ref a1), (5, .int a5)]) dL_law_485 rfl rfl (by decide) rfl ?_
              refine v_goto C (tgt := 32) dL_law_488 (by decide) ?_
              refine v_sub [2, 3, 1, 0] rfl ?_
              exact H32 _ _ _ _ h _ _ ⟨show (kc + 1) + T ≤ 600104 by omega, show (ks + 6) + 6 * T ≤ 7301314 by omega⟩
            · have h := ite_f q h
              refine v_iload_n C 3 dL_law_465 rfl rfl ?_
              refine v_iconst C (v := 5) dL_law_466 (by decide) ?_
              refine v_irem C dL_law_467 (by decide) ?_
              refine v_iconst C (v := 3) dL_law_468 (by decide) ?_
              refine v_icmp_ne C (tgt := 479) dL_law_469 (by decide) (fun q => ?_) (fun q => ?_)
              · have h := ite_f q h
                refine v_iconst C (v := 1) dL_law_479 (by decide) ?_
                refine v_goto C (tgt := 484) dL_law_480 (by decide) ?_
                refine v_istore_n C (lv' := [(2, .int 1), (0, .ref b), (1, .ref a1), (3, .int a3), (5, .int a5)]) dL_law_484 rfl (by decide) rfl ?_
                refine v_iinc C (k := 3) (v := (a3 + 1)) (lv' := [(3, .int (a3 + 1)), (2, .int 1), (0, .ref b), (1, .ref a1), (5, .int a5)]) dL_law_485 rfl rfl (by decide) rfl ?_
                refine v_goto C (tgt := 32) dL_law_488 (by decide) ?_
                refine v_sub [2, 3, 1, 0] rfl ?_
                exact H32 _ _ _ _ h _ _ ⟨show (kc + 1) + T ≤ 600104 by omega, show (ks + 6) + 6 * T ≤ 7301314 by omega⟩
              · have h := ite_t q h
                refine v_aload_n C 1 dL_law_472 rfl rfl ?_
                obtain ⟨z6, e_z6, h⟩ := bnd h
                refine v_callSK C (av := [.ref a1]) (rest := []) gL_law_L_refused rfl ⟨rfl, rfl⟩ hS_L_refused ⟨(Nat.le_of_ble_eq_true rfl), (Nat.le_of_ble_eq_true rfl)⟩ (r_L_refused (A := fun q => s.heap.size ≤ q) hst e_z6) rfl rfl (Nat.le_of_ble_eq_true rfl) dL_law_473 (hk := ⟨show (kc + 1) + 20 ≤ 600104 by omega, show (ks + 6) + 120 ≤ 7301314 by omega⟩) ?_
                refine v_if_eq C (tgt := 483) dL_law_476 (by decide) (fun q => ?_) (fun q => ?_)
                · have h := ite_t q h
                  refine v_iconst C (v := 0) dL_law_483 (by decide) ?_
                  refine v_istore_n C (lv' := [(2, .int 0), (0, .ref b), (1, .ref a1), (3, .int a3), (5, .int a5)]) dL_law_484 rfl (by decide) rfl ?_
                  refine v_iinc C (k := 3) (v := (a3 + 1)) (lv' := [(3, .int (a3 + 1)), (2, .int 0), (0, .ref b), (1, .ref a1), (5, .int a5)]) dL_law_485 rfl rfl (by decide) rfl ?_
                  refine v_goto C (tgt := 32) dL_law_488 (by decide) ?_
                  refine v_sub [2, 3, 1, 0] rfl ?_
                  exact H32 _ _ _ _ h _ _ ⟨show ((kc + 1) + 20) + T ≤ 600104 by omega, show ((ks + 6) + 120) + 6 * T ≤ 7301314 by omega⟩
                · have h := ite_f q h
                  refine v_iconst C (v := 1) dL_law_479 (by decide) ?_
                  refine v_goto C (tgt := 484) dL_law_480 (by decide) ?_
                  refine v_istore_n C (lv' := [(2, .int 1), (0, .ref b), (1, .ref a1), (3, .int a3), (5, .int a5)]) dL_law_484 rfl (by decide) rfl ?_
                  refine v_iinc C (k := 3) (v := (a3 + 1)) (lv' := [(3, .int (a3 + 1)), (2, .int 1), (0, .ref b), (1, .ref a1), (5, .int a5)]) dL_law_485 rfl rfl (by decide) rfl ?_
                  refine v_goto C (tgt := 32) dL_law_488 (by decide) ?_
                  refine v_sub [2, 3, 1, 0] rfl ?_
                  exact H32 _ _ _ _ h _ _ ⟨show ((kc + 1) + 20) + T ≤ 600104 by omega, show ((ks + 6) + 120) + 6 * T ≤ 7301314 by omega⟩
set_option maxRecDepth 100000 in
set_option maxHeartbeats 4000000 in
theorem r_L_law_p342 {p : Program} {l : Launch} {e : Env} {s : State} {m : MethodId} {below : List Frame} {meth : Method} {c : Code} {G : GG} {b L : Nat} {xs : Nat → Int32} (hL : L ≤ 260) (hst : l.stackTraces = false) (C0 : lw_At p s m meth c b L xs) (C : Cx p s m #[Value.ref b] meth c G (fun q => s.heap.size ≤ q) cL_law 11 RL wsL_law ret) (n : Nat) (T : Nat) (hT : 20 ≤ T) {k32 : Wd → Nat → Nat → Int32 → Int32 → Option (Int32 × Wd)} {z : (Int32 × Wd)} (hz : z.1 = 1) (H32 : ∀ (w : Wd) (b1 : Nat) (b2 : Int32) (b3 : Int32), k32 w b b1 b2 b3 = some z → ∀ kc ks : Nat, kc + T ≤ 600104 ∧ ks + 6 * T ≤ 7301314 → VQ p l e room_1 s m #[Value.ref b] below meth c G (fun q => s.heap.size ≤ q) 11 kc ks (lw_Z below #[Value.ref b] s) 32 [(0, .ref b), (1, .ref b1), (2, .int b2), (3, .int b3)] [] w) : ∀ (t : Nat), ∀ (w : Wd) (a1 : Nat) (a2 : Int32) (a3 : Int32) (a5 : Int32) (a10 : Int32), m_L_law_p342 L xs n k32 t w b a1 a2 a3 a5 a10 = some z → ∀ kc ks : Nat, kc + (T + 21) ≤ 600104 ∧ ks + 6 * (T + 21) ≤ 7301314 → VQ p l e room_1 s m #[Value.ref b] below meth c G (fun q => s.heap.size ≤ q) 11 kc ks (lw_Z below #[Value.ref b] s) 342 [(0, .ref b), (1, .ref a1), (2, .int a2), (3, .int a3), (5, .int a5), (10, .int a10)] [] w := by
  intro t
  induction t with
  | zero =>
    intro w a1 a2 a3 a5 a10 h kc ks hk
    rw [m_L_law_p342] at h
    cases h
  | succ t ih =>
    intro w a1 a2 a3 a5 a10 h kc ks hk
    rw [m_L_law_p342] at h
    refine v_iload C 5 dL_law_342 rfl ?_
    refine v_iconst C (v := 5) dL_law_344 (by decide) ?_
    refine v_icmp_ge C (tgt := 365) dL_law_345 (by decide) (fun q => ?_) (fun q => ?_)
    · have h := ite_t q h
      refine v_sub [0, 1, 2, 3, 4] rfl ?_
      exact r_L_law_p365 hL hst C0 C n T (by omega) hz H32 _ _ _ _ _ h _ _ ⟨show kc + (T + 21) ≤ 600104 by omega, show ks + 6 * (T + 21) ≤ 7301314 by omega⟩
    · have h := ite_f q h
      refine v_iload_n C 2 dL_law_348 rfl rfl ?_
      refine v_if_eq C (tgt := 365) dL_law_349 (by decide) (fun q => ?_) (fun q => ?_)
      · have h := ite_t q h
        refine v_sub [0, 1, 2, 3, 4] rfl ?_
        exact r_L_law_p365 hL hst C0 C n T (by omega) hz H32 _ _ _ _ _ h _ _ ⟨show kc + (T + 21) ≤ 600104 by omega, show ks + 6 * (T + 21) ≤ 7301314 by omega⟩
      · have h := ite_f q h
        refine v_aload_n C 1 dL_law_352 rfl rfl ?_
        refine v_iload C 5 dL_law_353 rfl ?_
        obtain ⟨x1, e_x1, h⟩ := bnd h
        refine v_callSi C (av := [.ref a1, .int a10]) (rest := []) gL_law_L_areNodes rfl ⟨rfl, rfl⟩ hS_L_areNodes ⟨(Nat.le_of_ble_eq_true rfl), (Nat.le_of_ble_eq_true rfl)⟩ (r_L_areNodes (A := (fun q => s.heap.size ≤ q)) e_x1) rfl rfl (Nat.le_of_ble_eq_true rfl) dL_law_355 (hk := ⟨show kc ≤ 600104 by omega, show ks ≤ 7301314 by omega⟩) ?_
        refine v_istore_n C (lv' := [(2, .int x1), (0, .ref b), (1, .ref a1), (3, .int a3), (5, .int a5), (10, .int a10)]) dL_law_358 rfl (by decide) rfl ?_
        refine v_iinc C (k := 5) (v := (a10 + 1)) (lv' := [(10, .int (a10 + 1)), (2, .int x1), (0, .ref b), (1, .ref a1), (3, .int a3), (5, .int a5)]) dL_law_359 rfl rfl (by decide) rfl ?_
        refine v_goto C (tgt := 342) dL_law_362 (by decide) ?_
        refine v_sub [2, 3, 1, 4, 5, 0] rfl ?_
        exact ih _ _ _ _ _ _ h _ _ ⟨show kc + (T + 21) ≤ 600104 by omega, show ks + 6 * (T + 21) ≤ 7301314 by omega⟩
set_option maxRecDepth 100000 in
set_option maxHeartbeats 4000000 in
theorem r_L_law_p291 {p : Program} {l : Launch} {e : Env} {s : State} {m : MethodId} {below : List Frame} {meth : Method} {c : Code} {G : GG} {b L : Nat} {xs : Nat → Int32} (hL : L ≤ 260) (hst : l.stackTraces = false) (C0 : lw_At p s m meth c b L xs) (C : Cx p s m #[Value.ref b] meth c G (fun q => s.heap.size ≤ q) cL_law 11 RL wsL_law ret) (n : Nat) (T : Nat) (hT : 20 ≤ T) {k32 : Wd → Nat → Nat → Int32 → Int32 → Option (Int32 × Wd)} {z : (Int32 × Wd)} (hz : z.1 = 1) (H32 : ∀ (w : Wd) (b1 : Nat) (b2 : Int32) (b3 : Int32), k32 w b b1 b2 b3 = some z → ∀ kc ks : Nat, kc + T ≤ 600104 ∧ ks + 6 * T ≤ 7301314 → VQ p l e room_1 s m #[Value.ref b] below meth c G (fun q => s.heap.size ≤ q) 11 kc ks (lw_Z below #[Value.ref b] s) 32 [(0, .ref b), (1, .ref b1), (2, .int b2), (3, .int b3)] [] w) : ∀ (w : Wd) (a1 : Nat) (a3 : Int32) (a4 : Int32) (a5 : Int32) (a7 : Int64) (a9 : Int32), m_L_law_p291 L xs n k32 w b a1 a3 a4 a5 a7 a9 = some z → ∀ kc ks : Nat, kc + (T + 22) ≤ 600104 ∧ ks + 6 * (T + 22) ≤ 7301314 → VQ p l e room_1 s m #[Value.ref b] below meth c G (fun q => s.heap.size ≤ q) 11 kc ks (lw_Z below #[Value.ref b] s) 291 [(0, .ref b), (1, .ref a1), (3, .int a3), (4, .int a4), (5, .int a5), (7, .long a7), (9, .int a9)] [] w := by
  intro w a1 a3 a4 a5 a7 a9 h kc ks hk
  unfold m_L_law_p291 at h
  refine v_iconst C (v := 1) dL_law_291 (by decide) ?_
  refine v_goto C (tgt := 296) dL_law_292 (by decide) ?_
  refine v_istore_n C (lv' := [(2, .int 1), (0, .ref b), (1, .ref a1), (3, .int a3), (4, .int a4), (5, .int a5), (7, .long a7), (9, .int a9)]) dL_law_296 rfl (by decide) rfl ?_
  refine v_iload_n C 0 dL_law_297 rfl rfl ?_
  refine v_if_eq C (tgt := 339) dL_law_298 (by decide) (fun q => absurd q (by decide)) (fun _ => ?_)
  refine v_iload C 7 dL_law_301 rfl ?_
  refine v_if_lt C (tgt := 339) dL_law_303 (by decide) (fun q => ?_) (fun q => ?_)
  · have h := ite_t q h
    refine v_iconst C (v := 0) dL_law_339 (by decide) ?_
    refine v_istore C (lv' := [(10, .int 0), (2, .int 1), (0, .ref b), (1, .ref a1), (3, .int a3), (4, .int a4), (5, .int a5), (7, .long a7), (9, .int a9)]) dL_law_340 (by decide) rfl ?_
    refine v_sub [2, 3, 1, 4, 6, 0] rfl ?_
    exact r_L_law_p342 hL hst C0 C n T (by omega) hz H32 n _ _ _ _ _ _ h _ _ ⟨show kc + (T + 21) ≤ 600104 by omega, show ks + 6 * (T + 21) ≤ 7301314 by omega⟩
  · have h := ite_f q h
    refine v_iload C 4 dL_law_306 rfl ?_
    refine v_bipush C (v := 25) dL_law_308 (by decide) ?_
    refine v_ishr C dL_law_310 ?_
    refine v_iconst C (v := 3) dL_law_311 (by decide) ?_
    refine v_iand C dL_law_312 ?_
    refine v_if_ne C (tgt := 339) dL_law_313 (by decide) (fun q => ?_) (fun q => ?_)
    · have h := ite_f q h
      refine v_iconst C (v := 0) dL_law_339 (by decide) ?_
      refine v_istore C (lv' := [(10, .int 0), (2, .int 1), (0, .ref b), (1, .ref a1), (3, .int a3), (4, .int a4), (5, .int a5), (7, .long a7), (9, .int a9)]) dL_law_340 (by decide) rfl ?_
      refine v_sub [2, 3, 1, 4, 6, 0] rfl ?_
      exact r_L_law_p342 hL hst C0 C n T (by omega) hz H32 n _ _ _ _ _ _ h _ _ ⟨show kc + (T + 21) ≤ 600104 by omega, show ks + 6 * (T + 21) ≤ 7301314 by omega⟩
    · have h := ite_t q h
      refine v_aload_n C 2 dL_law_316 rfl rfl ?_
      obtain ⟨z1, e_z1, h⟩ := bnd h
      refine v_callSW C (av := [.ref a1]) (rest := []) gL_law_L_undo rfl ⟨rfl, rfl⟩ hS_L_undo ⟨(Nat.le_of_ble_eq_true rfl), (Nat.le_of_ble_eq_true rfl)⟩ (r_L_undo (A := fun q => s.heap.size ≤ q) hst e_z1) rfl rfl (Nat.le_of_ble_eq_true rfl) dL_law_317 (hk := ⟨show kc + 1 ≤ 600104 by omega, show ks + 6 ≤ 7301314 by omega⟩) ?_
      refine v_if_lt C (tgt := 337) dL_law_320 (by decide) (fun q => ?_) (fun q => ?_)
      · have h := ite_t q h
        refine v_iconst C (v := 0) dL_law_337 (by decide) ?_
        refine v_istore_n C (lv' := [(2, .int 0), (0, .ref b), (1, .ref a1), (3, .int a3), (4, .int a4), (5, .int a5), (7, .long a7), (9, .int a9)]) dL_law_338 rfl (by decide) rfl ?_
        refine v_iconst C (v := 0) dL_law_339 (by decide) ?_
        refine v_istore C (lv' := [(10, .int 0), (2, .int 0), (0, .ref b), (1, .ref a1), (3, .int a3), (4, .int a4), (5, .int a5), (7, .long a7), (9, .int a9)]) dL_law_340 (by decide) rfl ?_
        refine v_sub [2, 3, 1, 4, 6, 0] rfl ?_
        exact r_L_law_p342 hL hst C0 C n T (by omega) hz H32 n _ _ _ _ _ _ h _ _ ⟨show (kc + 1) + (T + 21) ≤ 600104 by omega, show (ks + 6) + 6 * (T + 21) ≤ 7301314 by omega⟩
      · have h := ite_f q h
        refine v_aload_n C 2 dL_law_323 rfl rfl ?_
        obtain ⟨z2, e_z2, h⟩ := bnd h
        refine v_callSJ C (av := [.ref a1]) (rest := []) gL_law_L_print rfl ⟨rfl, rfl⟩ hS_L_print ⟨(Nat.le_of_ble_eq_true rfl), (Nat.le_of_ble_eq_true rfl)⟩ (r_L_print (A := (fun q => s.heap.size ≤ q)) e_z2) rfl rfl (Nat.le_of_ble_eq_true rfl) dL_law_324 (hk := ⟨show (kc + 1) ≤ 600104 by omega, show (ks + 6) ≤ 7301314 by omega⟩) ?_
        refine v_lload C 6 dL_law_327 rfl ?_
        refine v_lcmp C dL_law_329 ?_
        refine v_if_ne C (tgt := 337) dL_law_330 (by decide) (fun q => ?_) (fun q => ?_)
        · have h := ite_f q h
          refine v_iconst C (v := 0) dL_law_337 (by decide) ?_
          refine v_istore_n C (lv' := [(2, .int 0), (0, .ref b), (1, .ref a1), (3, .int a3), (4, .int a4), (5, .int a5), (7, .long a7), (9, .int a9)]) dL_law_338 rfl (by decide) rfl ?_
          refine v_iconst C (v := 0) dL_law_339 (by decide) ?_
          refine v_istore C (lv' := [(10, .int 0), (2, .int 0), (0, .ref b), (1, .ref a1), (3, .int a3), (4, .int a4), (5, .int a5), (7, .long a7), (9, .int a9)]) dL_law_340 (by decide) rfl ?_
          refine v_sub [2, 3, 1, 4, 6, 0] rfl ?_
          exact r_L_law_p342 hL hst C0 C n T (by omega) hz H32 n _ _ _ _ _ _ h _ _ ⟨show (kc + 1) + (T + 21) ≤ 600104 by omega, show (ks + 6) + 6 * (T + 21) ≤ 7301314 by omega⟩
        · have h := ite_t q h
          refine v_iconst C (v := 1) dL_law_333 (by decide) ?_
          refine v_goto C (tgt := 338) dL_law_334 (by decide) ?_
          refine v_istore_n C (lv' := [(2, .int 1), (0, .ref b), (1, .ref a1), (3, .int a3), (4, .int a4), (5, .int a5), (7, .long a7), (9, .int a9)]) dL_law_338 rfl (by decide) rfl ?_
          refine v_iconst C (v := 0) dL_law_339 (by decide) ?_
          refine v_istore C (lv' := [(10, .int 0), (2, .int 1), (0, .ref b), (1, .ref a1), (3, .int a3), (4, .int a4), (5, .int a5), (7, .long a7), (9, .int a9)]) dL_law_340 (by decide) rfl ?_
          refine v_sub [2, 3, 1, 4, 6, 0] rfl ?_
          exact r_L_law_p342 hL hst C0 C n T (by omega) hz H32 n _ _ _ _ _ _ h _ _ ⟨show (kc + 1) + (T + 21) ≤ 600104 by omega, show (ks + 6) + 6 * (T + 21) ≤ 7301314 by omega⟩
set_option maxRecDepth 100000 in
set_option maxHeartbeats 4000000 in
theorem r_L_law_p279 {p : Program} {l : Launch} {e : Env} {s : State} {m : MethodId} {below : List Frame} {meth : Method} {c : Code} {G : GG} {b L : Nat} {xs : Nat → Int32} (hL : L ≤ 260) (hst : l.stackTraces = false) (C0 : lw_At p s m meth c b L xs) (C : Cx p s m #[Value.ref b] meth c G (fun q => s.heap.size ≤ q) cL_law 11 RL wsL_law ret) (n : Nat) (T : Nat) (hT : 20 ≤ T) {k32 : Wd → Nat → Nat → Int32 → Int32 → Option (Int32 × Wd)} {z : (Int32 × Wd)} (hz : z.1 = 1) (H32 : ∀ (w : Wd) (b1 : Nat) (b2 : Int32) (b3 : Int32), k32 w b b1 b2 b3 = some z → ∀ kc ks : Nat, kc + T ≤ 600104 ∧ ks + 6 * T ≤ 7301314 → VQ p l e room_1 s m #[Value.ref b] below meth c G (fun q => s.heap.size ≤ q) 11 kc ks (lw_Z below #[Value.ref b] s) 32 [(0, .ref b), (1, .ref b1), (2, .int b2), (3, .int b3)] [] w) : ∀ (w : Wd) (a1 : Nat) (a3 : Int32) (a4 : Int32) (a5 : Int32) (a7 : Int64) (a9 : Int32), m_L_law_p279 L xs n k32 w b a1 a3 a4 a5 a7 a9 = some z → ∀ kc ks : Nat, kc + (T + 22) ≤ 600104 ∧ ks + 6 * (T + 22) ≤ 7301314 → VQ p l e room_1 s m #[Value.ref b] below meth c G (fun q => s.heap.size ≤ q) 11 kc ks (lw_Z below #[Value.ref b] s) 279 [(0, .ref b), (1, .ref a1), (3, .int a3), (4, .int a4), (5, .int a5), (7, .long a7), (9, .int a9)] [] w := by
  intro w a1 a3 a4 a5 a7 a9 h kc ks hk
  unfold m_L_law_p279 at h
  refine v_iload C 6 dL_law_279 rfl ?_
  refine v_if_ge C (tgt := 291) dL_law_281 (by decide) (fun q => ?_) (fun q => ?_)
  · have h := ite_t q h
    exact r_L_law_p291 hL hst C0 C n T (by omega) hz H32 _ _ _ _ _ _ _ h _ _ ⟨show kc + (T + 22) ≤ 600104 by omega, show ks + 6 * (T + 22) ≤ 7301314 by omega⟩
  · have h := ite_f q h
    refine v_iload C 6 dL_law_284 rfl ?_
    refine v_ldc C dL_law_286 cL_law_23 ?_
    refine v_icmp_ne C (tgt := 295) dL_law_288 (by decide) (fun q => ?_) (fun q => ?_)
    · have h := ite_f q h
      refine v_iconst C (v := 0) dL_law_295 (by decide) ?_
      refine v_istore_n C (lv' := [(2, .int 0), (0, .ref b), (1, .ref a1), (3, .int a3), (4, .int a4), (5, .int a5), (7, .long a7), (9, .int a9)]) dL_law_296 rfl (by decide) rfl ?_
      refine v_iload_n C 0 dL_law_297 rfl rfl ?_
      refine v_if_eq C (tgt := 339) dL_law_298 (by decide) (fun _ => ?_) (fun q => absurd (by decide) q)
      refine v_iconst C (v := 0) dL_law_339 (by decide) ?_
      refine v_istore C (lv' := [(10, .int 0), (2, .int 0), (0, .ref b), (1, .ref a1), (3, .int a3), (4, .int a4), (5, .int a5), (7, .long a7), (9, .int a9)]) dL_law_340 (by decide) rfl ?_
      refine v_sub [2, 3, 1, 4, 6, 0] rfl ?_
      exact r_L_law_p342 hL hst C0 C n T (by omega) hz H32 n _ _ _ _ _ _ h _ _ ⟨show kc + (T + 21) ≤ 600104 by omega, show ks + 6 * (T + 21) ≤ 7301314 by omega⟩
    · have h := ite_t q h
      exact r_L_law_p291 hL hst C0 C n T (by omega) hz H32 _ _ _ _ _ _ _ h _ _ ⟨show kc + (T + 22) ≤ 600104 by omega, show ks + 6 * (T + 22) ≤ 7301314 by omega⟩
set_option maxRecDepth 100000 in
set_option maxHeartbeats 4000000 in
theorem r_L_law_p491 {p : Program} {l : Launch} {e : Env} {s : State} {m : MethodId} {below : List Frame} {meth : Method} {c : Code} {G : GG} {b L : Nat} {xs : Nat → Int32} (hL : L ≤ 260) (hst : l.stackTraces = false) (C0 : lw_At p s m meth c b L xs) (C : Cx p s m #[Value.ref b] meth c G (fun q => s.heap.size ≤ q) cL_law 11 RL wsL_law ret) (n : Nat) (T : Nat) (hT : 20 ≤ T) {z : (Int32 × Wd)} (hz : z.1 = 1) : ∀ (w : Wd) (a1 : Nat) (a2 : Int32), m_L_law_p491 L xs n w a1 a2 = some z → ∀ kc ks : Nat, kc + (T + 0) ≤ 600104 ∧ ks + 6 * (T + 0) ≤ 7301314 → VQ p l e room_1 s m #[Value.ref b] below meth c G (fun q => s.heap.size ≤ q) 11 kc ks (lw_Z below #[Value.ref b] s) 491 [(1, .ref a1), (2, .int a2)] [] w := by
  intro w a1 a2 h kc ks hk
  unfold m_L_law_p491 at h
  refine v_iload_n C 1 dL_law_491 rfl rfl ?_
  refine v_if_eq C (tgt := 506) dL_law_492 (by decide) (fun q => ?_) (fun q => ?_)
  · have h := ite_t q h
    refine v_iconst C (v := 0) dL_law_506 (by decide) ?_
    obtain rfl := Option.some.inj h
    exact law_end C0 hz ⟨show kc ≤ 600104 by omega, show ks ≤ 7301314 by omega⟩ dL_law_507
  · have h := ite_f q h
    refine v_aload_n C 0 dL_law_495 rfl rfl ?_
    obtain ⟨z1, e_z1, h⟩ := bnd h
    refine v_callSK C (av := [.ref a1]) (rest := []) gL_law_L_refused rfl ⟨rfl, rfl⟩ hS_L_refused ⟨(Nat.le_of_ble_eq_true rfl), (Nat.le_of_ble_eq_true rfl)⟩ (r_L_refused (A := fun q => s.heap.size ≤ q) hst e_z1) rfl rfl (Nat.le_of_ble_eq_true rfl) dL_law_496 (hk := ⟨show kc + 20 ≤ 600104 by omega, show ks + 120 ≤ 7301314 by omega⟩) ?_
    refine v_if_eq C (tgt := 506) dL_law_499 (by decide) (fun q => ?_) (fun q => ?_)
    · have h := ite_t q h
      refine v_iconst C (v := 0) dL_law_506 (by decide) ?_
      obtain rfl := Option.some.inj h
      exact law_end C0 hz ⟨show (kc + 20) ≤ 600104 by omega, show (ks + 120) ≤ 7301314 by omega⟩ dL_law_507
    · have h := ite_f q h
      refine v_iconst C (v := 1) dL_law_502 (by decide) ?_
      refine v_goto C (tgt := 507) dL_law_503 (by decide) ?_
      obtain rfl := Option.some.inj h
      exact law_end C0 hz ⟨show (kc + 20) ≤ 600104 by omega, show (ks + 120) ≤ 7301314 by omega⟩ dL_law_507
set_option maxRecDepth 100000 in
set_option maxHeartbeats 4000000 in
theorem r_L_law_p32 {p : Program} {l : Launch} {e : Env} {s : State} {m : MethodId} {below : List Frame} {meth : Method} {c : Code} {G : GG} {b L : Nat} {xs : Nat → Int32} (hL : L ≤ 260) (hst : l.stackTraces = false) (C0 : lw_At p s m meth c b L xs) (C : Cx p s m #[Value.ref b] meth c G (fun q => s.heap.size ≤ q) cL_law 11 RL wsL_law ret) (n : Nat) {z : (Int32 × Wd)} (hz : z.1 = 1) : ∀ (t : Nat), ∀ (w : Wd) (a1 : Nat) (a2 : Int32) (a3 : Int32), m_L_law_p32 L xs n t w b a1 a2 a3 = some z → ∀ kc ks : Nat, kc + (23 * t + 20) ≤ 600104 ∧ ks + 6 * (23 * t + 20) ≤ 7301314 → VQ p l e room_1 s m #[Value.ref b] below meth c G (fun q => s.heap.size ≤ q) 11 kc ks (lw_Z below #[Value.ref b] s) 32 [(0, .ref b), (1, .ref a1), (2, .int a2), (3, .int a3)] [] w := by
  intro t
  induction t with
  | zero =>
    intro w a1 a2 a3 h kc ks hk
    rw [m_L_law_p32] at h
    cases h
  | succ t ih =>
    intro w a1 a2 a3 h kc ks hk
    rw [m_L_law_p32] at h
    refine v_iload_n C 3 dL_law_32 rfl rfl ?_
    refine v_bipush C (v := 16) dL_law_33 (by decide) ?_
    refine v_icmp_ge C (tgt := 491) dL_law_35 (by decide) (fun q => ?_) (fun q => ?_)
    · have h := ite_t q h
      refine v_sub [1, 2] rfl ?_
      exact r_L_law_p491 hL hst C0 C n (23 * t + 20) (by omega) hz _ _ _ h _ _ ⟨show kc + ((23 * t + 20) + 0) ≤ 600104 by omega, show ks + 6 * ((23 * t + 20) + 0) ≤ 7301314 by omega⟩
    · have h := ite_f q h
      refine v_iload_n C 2 dL_law_38 rfl rfl ?_
      refine v_if_eq C (tgt := 491) dL_law_39 (by decide) (fun q => ?_) (fun q => ?_)
      · have h := ite_t q h
        refine v_sub [1, 2] rfl ?_
        exact r_L_law_p491 hL hst C0 C n (23 * t + 20) (by omega) hz _ _ _ h _ _ ⟨show kc + ((23 * t + 20) + 0) ≤ 600104 by omega, show ks + 6 * ((23 * t + 20) + 0) ≤ 7301314 by omega⟩
      · have h := ite_f q h
        refine v_aload_n C 0 dL_law_42 rfl rfl ?_
        refine v_iload_n C 3 dL_law_43 rfl rfl ?_
        obtain ⟨x1, e_x1, h⟩ := bnd h
        refine v_cell hL C C0 (rest := []) e_x1 (Nat.le_of_ble_eq_true rfl) rfl dL_law_44 (hk := ⟨show kc ≤ 600104 by omega, show ks ≤ 7301314 by omega⟩) ?_
        refine v_istore C (lv' := [(4, .int x1), (0, .ref b), (1, .ref a1), (2, .int a2), (3, .int a3)]) dL_law_47 (by decide) rfl ?_
        refine v_iload C 0 dL_law_49 rfl ?_
        refine v_iconst C (v := 4) dL_law_51 (by decide) ?_
        refine v_ishr C dL_law_52 ?_
        refine v_at (pc' := 53) rfl ?_
        refine v_ldc C dL_law_53 cL_law_159 ?_
        obtain ⟨x2, e_x2, h⟩ := bnd h
        refine v_callSi C (av := [.int (x1 >>> (4 &&& 31 : Int32)), .int 10000000]) (rest := []) gL_law_L_low rfl ⟨rfl, rfl⟩ hS_L_low ⟨(Nat.le_of_ble_eq_true rfl), (Nat.le_of_ble_eq_true rfl)⟩ (r_L_low (A := (fun q => s.heap.size ≤ q)) e_x2) rfl rfl (Nat.le_of_ble_eq_true rfl) dL_law_55 (hk := ⟨show kc ≤ 600104 by omega, show ks ≤ 7301314 by omega⟩) ?_
        refine v_istore C (lv' := [(5, .int x2), (4, .int x1), (0, .ref b), (1, .ref a1), (2, .int a2), (3, .int a3)]) dL_law_58 (by decide) rfl ?_
        refine v_iload C 0 dL_law_60 rfl ?_
        refine v_bipush C (v := 24) dL_law_62 (by decide) ?_
        refine v_irem C dL_law_64 (by decide) ?_
        refine v_istore C (lv' := [(6, .int (jrm x2 24)), (5, .int x2), (4, .int x1), (0, .ref b), (1, .ref a1), (2, .int a2), (3, .int a3)]) dL_law_65 (by decide) rfl ?_
        refine v_aload_n C 4 dL_law_67 rfl rfl ?_
        refine v_at (pc' := 68) rfl ?_
        obtain ⟨z3, e_z3, h⟩ := bnd h
        refine v_callSJ C (av := [.ref a1]) (rest := []) gL_law_L_print rfl ⟨rfl, rfl⟩ hS_L_print ⟨(Nat.le_of_ble_eq_true rfl), (Nat.le_of_ble_eq_true rfl)⟩ (r_L_print (A := (fun q => s.heap.size ≤ q)) e_z3) rfl rfl (Nat.le_of_ble_eq_true rfl) dL_law_68 (hk := ⟨show kc ≤ 600104 by omega, show ks ≤ 7301314 by omega⟩) ?_
        refine v_lstore C (lv' := [(7, .long z3), (6, .int (jrm x2 24)), (5, .int x2), (4, .int x1), (0, .ref b), (1, .ref a1), (2, .int a2), (3, .int a3)]) dL_law_71 (by decide) rfl ?_
        refine v_iconst C (v := 0) dL_law_73 (by decide) ?_
        refine v_istore C (lv' := [(9, .int 0), (7, .long z3), (6, .int (jrm x2 24)), (5, .int x2), (4, .int x1), (0, .ref b), (1, .ref a1), (2, .int a2), (3, .int a3)]) dL_law_74 (by decide) rfl ?_
        refine v_iload C 4 dL_law_76 rfl ?_
        refine v_bipush C (v := 8) dL_law_78 (by decide) ?_
        obtain ⟨x4, e_x4, h⟩ := bnd h
        refine v_callSi C (av := [.int x1, .int 8]) (rest := []) gL_law_L_low rfl ⟨rfl, rfl⟩ hS_L_low ⟨(Nat.le_of_ble_eq_true rfl), (Nat.le_of_ble_eq_true rfl)⟩ (r_L_low (A := (fun q => s.heap.size ≤ q)) e_x4) rfl rfl (Nat.le_of_ble_eq_true rfl) dL_law_80 (hk := ⟨show kc ≤ 600104 by omega, show ks ≤ 7301314 by omega⟩) ?_
        by_cases q5 : x4 = 0
        · have h := ite_t q5 h
          refine v_tabIn C 0 41 124 dL_law_83 q5 (by decide) (by decide) rfl (by decide) ?_
          refine v_aload_n C 6 dL_law_124 rfl rfl ?_
          refine v_iload C 2 dL_law_125 rfl ?_
          refine v_iconst C (v := 1) dL_law_127 (by decide) ?_
          refine v_iload C 3 dL_law_128 rfl ?_
          refine v_bipush C (v := 24) dL_law_130 (by decide) ?_
          refine v_idiv C dL_law_132 (by decide) ?_
          refine v_bipush C (v := 24) dL_law_133 (by decide) ?_
          refine v_at (pc' := 135) rfl ?_
          refine v_iload C 2 dL_law_135 rfl ?_
          refine v_isub C dL_law_137 ?_
          obtain ⟨x6, e_x6, h⟩ := bnd h
          refine v_iremR C dL_law_138 e_x6 ?_
          refine v_iadd C dL_law_139 ?_
          refine v_iconst C (v := 1) dL_law_140 (by decide) ?_
          refine v_iload C 3 dL_law_141 rfl ?_
          refine v_sipush C (v := 500) dL_law_143 (by decide) ?_
          refine v_idiv C dL_law_146 (by decide) ?_
          refine v_at (pc' := 147) rfl ?_
          refine v_bipush C (v := 64) dL_law_147 (by decide) ?_
          refine v_irem C dL_law_149 (by decide) ?_
          refine v_iadd C dL_law_150 ?_
          refine v_iload C 3 dL_law_151 rfl ?_
          refine v_ldc C dL_law_153 cL_law_163 ?_
          refine v_irem C dL_law_155 (by decide) ?_
          obtain ⟨z7, e_z7, h⟩ := bnd h
          refine v_callSW C (av := [.ref a1, .int (jrm x2 24), .int (1 + x6), .int (1 + (jrm (x2 / 500) 64)), .int (jrm x2 1000000)]) (rest := []) gL_law_L_scatter rfl ⟨rfl, rfl⟩ hS_L_scatter ⟨(Nat.le_of_ble_eq_true rfl), (Nat.le_of_ble_eq_true rfl)⟩ (r_L_scatter (A := fun q => s.heap.size ≤ q) hst e_z7) rfl rfl (Nat.le_of_ble_eq_true rfl) dL_law_156 (hk := ⟨show kc + 1 ≤ 600104 by omega, show ks + 6 ≤ 7301314 by omega⟩) ?_
          refine v_istore C (lv' := [(9, .int z7.1), (7, .long z3), (6, .int (jrm x2 24)), (5, .int x2), (4, .int x1), (0, .ref b), (1, .ref a1), (2, .int a2), (3, .int a3)]) dL_law_159 (by decide) rfl ?_
          refine v_at (pc' := 161) rfl ?_
          refine v_goto C (tgt := 279) dL_law_161 (by decide) ?_
          refine v_sub [5, 6, 8, 4, 3, 1, 0] rfl ?_
          exact r_L_law_p279 hL hst C0 C n (23 * t + 20) (by omega) hz ih _ _ _ _ _ _ _ h _ _ ⟨show (kc + 1) + ((23 * t + 20) + 22) ≤ 600104 by omega, show (ks + 6) + 6 * ((23 * t + 20) + 22) ≤ 7301314 by omega⟩
        have h := ite_f q5 h
        by_cases q8 : x4 = 1
        · have h := ite_t q8 h
          refine v_tabIn C 1 41 124 dL_law_83 q8 (by decide) (by decide) rfl (by decide) ?_
          refine v_aload_n C 6 dL_law_124 rfl rfl ?_
          refine v_iload C 2 dL_law_125 rfl ?_
          refine v_iconst C (v := 1) dL_law_127 (by decide) ?_
          refine v_iload C 3 dL_law_128 rfl ?_
          refine v_bipush C (v := 24) dL_law_130 (by decide) ?_
          refine v_idiv C dL_law_132 (by decide) ?_
          refine v_bipush C (v := 24) dL_law_133 (by decide) ?_
          refine v_at (pc' := 135) rfl ?_
          refine v_iload C 2 dL_law_135 rfl ?_
          refine v_isub C dL_law_137 ?_
          obtain ⟨x9, e_x9, h⟩ := bnd h
          refine v_iremR C dL_law_138 e_x9 ?_
          refine v_iadd C dL_law_139 ?_
          refine v_iconst C (v := 1) dL_law_140 (by decide) ?_
          refine v_iload C 3 dL_law_141 rfl ?_
          refine v_sipush C (v := 500) dL_law_143 (by decide) ?_
          refine v_idiv C dL_law_146 (by decide) ?_
          refine v_at (pc' := 147) rfl ?_
          refine v_bipush C (v := 64) dL_law_147 (by decide) ?_
          refine v_irem C dL_law_149 (by decide) ?_
          refine v_iadd C dL_law_150 ?_
          refine v_iload C 3 dL_law_151 rfl ?_
          refine v_ldc C dL_law_153 cL_law_163 ?_
          refine v_irem C dL_law_155 (by decide) ?_
          obtain ⟨z10, e_z10, h⟩ := bnd h
          refine v_callSW C (av := [.ref a1, .int (jrm x2 24), .int (1 + x9), .int (1 + (jrm (x2 / 500) 64)), .int (jrm x2 1000000)]) (rest := []) gL_law_L_scatter rfl ⟨rfl, rfl⟩ hS_L_scatter ⟨(Nat.le_of_ble_eq_true rfl), (Nat.le_of_ble_eq_true rfl)⟩ (r_L_scatter (A := fun q => s.heap.size ≤ q) hst e_z10) rfl rfl (Nat.le_of_ble_eq_true rfl) dL_law_156 (hk := ⟨show kc + 1 ≤ 600104 by omega, show ks + 6 ≤ 7301314 by omega⟩) ?_
          refine v_istore C (lv' := [(9, .int z10.1), (7, .long z3), (6, .int (jrm x2 24)), (5, .int x2), (4, .int x1), (0, .ref b), (1, .ref a1), (2, .int a2), (3, .int a3)]) dL_law_159 (by decide) rfl ?_
          refine v_at (pc' := 161) rfl ?_
          refine v_goto C (tgt := 279) dL_law_161 (by decide) ?_
          refine v_sub [5, 6, 8, 4, 3, 1, 0] rfl ?_
          exact r_L_law_p279 hL hst C0 C n (23 * t + 20) (by omega) hz ih _ _ _ _ _ _ _ h _ _ ⟨show (kc + 1) + ((23 * t + 20) + 22) ≤ 600104 by omega, show (ks + 6) + 6 * ((23 * t + 20) + 22) ≤ 7301314 by omega⟩
        have h := ite_f q8 h
        by_cases q11 : x4 = 2
        · have h := ite_t q11 h
          refine v_tabIn C 2 81 164 dL_law_83 q11 (by decide) (by decide) rfl (by decide) ?_
          refine v_aload_n C 6 dL_law_164 rfl rfl ?_
          refine v_iload C 2 dL_law_165 rfl ?_
          refine v_iload C 3 dL_law_167 rfl ?_
          refine v_bipush C (v := 24) dL_law_169 (by decide) ?_
          refine v_idiv C dL_law_171 (by decide) ?_
          refine v_bipush C (v := 64) dL_law_172 (by decide) ?_
          refine v_irem C dL_law_174 (by decide) ?_
          refine v_at (pc' := 175) rfl ?_
          refine v_iload C 3 dL_law_175 rfl ?_
          refine v_sipush C (v := 1536) dL_law_177 (by decide) ?_
          refine v_idiv C dL_law_180 (by decide) ?_
          refine v_bipush C (v := 64) dL_law_181 (by decide) ?_
          refine v_irem C dL_law_183 (by decide) ?_
          obtain ⟨z12, e_z12, h⟩ := bnd h
          refine v_callSW C (av := [.ref a1, .int (jrm x2 24), .int (jrm (x2 / 24) 64), .int (jrm (x2 / 1536) 64)]) (rest := []) gL_law_L_add rfl ⟨rfl, rfl⟩ hS_L_add ⟨(Nat.le_of_ble_eq_true rfl), (Nat.le_of_ble_eq_true rfl)⟩ (r_L_add (A := fun q => s.heap.size ≤ q) hst e_z12) rfl rfl (Nat.le_of_ble_eq_true rfl) dL_law_184 (hk := ⟨show kc + 1 ≤ 600104 by omega, show ks + 6 ≤ 7301314 by omega⟩) ?_
          refine v_istore C (lv' := [(9, .int z12.1), (7, .long z3), (6, .int (jrm x2 24)), (5, .int x2), (4, .int x1), (0, .ref b), (1, .ref a1), (2, .int a2), (3, .int a3)]) dL_law_187 (by decide) rfl ?_
          refine v_goto C (tgt := 279) dL_law_189 (by decide) ?_
          refine v_sub [5, 6, 8, 4, 3, 1, 0] rfl ?_
          exact r_L_law_p279 hL hst C0 C n (23 * t + 20) (by omega) hz ih _ _ _ _ _ _ _ h _ _ ⟨show (kc + 1) + ((23 * t + 20) + 22) ≤ 600104 by omega, show (ks + 6) + 6 * ((23 * t + 20) + 22) ≤ 7301314 by omega⟩
        have h := ite_f q11 h
        by_cases q13 : x4 = 3
        · have h := ite_t q13 h
          refine v_tabIn C 3 109 192 dL_law_83 q13 (by decide) (by decide) rfl (by decide) ?_
          refine v_aload_n C 6 dL_law_192 rfl rfl ?_
          refine v_iload C 2 dL_law_193 rfl ?_
          obtain ⟨z14, e_z14, h⟩ := bnd h
          refine v_callSW C (av := [.ref a1, .int (jrm x2 24)]) (rest := []) gL_law_L_remove rfl ⟨rfl, rfl⟩ hS_L_remove ⟨(Nat.le_of_ble_eq_true rfl), (Nat.le_of_ble_eq_true rfl)⟩ (r_L_remove (A := fun q => s.heap.size ≤ q) hst e_z14) rfl rfl (Nat.le_of_ble_eq_true rfl) dL_law_195 (hk := ⟨show kc + 1 ≤ 600104 by omega, show ks + 6 ≤ 7301314 by omega⟩) ?_
          refine v_istore C (lv' := [(9, .int z14.1), (7, .long z3), (6, .int (jrm x2 24)), (5, .int x2), (4, .int x1), (0, .ref b), (1, .ref a1), (2, .int a2), (3, .int a3)]) dL_law_198 (by decide) rfl ?_
          refine v_goto C (tgt := 279) dL_law_200 (by decide) ?_
          refine v_sub [5, 6, 8, 4, 3, 1, 0] rfl ?_
          exact r_L_law_p279 hL hst C0 C n (23 * t + 20) (by omega) hz ih _ _ _ _ _ _ _ h _ _ ⟨show (kc + 1) + ((23 * t + 20) + 22) ≤ 600104 by omega, show (ks + 6) + 6 * ((23 * t + 20) + 22) ≤ 7301314 by omega⟩
        have h := ite_f q13 h
        by_cases q15 : x4 = 4
        · have h := ite_t q15 h
          refine v_tabIn C 4 120 203 dL_law_83 q15 (by decide) (by decide) rfl (by decide) ?_
          refine v_aload_n C 6 dL_law_203 rfl rfl ?_
          refine v_iload C 2 dL_law_204 rfl ?_
          refine v_iload C 3 dL_law_206 rfl ?_
          refine v_bipush C (v := 24) dL_law_208 (by decide) ?_
          refine v_idiv C dL_law_210 (by decide) ?_
          refine v_bipush C (v := 19) dL_law_211 (by decide) ?_
          refine v_irem C dL_law_213 (by decide) ?_
          refine v_at (pc' := 214) rfl ?_
          refine v_bipush C (v := 9) dL_law_214 (by decide) ?_
          refine v_isub C dL_law_216 ?_
          refine v_iload C 3 dL_law_217 rfl ?_
          refine v_sipush C (v := 456) dL_law_219 (by decide) ?_
          refine v_idiv C dL_law_222 (by decide) ?_
          refine v_bipush C (v := 19) dL_law_223 (by decide) ?_
          refine v_irem C dL_law_225 (by decide) ?_
          refine v_bipush C (v := 9) dL_law_226 (by decide) ?_
          refine v_at (pc' := 228) rfl ?_
          refine v_isub C dL_law_228 ?_
          obtain ⟨z16, e_z16, h⟩ := bnd h
          refine v_callSW C (av := [.ref a1, .int (jrm x2 24), .int ((jrm (x2 / 24) 19) - 9), .int ((jrm (x2 / 456) 19) - 9)]) (rest := []) gL_law_L_setVelocity rfl ⟨rfl, rfl⟩ hS_L_setVelocity ⟨(Nat.le_of_ble_eq_true rfl), (Nat.le_of_ble_eq_true rfl)⟩ (r_L_setVelocity (A := fun q => s.heap.size ≤ q) hst e_z16) rfl rfl (Nat.le_of_ble_eq_true rfl) dL_law_229 (hk := ⟨show kc + 1 ≤ 600104 by omega, show ks + 6 ≤ 7301314 by omega⟩) ?_
          refine v_istore C (lv' := [(9, .int z16.1), (7, .long z3), (6, .int (jrm x2 24)), (5, .int x2), (4, .int x1), (0, .ref b), (1, .ref a1), (2, .int a2), (3, .int a3)]) dL_law_232 (by decide) rfl ?_
          refine v_goto C (tgt := 279) dL_law_234 (by decide) ?_
          refine v_sub [5, 6, 8, 4, 3, 1, 0] rfl ?_
          exact r_L_law_p279 hL hst C0 C n (23 * t + 20) (by omega) hz ih _ _ _ _ _ _ _ h _ _ ⟨show (kc + 1) + ((23 * t + 20) + 22) ≤ 600104 by omega, show (ks + 6) + 6 * ((23 * t + 20) + 22) ≤ 7301314 by omega⟩
        have h := ite_f q15 h
        by_cases q17 : x4 = 5
        · have h := ite_t q17 h
          refine v_tabIn C 5 120 203 dL_law_83 q17 (by decide) (by decide) rfl (by decide) ?_
          refine v_aload_n C 6 dL_law_203 rfl rfl ?_
          refine v_iload C 2 dL_law_204 rfl ?_
          refine v_iload C 3 dL_law_206 rfl ?_
          refine v_bipush C (v := 24) dL_law_208 (by decide) ?_
          refine v_idiv C dL_law_210 (by decide) ?_
          refine v_bipush C (v := 19) dL_law_211 (by decide) ?_
          refine v_irem C dL_law_213 (by decide) ?_
          refine v_at (pc' := 214) rfl ?_
          refine v_bipush C (v := 9) dL_law_214 (by decide) ?_
          refine v_isub C dL_law_216 ?_
          refine v_iload C 3 dL_law_217 rfl ?_
          refine v_sipush C (v := 456) dL_law_219 (by decide) ?_
          refine v_idiv C dL_law_222 (by decide) ?_
          refine v_bipush C (v := 19) dL_law_223 (by decide) ?_
          refine v_irem C dL_law_225 (by decide) ?_
          refine v_bipush C (v := 9) dL_law_226 (by decide) ?_
          refine v_at (pc' := 228) rfl ?_
          refine v_isub C dL_law_228 ?_
          obtain ⟨z18, e_z18, h⟩ := bnd h
          refine v_callSW C (av := [.ref a1, .int (jrm x2 24), .int ((jrm (x2 / 24) 19) - 9), .int ((jrm (x2 / 456) 19) - 9)]) (rest := []) gL_law_L_setVelocity rfl ⟨rfl, rfl⟩ hS_L_setVelocity ⟨(Nat.le_of_ble_eq_true rfl), (Nat.le_of_ble_eq_true rfl)⟩ (r_L_setVelocity (A := fun q => s.heap.size ≤ q) hst e_z18) rfl rfl (Nat.le_of_ble_eq_true rfl) dL_law_229 (hk := ⟨show kc + 1 ≤ 600104 by omega, show ks + 6 ≤ 7301314 by omega⟩) ?_
          refine v_istore C (lv' := [(9, .int z18.1), (7, .long z3), (6, .int (jrm x2 24)), (5, .int x2), (4, .int x1), (0, .ref b), (1, .ref a1), (2, .int a2), (3, .int a3)]) dL_law_232 (by decide) rfl ?_
          refine v_goto C (tgt := 279) dL_law_234 (by decide) ?_
          refine v_sub [5, 6, 8, 4, 3, 1, 0] rfl ?_
          exact r_L_law_p279 hL hst C0 C n (23 * t + 20) (by omega) hz ih _ _ _ _ _ _ _ h _ _ ⟨show (kc + 1) + ((23 * t + 20) + 22) ≤ 600104 by omega, show (ks + 6) + 6 * ((23 * t + 20) + 22) ≤ 7301314 by omega⟩
        have h := ite_f q17 h
        by_cases q19 : x4 = 6
        · have h := ite_t q19 h
          refine v_tabIn C 6 154 237 dL_law_83 q19 (by decide) (by decide) rfl (by decide) ?_
          refine v_aload_n C 6 dL_law_237 rfl rfl ?_
          refine v_iconst C (v := 1) dL_law_238 (by decide) ?_
          refine v_iload C 3 dL_law_239 rfl ?_
          refine v_bipush C (v := 9) dL_law_241 (by decide) ?_
          refine v_irem C dL_law_243 (by decide) ?_
          refine v_iadd C dL_law_244 ?_
          obtain ⟨z20, e_z20, h⟩ := bnd h
          refine v_callSW C (av := [.ref a1, .int (1 + (jrm x2 9))]) (rest := []) gL_law_L_tick rfl ⟨rfl, rfl⟩ hS_L_tick ⟨(Nat.le_of_ble_eq_true rfl), (Nat.le_of_ble_eq_true rfl)⟩ (r_L_tick (A := fun q => s.heap.size ≤ q) hst e_z20) rfl rfl (Nat.le_of_ble_eq_true rfl) dL_law_245 (hk := ⟨show kc + 1 ≤ 600104 by omega, show ks + 6 ≤ 7301314 by omega⟩) ?_
          refine v_at (pc' := 248) rfl ?_
          refine v_istore C (lv' := [(9, .int z20.1), (7, .long z3), (6, .int (jrm x2 24)), (5, .int x2), (4, .int x1), (0, .ref b), (1, .ref a1), (2, .int a2), (3, .int a3)]) dL_law_248 (by decide) rfl ?_
          refine v_goto C (tgt := 279) dL_law_250 (by decide) ?_
          refine v_sub [5, 6, 8, 4, 3, 1, 0] rfl ?_
          exact r_L_law_p279 hL hst C0 C n (23 * t + 20) (by omega) hz ih _ _ _ _ _ _ _ h _ _ ⟨show (kc + 1) + ((23 * t + 20) + 22) ≤ 600104 by omega, show (ks + 6) + 6 * ((23 * t + 20) + 22) ≤ 7301314 by omega⟩
        have h := ite_f q19 h
        have g_q5 := lv_neT q5 (a := 0) rfl
        have g_q8 := lv_neT q8 (a := 1) rfl
        have g_q11 := lv_neT q11 (a := 2) rfl
        have g_q13 := lv_neT q13 (a := 3) rfl
        have g_q15 := lv_neT q15 (a := 4) rfl
        have g_q17 := lv_neT q17 (a := 5) rfl
        have g_q19 := lv_neT q19 (a := 6) rfl
        refine v_tabOut C 253 dL_law_83 (by omega) (by decide) ?_
        refine v_aload_n C 6 dL_law_253 rfl rfl ?_
        refine v_iload C 3 dL_law_254 rfl ?_
        refine v_iconst C (v := 4) dL_law_256 (by decide) ?_
        refine v_irem C dL_law_257 (by decide) ?_
        refine v_iload C 3 dL_law_258 rfl ?_
        refine v_iconst C (v := 4) dL_law_260 (by decide) ?_
        refine v_idiv C dL_law_261 (by decide) ?_
        refine v_at (pc' := 262) rfl ?_
        refine v_bipush C (v := 64) dL_law_262 (by decide) ?_
        refine v_irem C dL_law_264 (by decide) ?_
        refine v_iload C 3 dL_law_265 rfl ?_
        refine v_sipush C (v := 256) dL_law_267 (by decide) ?_
        refine v_idiv C dL_law_270 (by decide) ?_
        refine v_bipush C (v := 64) dL_law_271 (by decide) ?_
        refine v_irem C dL_law_273 (by decide) ?_
        obtain ⟨z21, e_z21, h⟩ := bnd h
        refine v_callSW C (av := [.ref a1, .int (jrm x2 4), .int (jrm (x2 / 4) 64), .int (jrm (x2 / 256) 64)]) (rest := []) gL_law_L_open rfl ⟨rfl, rfl⟩ hS_L_open ⟨(Nat.le_of_ble_eq_true rfl), (Nat.le_of_ble_eq_true rfl)⟩ (r_L_open (A := fun q => s.heap.size ≤ q) hst e_z21) rfl rfl (Nat.le_of_ble_eq_true rfl) dL_law_274 (hk := ⟨show kc + 1 ≤ 600104 by omega, show ks + 6 ≤ 7301314 by omega⟩) ?_
        refine v_at (pc' := 277) rfl ?_
        refine v_istore C (lv' := [(9, .int z21.1), (7, .long z3), (6, .int (jrm x2 24)), (5, .int x2), (4, .int x1), (0, .ref b), (1, .ref a1), (2, .int a2), (3, .int a3)]) dL_law_277 (by decide) rfl ?_
        refine v_sub [5, 6, 8, 4, 3, 1, 0] rfl ?_
        exact r_L_law_p279 hL hst C0 C n (23 * t + 20) (by omega) hz ih _ _ _ _ _ _ _ h _ _ ⟨show (kc + 1) + ((23 * t + 20) + 22) ≤ 600104 by omega, show (ks + 6) + 6 * ((23 * t + 20) + 22) ≤ 7301314 by omega⟩
set_option maxRecDepth 100000 in
set_option maxHeartbeats 4000000 in
theorem r_L_law_p8 {p : Program} {l : Launch} {e : Env} {s : State} {m : MethodId} {below : List Frame} {meth : Method} {c : Code} {G : GG} {b L : Nat} {xs : Nat → Int32} (hL : L ≤ 260) (hst : l.stackTraces = false) (C0 : lw_At p s m meth c b L xs) (C : Cx p s m #[Value.ref b] meth c G (fun q => s.heap.size ≤ q) cL_law 11 RL wsL_law ret) (n : Nat) {z : (Int32 × Wd)} (hz : z.1 = 1) : ∀ (w : Wd) (a1 : Nat), m_L_law_p8 L xs n w b a1 = some z → ∀ kc ks : Nat, kc + (23 * n + 45) ≤ 600104 ∧ ks + 6 * (23 * n + 45) ≤ 7301314 → VQ p l e room_1 s m #[Value.ref b] below meth c G (fun q => s.heap.size ≤ q) 11 kc ks (lw_Z below #[Value.ref b] s) 8 [(0, .ref b), (1, .ref a1)] [] w := by
  intro w a1 h kc ks hk
  unfold m_L_law_p8 at h
  refine v_aload_n C 1 dL_law_8 rfl rfl ?_
  obtain ⟨z1, e_z1, h⟩ := bnd h
  refine v_callSW C (av := [.ref a1]) (rest := []) gL_law_L_undo rfl ⟨rfl, rfl⟩ hS_L_undo ⟨(Nat.le_of_ble_eq_true rfl), (Nat.le_of_ble_eq_true rfl)⟩ (r_L_undo (A := fun q => s.heap.size ≤ q) hst e_z1) rfl rfl (Nat.le_of_ble_eq_true rfl) dL_law_9 (hk := ⟨show kc + 1 ≤ 600104 by omega, show ks + 6 ≤ 7301314 by omega⟩) ?_
  refine v_ldc C dL_law_12 cL_law_23 ?_
  refine v_icmp_ne C (tgt := 28) dL_law_14 (by decide) (fun q => ?_) (fun q => ?_)
  · have h := ite_f q h
    refine v_iconst C (v := 0) dL_law_28 (by decide) ?_
    refine v_istore_n C (lv' := [(2, .int 0), (0, .ref b), (1, .ref a1)]) dL_law_29 rfl (by decide) rfl ?_
    refine v_iconst C (v := 0) dL_law_30 (by decide) ?_
    refine v_istore_n C (lv' := [(3, .int 0), (2, .int 0), (0, .ref b), (1, .ref a1)]) dL_law_31 rfl (by decide) rfl ?_
    refine v_sub [2, 3, 1, 0] rfl ?_
    exact r_L_law_p32 hL hst C0 C n hz n _ _ _ _ h _ _ ⟨show (kc + 1) + (23 * n + 20) ≤ 600104 by omega, show (ks + 6) + 6 * (23 * n + 20) ≤ 7301314 by omega⟩
  · have h := ite_t q h
    refine v_aload_n C 1 dL_law_17 rfl rfl ?_
    obtain ⟨z2, e_z2, h⟩ := bnd h
    refine v_callSK C (av := [.ref a1]) (rest := []) gL_law_L_refused rfl ⟨rfl, rfl⟩ hS_L_refused ⟨(Nat.le_of_ble_eq_true rfl), (Nat.le_of_ble_eq_true rfl)⟩ (r_L_refused (A := fun q => s.heap.size ≤ q) hst e_z2) rfl rfl (Nat.le_of_ble_eq_true rfl) dL_law_18 (hk := ⟨show (kc + 1) + 20 ≤ 600104 by omega, show (ks + 6) + 120 ≤ 7301314 by omega⟩) ?_
    refine v_if_eq C (tgt := 28) dL_law_21 (by decide) (fun q => ?_) (fun q => ?_)
    · have h := ite_t q h
      refine v_iconst C (v := 0) dL_law_28 (by decide) ?_
      refine v_istore_n C (lv' := [(2, .int 0), (0, .ref b), (1, .ref a1)]) dL_law_29 rfl (by decide) rfl ?_
      refine v_iconst C (v := 0) dL_law_30 (by decide) ?_
      refine v_istore_n C (lv' := [(3, .int 0), (2, .int 0), (0, .ref b), (1, .ref a1)]) dL_law_31 rfl (by decide) rfl ?_
      refine v_sub [2, 3, 1, 0] rfl ?_
      exact r_L_law_p32 hL hst C0 C n hz n _ _ _ _ h _ _ ⟨show ((kc + 1) + 20) + (23 * n + 20) ≤ 600104 by omega, show ((ks + 6) + 120) + 6 * (23 * n + 20) ≤ 7301314 by omega⟩
    · have h := ite_f q h
      refine v_iconst C (v := 1) dL_law_24 (by decide) ?_
      refine v_goto C (tgt := 29) dL_law_25 (by decide) ?_
      refine v_istore_n C (lv' := [(2, .int 1), (0, .ref b), (1, .ref a1)]) dL_law_29 rfl (by decide) rfl ?_
      refine v_iconst C (v := 0) dL_law_30 (by decide) ?_
      refine v_istore_n C (lv' := [(3, .int 0), (2, .int 1), (0, .ref b), (1, .ref a1)]) dL_law_31 rfl (by decide) rfl ?_
      refine v_sub [2, 3, 1, 0] rfl ?_
      exact r_L_law_p32 hL hst C0 C n hz n _ _ _ _ h _ _ ⟨show ((kc + 1) + 20) + (23 * n + 20) ≤ 600104 by omega, show ((ks + 6) + 120) + 6 * (23 * n + 20) ≤ 7301314 by omega⟩
