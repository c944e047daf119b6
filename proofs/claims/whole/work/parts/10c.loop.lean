/-! THE LAW'S LOOP over any invariant of the world that each of its cases keeps, and its start -/
theorem law_gt {L q : Nat} (hL : L ≤ 2560) (hq : q ≤ 2560) : (nI L - 5 < nI q) ↔ L < q + 5 := by
  have h1 : (nI L - nI 5).toInt = (L : Int) - (5 : Nat) := pk_sub_toInt (by omega) (by omega)
  have h2 : (nI q).toInt = (q : Int) := nI_toInt (by omega)
  rw [show (5 : Int32) = nI 5 from rfl, Int32.lt_iff_toInt_lt, h1, h2]
  omega
theorem law_ix {L q k : Nat} (hL : L ≤ 2560) (hq : q + 5 ≤ L) (hk : k < 5) : vp_in (nI q + nI k) L := by
  rw [nI_add]
  exact vp_in_nI (by omega) (by omega)
set_option maxRecDepth 100000 in
set_option maxHeartbeats 8000000 in
theorem law_loop {p : Program} {l : Launch} (hst : l.stackTraces = false) {e : Env} {s : State} {m : MethodId} {below : List Frame} {meth : Method} {c : Code} {G : GG} {b L : Nat} {xs : Nat → Int32} (hL : L ≤ 2560) (C0 : lw_At p s m meth c b L xs) (C : Cx p s m #[Value.ref b] meth c G (fun q => s.heap.size ≤ q) cL_law 7 RL wsL_law ret)
    {Inv : Wd → Prop} {n x mo ou : Nat}
    (H0 : ∀ (w : Wd) (i : Int32), Inv w → ∃ w', mc_0 G.2.2.1 n w x mo ou xs i = some w' ∧ Inv w')
    (H1 : ∀ (w : Wd) (i : Int32), Inv w → ∃ w', mc_1 G.2.2.1 n w x mo ou xs i = some w' ∧ Inv w')
    (H2 : ∀ (w : Wd) (i : Int32), Inv w → ∃ w', mc_2 G.2.2.1 n w x mo ou xs i = some w' ∧ Inv w')
    (H3 : ∀ (w : Wd) (i : Int32), Inv w → ∃ w', mc_3 G.2.2.1 n w x mo ou xs i = some w' ∧ Inv w')
    (H4 : ∀ (w : Wd) (i : Int32), Inv w → ∃ w', mc_4 G.2.2.1 n w x mo ou xs i = some w' ∧ Inv w')
    (H5 : ∀ (w : Wd) (i : Int32), Inv w → ∃ w', mc_5 G.2.2.1 n w x mo ou xs i = some w' ∧ Inv w')
    (H6 : ∀ (w : Wd) (i : Int32), Inv w → ∃ w', mc_6 G.2.2.1 n w x mo ou xs i = some w' ∧ Inv w')
    (H7 : ∀ (w : Wd) (i : Int32), Inv w → ∃ w', mc_7 G.2.2.1 n w x mo ou xs i = some w' ∧ Inv w')
    (H8 : ∀ (w : Wd) (i : Int32), Inv w → ∃ w', mc_8 G.2.2.1 n w x mo ou xs i = some w' ∧ Inv w')
    (H9 : ∀ (w : Wd) (i : Int32), Inv w → ∃ w', mc_9 G.2.2.1 n w x mo ou xs i = some w' ∧ Inv w')
    (H10 : ∀ (w : Wd) (i : Int32), Inv w → ∃ w', mc_10 G.2.2.1 n w x mo ou xs i = some w' ∧ Inv w')
    (H11 : ∀ (w : Wd) (i : Int32), Inv w → ∃ w', mc_11 G.2.2.1 n w x mo ou xs i = some w' ∧ Inv w')
    (H12 : ∀ (w : Wd) (i : Int32), Inv w → ∃ w', mc_12 G.2.2.1 n w x mo ou xs i = some w' ∧ Inv w')
    (H13 : ∀ (w : Wd) (i : Int32), Inv w → ∃ w', mc_13 G.2.2.1 n w x mo ou xs i = some w' ∧ Inv w')
    (H14 : ∀ (w : Wd) (i : Int32), Inv w → ∃ w', mc_14 G.2.2.1 n w x mo ou xs i = some w' ∧ Inv w')
    (H15 : ∀ (w : Wd) (i : Int32), Inv w → ∃ w', mc_15 G.2.2.1 n w x mo ou xs i = some w' ∧ Inv w')
    (H16 : ∀ (w : Wd) (i : Int32), Inv w → ∃ w', mc_16 G.2.2.1 n w x mo ou xs i = some w' ∧ Inv w')
    (H17 : ∀ (w : Wd) (i : Int32), Inv w → ∃ w', mc_17 G.2.2.1 n w x mo ou xs i = some w' ∧ Inv w')
    (H18 : ∀ (w : Wd) (i : Int32), Inv w → ∃ w', mc_18 G.2.2.1 n w x mo ou xs i = some w' ∧ Inv w')
    (H19 : ∀ (w : Wd) (i : Int32), Inv w → ∃ w', mc_19 G.2.2.1 n w x mo ou xs i = some w' ∧ Inv w')
    (H20 : ∀ (w : Wd) (i : Int32), Inv w → ∃ w', mc_20 G.2.2.1 n w x mo ou xs i = some w' ∧ Inv w')
    (H21 : ∀ (w : Wd) (i : Int32), Inv w → ∃ w', mc_21 G.2.2.1 n w x mo ou xs i = some w' ∧ Inv w')
    (H22 : ∀ (w : Wd) (i : Int32), Inv w → ∃ w', mc_22 G.2.2.1 n w x mo ou xs i = some w' ∧ Inv w')
    (H23 : ∀ (w : Wd) (i : Int32), Inv w → ∃ w', mc_23 G.2.2.1 n w x mo ou xs i = some w' ∧ Inv w')
    (H24 : ∀ (w : Wd) (i : Int32), Inv w → ∃ w', mc_24 G.2.2.1 n w x mo ou xs i = some w' ∧ Inv w')
    : ∀ (r t : Nat) (kc ks : Nat) (w : Wd), 5 * t ≤ L → L < 5 * (t + r) → kc + r ≤ 601024 → ks + 6 * r ≤ 7293034 → Inv w →
      VQ p l e room_1 s m #[Value.ref b] below meth c G (fun q => s.heap.size ≤ q) 7 kc ks (lw_Z below #[Value.ref b] s) 23 [(0, .ref b), (1, .ref x), (2, .ref mo), (3, .ref ou), (4, .int (nI (5 * t)))] [] w := by
  obtain ⟨hx, hb, hr, hml, hown, hts, hX, hbl, hlocks, hgv⟩ := C0
  have hbA : ¬ (fun q : Nat => s.heap.size ≤ q) b := Nat.not_le.mpr hbl
  intro r
  induction r with
  | zero => intro t kc ks w h1 h2; exact absurd h2 (by omega)
  | succ r ih =>
    intro t kc ks w ht hr2 hkc hks hI
    have hk0 : kc ≤ room_1.cells ∧ ks ≤ room_1.slots := ⟨by show kc ≤ 601024; omega, by show ks ≤ 7293034; omega⟩
    have hk1 : kc + 1 ≤ room_1.cells ∧ ks + 6 ≤ room_1.slots := ⟨by show kc + 1 ≤ 601024; omega, by show ks + 6 ≤ 7293034; omega⟩
    refine v_iload C 4 dL_law_23 rfl ?_
    refine v_aload_n C 0 dL_law_25 rfl rfl ?_
    refine v_slen C hX hbl hbA dL_law_26 ?_
    refine v_iconst C (v := 5) dL_law_27 (by decide) ?_
    refine v_isub C dL_law_28 ?_
    refine v_icmp_gt C (tgt := 1712) dL_law_29 (by decide) (fun q => ?_) (fun q => ?_)
    · refine v_iconst C (v := 1) dL_law_1712 (by decide) ?_
      intro H locs ls hl hP hS
      refine va_forget (fun q hq => hS.2.2 q hq) ?_
      refine W.widen (k := 601024) (n := 7293034) (by omega) (by omega) ?_
      exact lw_ret hx hb hr hlocks dL_law_1713
    · have hq : 5 * t + 5 ≤ L := by
        rcases Nat.lt_or_ge L (5 * t + 5) with h | h
        · exact absurd ((law_gt hL (by omega)).mpr h) q
        · exact h
      have g0 : vp_in (nI (5 * t)) L := vp_in_nI (by omega) (by omega)
      have g1 : vp_in (nI (5 * t) + 1) L := law_ix (k := 1) hL hq (by decide)
      have g2 : vp_in (nI (5 * t) + 2) L := law_ix (k := 2) hL hq (by decide)
      have g3 : vp_in (nI (5 * t) + 3) L := law_ix (k := 3) hL hq (by decide)
      have g4 : vp_in (nI (5 * t) + 4) L := law_ix (k := 4) hL hq (by decide)
      -- behind a case
      have back : ∀ w', Inv w' → VQ p l e room_1 s m #[Value.ref b] below meth c G (fun q => s.heap.size ≤ q) 7 (kc + 1) (ks + 6) (lw_Z below #[Value.ref b] s) 1706 [(0, .ref b), (1, .ref x), (2, .ref mo), (3, .ref ou), (4, .int (nI (5 * t)))] [] w' := by
        intro w' hw'
        refine v_iinc C (k := 4) (v := nI (5 * (t + 1))) (lv' := [(4, .int (nI (5 * (t + 1)))), (0, .ref b), (1, .ref x), (2, .ref mo), (3, .ref ou)]) dL_law_1706 rfl (by rw [show Int32.ofInt 5 = nI 5 from rfl, nI_add]; rfl) (by decide) rfl ?_
        refine v_goto C (tgt := 23) dL_law_1709 (by decide) ?_
        refine v_sub [1, 2, 3, 4, 0] rfl ?_
        exact ih (t + 1) (kc + 1) (ks + 6) w' (by omega) (by omega) (by omega) (by omega) hw'
      refine v_aload_n C 0 dL_law_32 rfl rfl ?_
      refine v_iload C 4 dL_law_33 rfl ?_
      refine v_sld C hX hbl hbA g0 dL_law_35 ?_
      refine v_bipush C (v := 31) dL_law_36 (by decide) ?_
      refine v_iand C dL_law_38 ?_
      obtain ⟨j, hj, ej⟩ := pk_andE (xs (nI (5 * t)).toNatClampNeg) (m := 31) 5 rfl
      rw [ej]
      have hj32 : j < 32 := hj
      by_cases h25 : 25 ≤ j
      · refine v_tabOut C 1706 dL_law_39 (by rw [nI_toInt (by omega)]; omega) (by decide) ?_
        exact v_widen (Nat.le_add_right _ _) (Nat.le_add_right _ _) (back w hI)
      · match j, h25 with
        | 0, _ =>
          obtain ⟨w', e1, h1⟩ := H0 w (nI (5 * t)) hI
          refine v_tabIn C 0 113 152 dL_law_39 rfl (by decide) (by decide) rfl (by decide) ?_
          exact t_case0 hst C hX hbl hbA g0 g1 g2 g3 g4 hk0 hk1 e1 (back w' h1)
        | 1, _ =>
          obtain ⟨w', e1, h1⟩ := H1 w (nI (5 * t)) hI
          refine v_tabIn C 1 193 232 dL_law_39 rfl (by decide) (by decide) rfl (by decide) ?_
          exact t_case1 hst C hX hbl hbA g0 g1 g2 g3 g4 hk0 hk1 e1 (back w' h1)
        | 2, _ =>
          obtain ⟨w', e1, h1⟩ := H2 w (nI (5 * t)) hI
          refine v_tabIn C 2 273 312 dL_law_39 rfl (by decide) (by decide) rfl (by decide) ?_
          exact t_case2 hst C hX hbl hbA g0 g1 g2 g3 g4 hk0 hk1 e1 (back w' h1)
        | 3, _ =>
          obtain ⟨w', e1, h1⟩ := H3 w (nI (5 * t)) hI
          refine v_tabIn C 3 329 368 dL_law_39 rfl (by decide) (by decide) rfl (by decide) ?_
          exact t_case3 hst C hX hbl hbA g0 g1 g2 g3 g4 hk0 hk1 e1 (back w' h1)
        | 4, _ =>
          obtain ⟨w', e1, h1⟩ := H4 w (nI (5 * t)) hI
          refine v_tabIn C 4 409 448 dL_law_39 rfl (by decide) (by decide) rfl (by decide) ?_
          exact t_case4 hst C hX hbl hbA g0 g1 g2 g3 g4 hk0 hk1 e1 (back w' h1)
        | 5, _ =>
          obtain ⟨w', e1, h1⟩ := H5 w (nI (5 * t)) hI
          refine v_tabIn C 5 465 504 dL_law_39 rfl (by decide) (by decide) rfl (by decide) ?_
          exact t_case5 hst C hX hbl hbA g0 g1 g2 g3 g4 hk0 hk1 e1 (back w' h1)
        | 6, _ =>
          obtain ⟨w', e1, h1⟩ := H6 w (nI (5 * t)) hI
          refine v_tabIn C 6 557 596 dL_law_39 rfl (by decide) (by decide) rfl (by decide) ?_
          exact t_case6 hst C hX hbl hbA g0 g1 g2 g3 g4 hk0 hk1 e1 (back w' h1)
        | 7, _ =>
          obtain ⟨w', e1, h1⟩ := H7 w (nI (5 * t)) hI
          refine v_tabIn C 7 625 664 dL_law_39 rfl (by decide) (by decide) rfl (by decide) ?_
          exact t_case7 hst C hX hbl hbA g0 g1 g2 g3 g4 hk0 hk1 e1 (back w' h1)
        | 8, _ =>
          obtain ⟨w', e1, h1⟩ := H8 w (nI (5 * t)) hI
          refine v_tabIn C 8 693 732 dL_law_39 rfl (by decide) (by decide) rfl (by decide) ?_
          exact t_case8 hst C hX hbl hbA g0 g1 g2 g3 g4 hk0 hk1 e1 (back w' h1)
        | 9, _ =>
          obtain ⟨w', e1, h1⟩ := H9 w (nI (5 * t)) hI
          refine v_tabIn C 9 773 812 dL_law_39 rfl (by decide) (by decide) rfl (by decide) ?_
          exact t_case9 hst C hX hbl hbA g0 g1 g2 g3 g4 hk0 hk1 e1 (back w' h1)
        | 10, _ =>
          obtain ⟨w', e1, h1⟩ := H10 w (nI (5 * t)) hI
          refine v_tabIn C 10 853 892 dL_law_39 rfl (by decide) (by decide) rfl (by decide) ?_
          exact t_case10 hst C hX hbl hbA g0 g1 g2 g3 g4 hk0 hk1 e1 (back w' h1)
        | 11, _ =>
          obtain ⟨w', e1, h1⟩ := H11 w (nI (5 * t)) hI
          refine v_tabIn C 11 961 1000 dL_law_39 rfl (by decide) (by decide) rfl (by decide) ?_
          exact t_case11 hst C hX hbl hbA g0 g1 g2 g3 g4 hk0 hk1 e1 (back w' h1)
        | 12, _ =>
          obtain ⟨w', e1, h1⟩ := H12 w (nI (5 * t)) hI
          refine v_tabIn C 12 1002 1041 dL_law_39 rfl (by decide) (by decide) rfl (by decide) ?_
          exact t_case12 hst C hX hbl hbA g0 g1 g2 g3 g4 hk0 hk1 e1 (back w' h1)
        | 13, _ =>
          obtain ⟨w', e1, h1⟩ := H13 w (nI (5 * t)) hI
          refine v_tabIn C 13 1082 1121 dL_law_39 rfl (by decide) (by decide) rfl (by decide) ?_
          exact t_case13 hst C hX hbl hbA g0 g1 g2 g3 g4 hk0 hk1 e1 (back w' h1)
        | 14, _ =>
          obtain ⟨w', e1, h1⟩ := H14 w (nI (5 * t)) hI
          refine v_tabIn C 14 1162 1201 dL_law_39 rfl (by decide) (by decide) rfl (by decide) ?_
          exact t_case14 hst C hX hbl hbA g0 g1 g2 g3 g4 hk0 hk1 e1 (back w' h1)
        | 15, _ =>
          obtain ⟨w', e1, h1⟩ := H15 w (nI (5 * t)) hI
          refine v_tabIn C 15 1218 1257 dL_law_39 rfl (by decide) (by decide) rfl (by decide) ?_
          exact t_case15 hst C hX hbl hbA g0 g1 g2 g3 g4 hk0 hk1 e1 (back w' h1)
        | 16, _ =>
          obtain ⟨w', e1, h1⟩ := H16 w (nI (5 * t)) hI
          refine v_tabIn C 16 1286 1325 dL_law_39 rfl (by decide) (by decide) rfl (by decide) ?_
          exact t_case16 hst C hX hbl hbA g0 g1 g2 g3 g4 hk0 hk1 e1 (back w' h1)
        | 17, _ =>
          obtain ⟨w', e1, h1⟩ := H17 w (nI (5 * t)) hI
          refine v_tabIn C 17 1366 1405 dL_law_39 rfl (by decide) (by decide) rfl (by decide) ?_
          exact t_case17 hst C hX hbl hbA g0 g1 g2 g3 g4 hk0 hk1 e1 (back w' h1)
        | 18, _ =>
          obtain ⟨w', e1, h1⟩ := H18 w (nI (5 * t)) hI
          refine v_tabIn C 18 1458 1497 dL_law_39 rfl (by decide) (by decide) rfl (by decide) ?_
          exact t_case18 hst C hX hbl hbA g0 g1 g2 g3 g4 hk0 hk1 e1 (back w' h1)
        | 19, _ =>
          obtain ⟨w', e1, h1⟩ := H19 w (nI (5 * t)) hI
          refine v_tabIn C 19 1514 1553 dL_law_39 rfl (by decide) (by decide) rfl (by decide) ?_
          exact t_case19 hst C hX hbl hbA g0 g1 g2 g3 g4 hk0 hk1 e1 (back w' h1)
        | 20, _ =>
          obtain ⟨w', e1, h1⟩ := H20 w (nI (5 * t)) hI
          refine v_tabIn C 20 1570 1609 dL_law_39 rfl (by decide) (by decide) rfl (by decide) ?_
          exact t_case20 hst C hX hbl hbA g0 g1 g2 g3 g4 hk0 hk1 e1 (back w' h1)
        | 21, _ =>
          obtain ⟨w', e1, h1⟩ := H21 w (nI (5 * t)) hI
          refine v_tabIn C 21 1583 1622 dL_law_39 rfl (by decide) (by decide) rfl (by decide) ?_
          exact t_case21 hst C hX hbl hbA g0 g1 g2 g3 g4 hk0 hk1 e1 (back w' h1)
        | 22, _ =>
          obtain ⟨w', e1, h1⟩ := H22 w (nI (5 * t)) hI
          refine v_tabIn C 22 1596 1635 dL_law_39 rfl (by decide) (by decide) rfl (by decide) ?_
          exact t_case22 hst C hX hbl hbA g0 g1 g2 g3 g4 hk0 hk1 e1 (back w' h1)
        | 23, _ =>
          obtain ⟨w', e1, h1⟩ := H23 w (nI (5 * t)) hI
          refine v_tabIn C 23 1609 1648 dL_law_39 rfl (by decide) (by decide) rfl (by decide) ?_
          exact t_case23 hst C hX hbl hbA g0 g1 g2 g3 g4 hk0 hk1 e1 (back w' h1)
        | 24, _ =>
          obtain ⟨w', e1, h1⟩ := H24 w (nI (5 * t)) hI
          refine v_tabIn C 24 1653 1692 dL_law_39 rfl (by decide) (by decide) rfl (by decide) ?_
          exact t_case24 hst C hX hbl hbA g0 g1 g2 g3 g4 hk0 hk1 e1 (back w' h1)
        | j + 25, h => exact absurd (by omega) h
/-- behind a constructor, in the law -/
theorem w_runN {p : Program} {l : Launch} {e : Env} {R : Room} {s : State} {m : MethodId} {args : Array Value} {below : List Frame} {meth : Method} {c : Code} {G : GG} {Q : State → Prop} {ls : Array Slot} {pc b sz k n mc1 ms1 : Nat} {o1 : Cel} {N : List Cel} {H : Heap} {st0 rest : List Value} {a : Array Value} (hb0 : s.heap.size ≤ b) (hbz : b < sz) (hr : va_Run p l e R s m args below meth c H [] k n mc1 ms1 (F0 m pc ls st0) rest (QN G b sz o1 N a) (AN b sz))
    (kk : ∀ H2 : Heap, HN G b sz o1 N H2 → H.size ≤ H2.size → (∀ q : Nat, q < H.size → ¬ AN b sz q → H2[q]? = H[q]?) → W p l e R s m args below meth c H2 [] (k + mc1) (n + ms1) Q (F0 m (pc + 3) ls rest)) : W p l e R s m args below meth c H [] k n Q (F0 m pc ls st0) := by
  intro T hT X
  obtain ⟨v, st₀, t, T', L, h0, X', hL, e1, e2, ⟨⟨hv, hh⟩, hz, hk⟩, stp⟩ := hr T hT X
  cases hv
  rw [h0] at hz hk
  have hk2 := va_forget (s := s) (g := F0 m (pc + 3) ls rest) (locs := [] ++ L) (fun q hq => by
    rcases hL q hq with z | z
    · rw [z]; exact hb0
    · exact Nat.le_trans hb0 (Nat.le_trans (Nat.le_of_lt hbz) z)) (kk T'.heap (by rw [e1]; exact hh) (by rw [e1]; exact hz) (fun q h1 h2 => by rw [e1]; exact hk q h1 h2))
  obtain ⟨t2, a1, b1⟩ := hk2 T' rfl X'
  exact ⟨t2, stp t2 a1, b1⟩
