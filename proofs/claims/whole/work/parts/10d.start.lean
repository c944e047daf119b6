/-! THE LAW'S START: the two constructors, the row for the answer, and then the loop -/
/-- the texts' places are different -/
def KI (K : Nat → Nat) : Prop := ∀ i j : Nat, i < 5 → j < 5 → K i = K j → i = j
theorem dfX6 : ∀ j, j < 5 → defaultValue (tyX6 j) = vp_V [.null, .null, .null, .null, .null] j := by decide +kernel
theorem dfX7 : ∀ j, j < 20 → defaultValue (tyX7 j) = vp_V [.null, .null, .null, .int 0, .int 0, .null, .int 0, .null, .null, .null, .null, .long 0, .int 0, .int 0, .int 0, .int 0, .int 0, .int 0, .null, .long 0] j := by decide +kernel
theorem hI_X6 : yX6_init.cls ≠ "java/lang/invoke/MethodHandle" ∧ yX6_init.cls ≠ "java/lang/invoke/VarHandle" ∧ (parseMethodDescriptor yX6_init.desc).map (fun d => d.parameters.length) = some 0 := by decide +kernel
theorem hI_X7 : yX7_init.cls ≠ "java/lang/invoke/MethodHandle" ∧ yX7_init.cls ≠ "java/lang/invoke/VarHandle" ∧ (parseMethodDescriptor yX7_init.desc).map (fun d => d.parameters.length) = some 0 := by decide +kernel
theorem s_cl6 : Cond.classLink RL 8 RX6 ∈ lw_tbl := by decide +kernel
theorem s_cl7 : Cond.classLink RL 82 RX7 ∈ lw_tbl := by decide +kernel
theorem s_ni6 : Cond.initialized RX6 ∈ lw_tbl := by decide +kernel
theorem s_ni7 : Cond.initialized RX7 ∈ lw_tbl := by decide +kernel
theorem s_ml6 : Cond.methodLink RL 81 yX6_init ∈ lw_tbl := by decide +kernel
theorem s_ml7 : Cond.methodLink RL 84 yX7_init ∈ lw_tbl := by decide +kernel
theorem s_im6 : Cond.instanceMethod yX6_init ∈ lw_tbl := by decide +kernel
theorem s_im7 : Cond.instanceMethod yX7_init ∈ lw_tbl := by decide +kernel
theorem s_acl : Cond.arrayClass (newarray.typeOf .long) ∈ lw_tbl := by decide +kernel
/-- the world behind the constructors -/
def wzL (h : Nat) : List Cel := (o_X6_init h (h + 1) :: l_X6_init h (h + 1)) ++ ((o_X7_init (h + 87) (h + 88) :: l_X7_init (h + 87) (h + 88)) ++ [.inl (2, 1, .inr (.inl fun _ => 0))])
def wz (h : Nat) : Wd := fun a => if a < h then none else (wzL h)[a - h]?
theorem HN.at {G : GG} {b : Nat} {ob : Cel} {L : List Cel} {H : Heap} (h : HN G b (b + 1) ob L H) (i : Nat) (x : Cel) (hx : (ob :: L)[i]? = some x) : va_at G.1 vwCl (b + i, trc G.2.1 x) H := by
  cases i with
  | zero => cases hx; exact h.2.1
  | succ i =>
    have q := h.2.2.2 i x hx
    rw [Nat.add_right_comm] at q
    exact q
theorem wz_hd {G : GG} {H : Heap} {h : Nat} (h1 : ∀ (i : Nat) (x : Cel), (o_X6_init h (h + 1) :: l_X6_init h (h + 1))[i]? = some x → va_at G.1 vwCl (h + i, trc G.2.1 x) H) (h2 : ∀ (i : Nat) (x : Cel), (o_X7_init (h + 87) (h + 88) :: l_X7_init (h + 87) (h + 88))[i]? = some x → va_at G.1 vwCl (h + 87 + i, trc G.2.1 x) H)
    (h3 : va_at G.1 vwCl (h + 97, trc G.2.1 (.inl (2, 1, .inr (.inl fun _ => 0)))) H) : hd G (fun q => h ≤ q) (wz h) H := by
  intro a c hc
  unfold wz at hc
  split at hc
  · cases hc
  · rename_i hlt
    obtain ⟨d, rfl⟩ : ∃ d, a = h + d := ⟨a - h, by omega⟩
    rw [Nat.add_sub_cancel_left] at hc
    refine ⟨Nat.le_add_right _ _, ?_⟩
    unfold wzL at hc
    have l6 : (o_X6_init h (h + 1) :: l_X6_init h (h + 1)).length = 87 := rfl
    have l7 : (o_X7_init (h + 87) (h + 88) :: l_X7_init (h + 87) (h + 88)).length = 10 := rfl
    rw [List.getElem?_append, l6] at hc
    split at hc
    · exact h1 d c hc
    · rw [List.getElem?_append, l7] at hc
      split at hc
      · have q := h2 (d - 87) c hc
        rw [show h + 87 + (d - 87) = h + d by omega] at q
        exact q
      · rename_i g1 g2
        by_cases hd : d = 97
        · subst hd
          cases hc
          exact h3
        · rw [List.getElem?_eq_none (by simp only [List.length_cons, List.length_nil]; omega)] at hc
          cases hc
set_option maxRecDepth 100000 in
set_option maxHeartbeats 8000000 in
theorem law_walk {p : Program} {l : Launch} (hst : l.stackTraces = false) {e : Env} {s : State} {m : MethodId} {below : List Frame} {meth : Method} {c : Code} {b L : Nat} {xs : Nat → Int32} (hL : L ≤ 2560) (C0 : lw_At p s m meth c b L xs)
    {Inv : (Nat → Nat) → Wd → Prop} {n : Nat} (HI : ∀ K, KI K → Inv K (wz s.heap.size))
    (B0 : ∀ K, KI K → ∀ (w : Wd) (i : Int32), Inv K w → ∃ w', mc_0 K n w s.heap.size (s.heap.size + 87) (s.heap.size + 97) xs i = some w' ∧ Inv K w')
    (B1 : ∀ K, KI K → ∀ (w : Wd) (i : Int32), Inv K w → ∃ w', mc_1 K n w s.heap.size (s.heap.size + 87) (s.heap.size + 97) xs i = some w' ∧ Inv K w')
    (B2 : ∀ K, KI K → ∀ (w : Wd) (i : Int32), Inv K w → ∃ w', mc_2 K n w s.heap.size (s.heap.size + 87) (s.heap.size + 97) xs i = some w' ∧ Inv K w')
    (B3 : ∀ K, KI K → ∀ (w : Wd) (i : Int32), Inv K w → ∃ w', mc_3 K n w s.heap.size (s.heap.size + 87) (s.heap.size + 97) xs i = some w' ∧ Inv K w')
    (B4 : ∀ K, KI K → ∀ (w : Wd) (i : Int32), Inv K w → ∃ w', mc_4 K n w s.heap.size (s.heap.size + 87) (s.heap.size + 97) xs i = some w' ∧ Inv K w')
    (B5 : ∀ K, KI K → ∀ (w : Wd) (i : Int32), Inv K w → ∃ w', mc_5 K n w s.heap.size (s.heap.size + 87) (s.heap.size + 97) xs i = some w' ∧ Inv K w')
    (B6 : ∀ K, KI K → ∀ (w : Wd) (i : Int32), Inv K w → ∃ w', mc_6 K n w s.heap.size (s.heap.size + 87) (s.heap.size + 97) xs i = some w' ∧ Inv K w')
    (B7 : ∀ K, KI K → ∀ (w : Wd) (i : Int32), Inv K w → ∃ w', mc_7 K n w s.heap.size (s.heap.size + 87) (s.heap.size + 97) xs i = some w' ∧ Inv K w')
    (B8 : ∀ K, KI K → ∀ (w : Wd) (i : Int32), Inv K w → ∃ w', mc_8 K n w s.heap.size (s.heap.size + 87) (s.heap.size + 97) xs i = some w' ∧ Inv K w')
    (B9 : ∀ K, KI K → ∀ (w : Wd) (i : Int32), Inv K w → ∃ w', mc_9 K n w s.heap.size (s.heap.size + 87) (s.heap.size + 97) xs i = some w' ∧ Inv K w')
    (B10 : ∀ K, KI K → ∀ (w : Wd) (i : Int32), Inv K w → ∃ w', mc_10 K n w s.heap.size (s.heap.size + 87) (s.heap.size + 97) xs i = some w' ∧ Inv K w')
    (B11 : ∀ K, KI K → ∀ (w : Wd) (i : Int32), Inv K w → ∃ w', mc_11 K n w s.heap.size (s.heap.size + 87) (s.heap.size + 97) xs i = some w' ∧ Inv K w')
    (B12 : ∀ K, KI K → ∀ (w : Wd) (i : Int32), Inv K w → ∃ w', mc_12 K n w s.heap.size (s.heap.size + 87) (s.heap.size + 97) xs i = some w' ∧ Inv K w')
    (B13 : ∀ K, KI K → ∀ (w : Wd) (i : Int32), Inv K w → ∃ w', mc_13 K n w s.heap.size (s.heap.size + 87) (s.heap.size + 97) xs i = some w' ∧ Inv K w')
    (B14 : ∀ K, KI K → ∀ (w : Wd) (i : Int32), Inv K w → ∃ w', mc_14 K n w s.heap.size (s.heap.size + 87) (s.heap.size + 97) xs i = some w' ∧ Inv K w')
    (B15 : ∀ K, KI K → ∀ (w : Wd) (i : Int32), Inv K w → ∃ w', mc_15 K n w s.heap.size (s.heap.size + 87) (s.heap.size + 97) xs i = some w' ∧ Inv K w')
    (B16 : ∀ K, KI K → ∀ (w : Wd) (i : Int32), Inv K w → ∃ w', mc_16 K n w s.heap.size (s.heap.size + 87) (s.heap.size + 97) xs i = some w' ∧ Inv K w')
    (B17 : ∀ K, KI K → ∀ (w : Wd) (i : Int32), Inv K w → ∃ w', mc_17 K n w s.heap.size (s.heap.size + 87) (s.heap.size + 97) xs i = some w' ∧ Inv K w')
    (B18 : ∀ K, KI K → ∀ (w : Wd) (i : Int32), Inv K w → ∃ w', mc_18 K n w s.heap.size (s.heap.size + 87) (s.heap.size + 97) xs i = some w' ∧ Inv K w')
    (B19 : ∀ K, KI K → ∀ (w : Wd) (i : Int32), Inv K w → ∃ w', mc_19 K n w s.heap.size (s.heap.size + 87) (s.heap.size + 97) xs i = some w' ∧ Inv K w')
    (B20 : ∀ K, KI K → ∀ (w : Wd) (i : Int32), Inv K w → ∃ w', mc_20 K n w s.heap.size (s.heap.size + 87) (s.heap.size + 97) xs i = some w' ∧ Inv K w')
    (B21 : ∀ K, KI K → ∀ (w : Wd) (i : Int32), Inv K w → ∃ w', mc_21 K n w s.heap.size (s.heap.size + 87) (s.heap.size + 97) xs i = some w' ∧ Inv K w')
    (B22 : ∀ K, KI K → ∀ (w : Wd) (i : Int32), Inv K w → ∃ w', mc_22 K n w s.heap.size (s.heap.size + 87) (s.heap.size + 97) xs i = some w' ∧ Inv K w')
    (B23 : ∀ K, KI K → ∀ (w : Wd) (i : Int32), Inv K w → ∃ w', mc_23 K n w s.heap.size (s.heap.size + 87) (s.heap.size + 97) xs i = some w' ∧ Inv K w')
    (B24 : ∀ K, KI K → ∀ (w : Wd) (i : Int32), Inv K w → ∃ w', mc_24 K n w s.heap.size (s.heap.size + 87) (s.heap.size + 97) xs i = some w' ∧ Inv K w')
    {ls : Array Slot} (hls : lv_has ls 7 [(0, .ref b)]) : W p l e room_1 s m #[Value.ref b] below meth c s.heap [] 0 0 (lw_Z below #[Value.ref b] s) (F0 m 0 ls []) := by
  obtain ⟨G, hE⟩ := law_env C0
  have C1 := C0
  obtain ⟨hx, hb, hr, hml, hown, hts, hX, hbl, hlocks, hgv⟩ := C1
  have hT : ∀ w ∈ wsL_law, w.before #[Value.ref b] s = true := fun w h => hts w (wsL_law_in w h)
  have hEK : EK G s := ⟨hE.1, hE.2.1⟩
  have C : Cx p s m #[Value.ref b] meth c G (fun q => s.heap.size ≤ q) cL_law 7 RL wsL_law ret := ⟨hx, hb, hml, hown, hT, hE, hlocks, hr⟩
  have hK : KI G.2.2.1 := hE.2.2.1.1.2
  have hK6 := hE.1.1 5 _ (rfl : vwCl[5]? = some (RX6, TX6, 5))
  have hK7 := hE.1.1 6 _ (rfl : vwCl[6]? = some (RX7, TX7, 20))
  refine W.newcK hx hb hown (hts _ s_cl6) (hts _ e_in5) (hts _ s_ni6) rfl dL_law_0 (Nat.le_of_ble_eq_true rfl) (Nat.le_of_ble_eq_true rfl) hK6.2.1 rfl fun H1 kC hkC e1 z1 o1 => ?_
  have hN1 : HN G s.heap.size (s.heap.size + 1) (.inr (5, [.null, .null, .null, .null, .null])) [] H1 := ⟨Nat.lt_succ_self _, ⟨_, rfl, (u_born tyX6 hts inX6 hK6 hkC e1 tyX6_ok).to dfX6⟩, z1, fun i x hi => by cases hi⟩
  refine lv_dup hx hb dL_law_3 rfl ?_
  refine w_runN (b := s.heap.size) (sz := s.heap.size + 1) (Nat.le_refl _) (Nat.lt_succ_self _) (va_runI (As := []) (rest := [.ref s.heap.size]) (n := 0) ⟨hx, hb, hml, hown, hT⟩ (r_X6_init G s.heap.size (s.heap.size + 1)) (cwI 0 hT gL_law_X6_init rfl rfl rfl (hts _ s_ni6) (hts _ s_ml6) (hts _ s_im6) rfl hI_X6 ⟨(Nat.le_of_ble_eq_true rfl), (Nat.le_of_ble_eq_true rfl)⟩) ⟨PN.blind, fun U hU hWm => ⟨rfl, by rw [hU]; exact hN1, hEK.warm hWm⟩⟩ rfl rfl hls.1 rfl (lv_room (Nat.le_of_ble_eq_true rfl)) dL_law_4 ⟨(Nat.le_of_ble_eq_true rfl), (Nat.le_of_ble_eq_true rfl)⟩) fun H2 hN2 hz2 ho2 => ?_
  have z2 : H2.size = s.heap.size + 87 := by
    have q := hN2.2.2.1
    simp only [List.length_cons, List.length_nil] at q
    omega
  refine lv_astore_n hx hb (i := 1) (nL := 7) dL_law_7 rfl hls (by decide) rfl fun ls1 hl1 => ?_
  refine W.newcK hx hb hown (hts _ s_cl7) (hts _ e_in6) (hts _ s_ni7) rfl dL_law_8 (Nat.le_of_ble_eq_true rfl) (Nat.le_of_ble_eq_true rfl) hK7.2.1 z2 fun H3 kD hkD e3 z3 o3 => ?_
  have hN3 : HN G (s.heap.size + 87) (s.heap.size + 88) (.inr (6, [.null, .null, .null, .int 0, .int 0, .null, .int 0, .null, .null, .null, .null, .long 0, .int 0, .int 0, .int 0, .int 0, .int 0, .int 0, .null, .long 0])) [] H3 := ⟨Nat.lt_succ_self _, ⟨_, rfl, (u_born tyX7 hts inX7 hK7 hkD e3 tyX7_ok).to dfX7⟩, z3, fun i x hi => by cases hi⟩
  refine lv_dup hx hb dL_law_11 rfl ?_
  refine w_runN (b := s.heap.size + 87) (sz := s.heap.size + 88) (Nat.le_add_right _ _) (Nat.lt_succ_self _) (va_runI (As := []) (rest := [.ref (s.heap.size + 87)]) (n := 0) ⟨hx, hb, hml, hown, hT⟩ (r_X7_init G (s.heap.size + 87) (s.heap.size + 88)) (cwI 0 hT gL_law_X7_init rfl rfl rfl (hts _ s_ni7) (hts _ s_ml7) (hts _ s_im7) rfl hI_X7 ⟨(Nat.le_of_ble_eq_true rfl), (Nat.le_of_ble_eq_true rfl)⟩) ⟨PN.blind, fun U hU hWm => ⟨rfl, by rw [hU]; exact hN3, hEK.warm hWm⟩⟩ rfl rfl hl1.1 rfl (lv_room (Nat.le_of_ble_eq_true rfl)) dL_law_12 ⟨(Nat.le_of_ble_eq_true rfl), (Nat.le_of_ble_eq_true rfl)⟩) fun H4 hN4 hz4 ho4 => ?_
  have z4 : H4.size = s.heap.size + 97 := by
    have q := hN4.2.2.1
    simp only [List.length_cons, List.length_nil] at q
    omega
  refine lv_astore_n hx hb (i := 2) (nL := 7) dL_law_15 rfl hl1 (by decide) rfl fun ls2 hl2 => ?_
  refine lv_iconst hx hb (v := 1) dL_law_16 (by decide) ?_
  refine va_newaK hx hb (hts _ s_acl) rfl dL_law_17 rfl (by decide) (N := 1) (by decide) (by decide) (Nat.le_of_ble_eq_true rfl) (Nat.le_of_ble_eq_true rfl) z4 fun H5 cA e5 z5 o5 hAr hNm => ?_
  have hA : cA = G.2.1 2 := Option.some.inj (hNm.symm.trans (hE.1.2 2 _ rfl).2)
  subst hA
  refine lv_astore_n hx hb (i := 3) (nL := 7) dL_law_19 rfl hl2 (by decide) rfl fun ls3 hl3 => ?_
  refine lv_iconst hx hb (v := 0) dL_law_20 (by decide) ?_
  refine lv_istore hx hb (i := 4) (nL := 7) dL_law_21 hl3 (by decide) rfl fun ls4 hl4 => ?_
  have q4 : ∀ q : Nat, q < s.heap.size + 87 → H5[q]? = H2[q]? := fun q hq => by
    rw [o5 q (by omega), ho4 q (by omega) (by unfold AN; omega), o3 q (by omega)]
  refine law_loop hst hL C0 C (Inv := Inv G.2.2.1) (n := n) (B0 _ hK) (B1 _ hK) (B2 _ hK) (B3 _ hK) (B4 _ hK) (B5 _ hK) (B6 _ hK) (B7 _ hK) (B8 _ hK) (B9 _ hK) (B10 _ hK) (B11 _ hK) (B12 _ hK) (B13 _ hK) (B14 _ hK) (B15 _ hK) (B16 _ hK) (B17 _ hK) (B18 _ hK) (B19 _ hK) (B20 _ hK) (B21 _ hK) (B22 _ hK) (B23 _ hK) (B24 _ hK) 513 0 98 2748 (wz s.heap.size) (by omega) (by omega) (by omega) (by omega) (HI _ hK) H5 [] ls4 (lv_sub hl4 [4, 3, 2, 1, 0] rfl) (wz_hd ?_ ?_ ?_) ⟨by omega, fun q h1 h2 => ?_, fun _ h => by cases h⟩
  · intro i x hi
    have q := hN2.at i x hi
    refine q.kept (q4 _ ?_)
    have := q.lt
    show s.heap.size + i < _
    have g : s.heap.size + i < H2.size := this
    omega
  · intro i x hi
    have q := hN4.at i x hi
    refine q.kept (o5 _ ?_)
    have g : s.heap.size + 87 + i < H4.size := q.lt
    show s.heap.size + 87 + i < _
    omega
  · show H5[s.heap.size + 97]? = some (vp_cell _ _)
    exact e5
  · rw [q4 q (by omega), ho2 q (by omega) (by unfold AN; omega), o1 q h1]
theorem whole_law {p : Program} {e : Env} {s : State} {m : MethodId} {below : List Frame} {meth : Method} {c : Code} (l : Launch) (hflags : l.flags = flags0) {b L : Nat} {xs : Nat → Int32} (hL : L ≤ 2560) (C0 : lw_At p s m meth c b L xs)
    {Inv : (Nat → Nat) → Wd → Prop} {n : Nat} (HI : ∀ K, KI K → Inv K (wz s.heap.size))
    (B0 : ∀ K, KI K → ∀ (w : Wd) (i : Int32), Inv K w → ∃ w', mc_0 K n w s.heap.size (s.heap.size + 87) (s.heap.size + 97) xs i = some w' ∧ Inv K w')
    (B1 : ∀ K, KI K → ∀ (w : Wd) (i : Int32), Inv K w → ∃ w', mc_1 K n w s.heap.size (s.heap.size + 87) (s.heap.size + 97) xs i = some w' ∧ Inv K w')
    (B2 : ∀ K, KI K → ∀ (w : Wd) (i : Int32), Inv K w → ∃ w', mc_2 K n w s.heap.size (s.heap.size + 87) (s.heap.size + 97) xs i = some w' ∧ Inv K w')
    (B3 : ∀ K, KI K → ∀ (w : Wd) (i : Int32), Inv K w → ∃ w', mc_3 K n w s.heap.size (s.heap.size + 87) (s.heap.size + 97) xs i = some w' ∧ Inv K w')
    (B4 : ∀ K, KI K → ∀ (w : Wd) (i : Int32), Inv K w → ∃ w', mc_4 K n w s.heap.size (s.heap.size + 87) (s.heap.size + 97) xs i = some w' ∧ Inv K w')
    (B5 : ∀ K, KI K → ∀ (w : Wd) (i : Int32), Inv K w → ∃ w', mc_5 K n w s.heap.size (s.heap.size + 87) (s.heap.size + 97) xs i = some w' ∧ Inv K w')
    (B6 : ∀ K, KI K → ∀ (w : Wd) (i : Int32), Inv K w → ∃ w', mc_6 K n w s.heap.size (s.heap.size + 87) (s.heap.size + 97) xs i = some w' ∧ Inv K w')
    (B7 : ∀ K, KI K → ∀ (w : Wd) (i : Int32), Inv K w → ∃ w', mc_7 K n w s.heap.size (s.heap.size + 87) (s.heap.size + 97) xs i = some w' ∧ Inv K w')
    (B8 : ∀ K, KI K → ∀ (w : Wd) (i : Int32), Inv K w → ∃ w', mc_8 K n w s.heap.size (s.heap.size + 87) (s.heap.size + 97) xs i = some w' ∧ Inv K w')
    (B9 : ∀ K, KI K → ∀ (w : Wd) (i : Int32), Inv K w → ∃ w', mc_9 K n w s.heap.size (s.heap.size + 87) (s.heap.size + 97) xs i = some w' ∧ Inv K w')
    (B10 : ∀ K, KI K → ∀ (w : Wd) (i : Int32), Inv K w → ∃ w', mc_10 K n w s.heap.size (s.heap.size + 87) (s.heap.size + 97) xs i = some w' ∧ Inv K w')
    (B11 : ∀ K, KI K → ∀ (w : Wd) (i : Int32), Inv K w → ∃ w', mc_11 K n w s.heap.size (s.heap.size + 87) (s.heap.size + 97) xs i = some w' ∧ Inv K w')
    (B12 : ∀ K, KI K → ∀ (w : Wd) (i : Int32), Inv K w → ∃ w', mc_12 K n w s.heap.size (s.heap.size + 87) (s.heap.size + 97) xs i = some w' ∧ Inv K w')
    (B13 : ∀ K, KI K → ∀ (w : Wd) (i : Int32), Inv K w → ∃ w', mc_13 K n w s.heap.size (s.heap.size + 87) (s.heap.size + 97) xs i = some w' ∧ Inv K w')
    (B14 : ∀ K, KI K → ∀ (w : Wd) (i : Int32), Inv K w → ∃ w', mc_14 K n w s.heap.size (s.heap.size + 87) (s.heap.size + 97) xs i = some w' ∧ Inv K w')
    (B15 : ∀ K, KI K → ∀ (w : Wd) (i : Int32), Inv K w → ∃ w', mc_15 K n w s.heap.size (s.heap.size + 87) (s.heap.size + 97) xs i = some w' ∧ Inv K w')
    (B16 : ∀ K, KI K → ∀ (w : Wd) (i : Int32), Inv K w → ∃ w', mc_16 K n w s.heap.size (s.heap.size + 87) (s.heap.size + 97) xs i = some w' ∧ Inv K w')
    (B17 : ∀ K, KI K → ∀ (w : Wd) (i : Int32), Inv K w → ∃ w', mc_17 K n w s.heap.size (s.heap.size + 87) (s.heap.size + 97) xs i = some w' ∧ Inv K w')
    (B18 : ∀ K, KI K → ∀ (w : Wd) (i : Int32), Inv K w → ∃ w', mc_18 K n w s.heap.size (s.heap.size + 87) (s.heap.size + 97) xs i = some w' ∧ Inv K w')
    (B19 : ∀ K, KI K → ∀ (w : Wd) (i : Int32), Inv K w → ∃ w', mc_19 K n w s.heap.size (s.heap.size + 87) (s.heap.size + 97) xs i = some w' ∧ Inv K w')
    (B20 : ∀ K, KI K → ∀ (w : Wd) (i : Int32), Inv K w → ∃ w', mc_20 K n w s.heap.size (s.heap.size + 87) (s.heap.size + 97) xs i = some w' ∧ Inv K w')
    (B21 : ∀ K, KI K → ∀ (w : Wd) (i : Int32), Inv K w → ∃ w', mc_21 K n w s.heap.size (s.heap.size + 87) (s.heap.size + 97) xs i = some w' ∧ Inv K w')
    (B22 : ∀ K, KI K → ∀ (w : Wd) (i : Int32), Inv K w → ∃ w', mc_22 K n w s.heap.size (s.heap.size + 87) (s.heap.size + 97) xs i = some w' ∧ Inv K w')
    (B23 : ∀ K, KI K → ∀ (w : Wd) (i : Int32), Inv K w → ∃ w', mc_23 K n w s.heap.size (s.heap.size + 87) (s.heap.size + 97) xs i = some w' ∧ Inv K w')
    (B24 : ∀ K, KI K → ∀ (w : Wd) (i : Int32), Inv K w → ∃ w', mc_24 K n w s.heap.size (s.heap.size + 87) (s.heap.size + 97) xs i = some w' ∧ Inv K w')
    : W p l e room_1 s m #[Value.ref b] below meth c s.heap [] 0 0 (lw_Z below #[Value.ref b] s) (entryFrame m ([Value.ref b] : List Value).toArray 7) := by
  have hst : l.stackTraces = false := by
    unfold Launch.stackTraces
    rw [hflags]
    decide +kernel
  have hl := lv_entry [.ref b] (n := 7) (Nat.le_of_ble_eq_true rfl)
  rw [lg_entry_eq]
  exact law_walk hst hL C0 HI B0 B1 B2 B3 B4 B5 B6 B7 B8 B9 B10 B11 B12 B13 B14 B15 B16 B17 B18 B19 B20 B21 B22 B23 B24 hl
