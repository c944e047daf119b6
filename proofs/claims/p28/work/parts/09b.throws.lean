set_option maxRecDepth 100000 in
set_option maxHeartbeats 4000000 in
theorem x_X6_add {l : Launch} (hst : l.stackTraces = false) {G : GG} {A : Nat → Prop} {n : Nat} {w : Wd} {this : Nat} {a1 : Int32} {a2 : Int32} {a3 : Int32} {z : Int32} {E : String} (hE : EX z E) (h : q_X6_add n w this a1 a2 a3 = some z) : XCon l yX6_add wsX6_add { frames := 7, cells := 1, slots := 6, locals := 117 } G A [.ref this, .int a1, .int a2, .int a3] w E := by
  refine XCon.of (own := RX6) (cc := cX6_add) (maxL := 4) (ret := (some .int)) rfl (by decide) rfl (Nat.le_of_ble_eq_true rfl) ?_
  intro p e s m args below meth c C hT0
  show VQ p l e _ s m args below meth c G A 4 0 0 _ 0 [(0, .ref this), (1, .int a1), (2, .int a2), (3, .int a3)] [] w
  unfold q_X6_add at h
  refine v_aload_n C 0 dX6_add_0 rfl rfl ?_
  refine v_iload_n C 1 dX6_add_1 rfl rfl ?_
  refine v_iload_n C 2 dX6_add_2 rfl rfl ?_
  refine v_iload_n C 3 dX6_add_3 rfl rfl ?_
  refine v_iconst C (v := 0) dX6_add_4 (by decide) ?_
  obtain ⟨u1, e_u1, h⟩ := bnd h
  obtain ⟨x2, e_x2, h⟩ := bnd h
  refine v_callVi C (ci := 5) (av := [.int a1, .int a2, .int a3, .int 0]) (rest := []) rfl gX6_add_X6_refusalOfPlace rfl ⟨rfl, rfl⟩ hV_X6_refusalOfPlace ⟨(Nat.le_of_ble_eq_true rfl), (Nat.le_of_ble_eq_true rfl)⟩ e_u1 (r_X6_refusalOfPlace (A := A) e_x2) rfl rfl (Nat.le_of_ble_eq_true rfl) dX6_add_5 ?_
  obtain rfl := Option.some.inj h
  exact xv_callS C hT0 (av := [.int x2]) (rest := []) gX6_add_X6_throwIf rfl ⟨rfl, rfl⟩ hS_X6_throwIf ⟨(Nat.le_of_ble_eq_true rfl), (Nat.le_of_ble_eq_true rfl)⟩ ⟨(Nat.le_of_ble_eq_true rfl), (Nat.le_of_ble_eq_true rfl)⟩ (x_X6_throwIf hst hE) rfl rfl (Nat.le_of_ble_eq_true rfl) dX6_add_8
set_option maxRecDepth 100000 in
set_option maxHeartbeats 4000000 in
theorem x_X6_move {l : Launch} (hst : l.stackTraces = false) {G : GG} {A : Nat → Prop} {n : Nat} {w : Wd} {this : Nat} {a1 : Int32} {a2 : Int32} {a3 : Int32} {z : Int32} {E : String} (hE : EX z E) (h : q_X6_move n w this a1 a2 a3 = some z) : XCon l yX6_move wsX6_move { frames := 7, cells := 1, slots := 6, locals := 117 } G A [.ref this, .int a1, .int a2, .int a3] w E := by
  refine XCon.of (own := RX6) (cc := cX6_move) (maxL := 4) (ret := (some .int)) rfl (by decide) rfl (Nat.le_of_ble_eq_true rfl) ?_
  intro p e s m args below meth c C hT0
  show VQ p l e _ s m args below meth c G A 4 0 0 _ 0 [(0, .ref this), (1, .int a1), (2, .int a2), (3, .int a3)] [] w
  unfold q_X6_move at h
  refine v_aload_n C 0 dX6_move_0 rfl rfl ?_
  refine v_iload_n C 1 dX6_move_1 rfl rfl ?_
  refine v_iload_n C 2 dX6_move_2 rfl rfl ?_
  refine v_iload_n C 3 dX6_move_3 rfl rfl ?_
  refine v_iconst C (v := 1) dX6_move_4 (by decide) ?_
  obtain ⟨u1, e_u1, h⟩ := bnd h
  obtain ⟨x2, e_x2, h⟩ := bnd h
  refine v_callVi C (ci := 5) (av := [.int a1, .int a2, .int a3, .int 1]) (rest := []) rfl gX6_move_X6_refusalOfPlace rfl ⟨rfl, rfl⟩ hV_X6_refusalOfPlace ⟨(Nat.le_of_ble_eq_true rfl), (Nat.le_of_ble_eq_true rfl)⟩ e_u1 (r_X6_refusalOfPlace (A := A) e_x2) rfl rfl (Nat.le_of_ble_eq_true rfl) dX6_move_5 ?_
  obtain rfl := Option.some.inj h
  exact xv_callS C hT0 (av := [.int x2]) (rest := []) gX6_move_X6_throwIf rfl ⟨rfl, rfl⟩ hS_X6_throwIf ⟨(Nat.le_of_ble_eq_true rfl), (Nat.le_of_ble_eq_true rfl)⟩ ⟨(Nat.le_of_ble_eq_true rfl), (Nat.le_of_ble_eq_true rfl)⟩ (x_X6_throwIf hst hE) rfl rfl (Nat.le_of_ble_eq_true rfl) dX6_move_8
set_option maxRecDepth 100000 in
set_option maxHeartbeats 4000000 in
theorem x_X6_remove {l : Launch} (hst : l.stackTraces = false) {G : GG} {A : Nat → Prop} {n : Nat} {w : Wd} {this : Nat} {a1 : Int32} {z : Int32} {E : String} (hE : EX z E) (h : q_X6_remove n w this a1 = some z) : XCon l yX6_remove wsX6_remove { frames := 7, cells := 1, slots := 6, locals := 115 } G A [.ref this, .int a1] w E := by
  refine XCon.of (own := RX6) (cc := cX6_remove) (maxL := 2) (ret := (some .int)) rfl (by decide) rfl (Nat.le_of_ble_eq_true rfl) ?_
  intro p e s m args below meth c C hT0
  show VQ p l e _ s m args below meth c G A 2 0 0 _ 0 [(0, .ref this), (1, .int a1)] [] w
  unfold q_X6_remove at h
  refine v_aload_n C 0 dX6_remove_0 rfl rfl ?_
  refine v_iload_n C 1 dX6_remove_1 rfl rfl ?_
  obtain ⟨u1, e_u1, h⟩ := bnd h
  obtain ⟨x2, e_x2, h⟩ := bnd h
  refine v_callVi C (ci := 5) (av := [.int a1]) (rest := []) rfl gX6_remove_X6_refusalOfDrop rfl ⟨rfl, rfl⟩ hV_X6_refusalOfDrop ⟨(Nat.le_of_ble_eq_true rfl), (Nat.le_of_ble_eq_true rfl)⟩ e_u1 (r_X6_refusalOfDrop (A := A) e_x2) rfl rfl (Nat.le_of_ble_eq_true rfl) dX6_remove_2 ?_
  obtain rfl := Option.some.inj h
  exact xv_callS C hT0 (av := [.int x2]) (rest := []) gX6_remove_X6_throwIf rfl ⟨rfl, rfl⟩ hS_X6_throwIf ⟨(Nat.le_of_ble_eq_true rfl), (Nat.le_of_ble_eq_true rfl)⟩ ⟨(Nat.le_of_ble_eq_true rfl), (Nat.le_of_ble_eq_true rfl)⟩ (x_X6_throwIf hst hE) rfl rfl (Nat.le_of_ble_eq_true rfl) dX6_remove_5
set_option maxRecDepth 100000 in
set_option maxHeartbeats 4000000 in
theorem x_X6_setVelocity {l : Launch} (hst : l.stackTraces = false) {G : GG} {A : Nat → Prop} {n : Nat} {w : Wd} {this : Nat} {a1 : Int32} {a2 : Int32} {a3 : Int32} {z : Int32} {E : String} (hE : EX z E) (h : q_X6_setVelocity n w this a1 a2 a3 = some z) : XCon l yX6_setVelocity wsX6_setVelocity { frames := 7, cells := 1, slots := 6, locals := 102 } G A [.ref this, .int a1, .int a2, .int a3] w E := by
  refine XCon.of (own := RX6) (cc := cX6_setVelocity) (maxL := 5) (ret := (some .int)) rfl (by decide) rfl (Nat.le_of_ble_eq_true rfl) ?_
  intro p e s m args below meth c C hT0
  show VQ p l e _ s m args below meth c G A 5 0 0 _ 0 [(0, .ref this), (1, .int a1), (2, .int a2), (3, .int a3)] [] w
  unfold q_X6_setVelocity at h
  refine v_aload_n C 0 dX6_setVelocity_0 rfl rfl ?_
  refine v_iload_n C 1 dX6_setVelocity_1 rfl rfl ?_
  refine v_iload_n C 2 dX6_setVelocity_2 rfl rfl ?_
  refine v_iload_n C 3 dX6_setVelocity_3 rfl rfl ?_
  obtain ⟨u1, e_u1, h⟩ := bnd h
  obtain ⟨x2, e_x2, h⟩ := bnd h
  refine v_callVi C (ci := 5) (av := [.int a1, .int a2, .int a3]) (rest := []) rfl gX6_setVelocity_X6_refusalOfSpeed rfl ⟨rfl, rfl⟩ hV_X6_refusalOfSpeed ⟨(Nat.le_of_ble_eq_true rfl), (Nat.le_of_ble_eq_true rfl)⟩ e_u1 (r_X6_refusalOfSpeed (A := A) e_x2) rfl rfl (Nat.le_of_ble_eq_true rfl) dX6_setVelocity_4 ?_
  obtain rfl := Option.some.inj h
  exact xv_callS C hT0 (av := [.int x2]) (rest := []) gX6_setVelocity_X6_throwIf rfl ⟨rfl, rfl⟩ hS_X6_throwIf ⟨(Nat.le_of_ble_eq_true rfl), (Nat.le_of_ble_eq_true rfl)⟩ ⟨(Nat.le_of_ble_eq_true rfl), (Nat.le_of_ble_eq_true rfl)⟩ (x_X6_throwIf hst hE) rfl rfl (Nat.le_of_ble_eq_true rfl) dX6_setVelocity_7
set_option maxRecDepth 100000 in
set_option maxHeartbeats 4000000 in
theorem x_X6_tick {l : Launch} (hst : l.stackTraces = false) {G : GG} {A : Nat → Prop} {n : Nat} {w : Wd} {this : Nat} {a1 : Int32} {z : Int32} {E : String} (hE : EX z E) (h : q_X6_tick n w this a1 = some z) : XCon l yX6_tick wsX6_tick { frames := 7, cells := 1, slots := 6, locals := 117 } G A [.ref this, .int a1] w E := by
  refine XCon.of (own := RX6) (cc := cX6_tick) (maxL := 2) (ret := (some .int)) rfl (by decide) rfl (Nat.le_of_ble_eq_true rfl) ?_
  intro p e s m args below meth c C hT0
  show VQ p l e _ s m args below meth c G A 2 0 0 _ 0 [(0, .ref this), (1, .int a1)] [] w
  unfold q_X6_tick at h
  refine v_iload_n C 1 dX6_tick_0 rfl rfl ?_
  refine v_callSi C (av := [.int a1]) (rest := []) gX6_tick_X6_refusalOfTicks rfl ⟨rfl, rfl⟩ hS_X6_refusalOfTicks ⟨(Nat.le_of_ble_eq_true rfl), (Nat.le_of_ble_eq_true rfl)⟩ (r_X6_refusalOfTicks (A := A) rfl) rfl rfl (Nat.le_of_ble_eq_true rfl) dX6_tick_1 ?_
  obtain rfl := Option.some.inj h
  exact xv_callS C hT0 (av := [.int (m_X6_refusalOfTicks a1)]) (rest := []) gX6_tick_X6_throwIf rfl ⟨rfl, rfl⟩ hS_X6_throwIf ⟨(Nat.le_of_ble_eq_true rfl), (Nat.le_of_ble_eq_true rfl)⟩ ⟨(Nat.le_of_ble_eq_true rfl), (Nat.le_of_ble_eq_true rfl)⟩ (x_X6_throwIf hst hE) rfl rfl (Nat.le_of_ble_eq_true rfl) dX6_tick_4
set_option maxRecDepth 100000 in
set_option maxHeartbeats 4000000 in
theorem x_X6_scatter {l : Launch} (hst : l.stackTraces = false) {G : GG} {A : Nat → Prop} {n : Nat} {w : Wd} {this : Nat} {a1 : Int32} {a2 : Int32} {a3 : Int32} {a4 : Int32} {z : Int32} {E : String} (hE : EX z E) (h : q_X6_scatter n w this a1 a2 a3 a4 = some z) : XCon l yX6_scatter wsX6_scatter { frames := 7, cells := 1, slots := 6, locals := 102 } G A [.ref this, .int a1, .int a2, .int a3, .int a4] w E := by
  refine XCon.of (own := RX6) (cc := cX6_scatter) (maxL := 9) (ret := (some .int)) rfl (by decide) rfl (Nat.le_of_ble_eq_true rfl) ?_
  intro p e s m args below meth c C hT0
  show VQ p l e _ s m args below meth c G A 9 0 0 _ 0 [(0, .ref this), (1, .int a1), (2, .int a2), (3, .int a3), (4, .int a4)] [] w
  unfold q_X6_scatter at h
  refine v_iload_n C 1 dX6_scatter_0 rfl rfl ?_
  refine v_iload_n C 2 dX6_scatter_1 rfl rfl ?_
  refine v_iload_n C 3 dX6_scatter_2 rfl rfl ?_
  refine v_iload C 4 dX6_scatter_3 rfl ?_
  refine v_callSi C (av := [.int a1, .int a2, .int a3, .int a4]) (rest := []) gX6_scatter_X6_refusalOfScatter rfl ⟨rfl, rfl⟩ hS_X6_refusalOfScatter ⟨(Nat.le_of_ble_eq_true rfl), (Nat.le_of_ble_eq_true rfl)⟩ (r_X6_refusalOfScatter (A := A) rfl) rfl rfl (Nat.le_of_ble_eq_true rfl) dX6_scatter_5 ?_
  obtain rfl := Option.some.inj h
  exact xv_callS C hT0 (av := [.int (m_X6_refusalOfScatter a1 a2 a3 a4)]) (rest := []) gX6_scatter_X6_throwIf rfl ⟨rfl, rfl⟩ hS_X6_throwIf ⟨(Nat.le_of_ble_eq_true rfl), (Nat.le_of_ble_eq_true rfl)⟩ ⟨(Nat.le_of_ble_eq_true rfl), (Nat.le_of_ble_eq_true rfl)⟩ (x_X6_throwIf hst hE) rfl rfl (Nat.le_of_ble_eq_true rfl) dX6_scatter_8
set_option maxRecDepth 100000 in
set_option maxHeartbeats 4000000 in
theorem x_X6_point {l : Launch} (hst : l.stackTraces = false) {G : GG} {A : Nat → Prop} {n : Nat} {w : Wd} {this : Nat} {a1 : Int32} {a2 : Int32} {z : Int32} {E : String} (hE : EX z E) (h : q_X6_point n w this a1 a2 = some z) : XCon l yX6_point wsX6_point { frames := 7, cells := 1, slots := 6, locals := 102 } G A [.ref this, .int a1, .int a2] w E := by
  refine XCon.of (own := RX6) (cc := cX6_point) (maxL := 3) (ret := (some .int)) rfl (by decide) rfl (Nat.le_of_ble_eq_true rfl) ?_
  intro p e s m args below meth c C hT0
  show VQ p l e _ s m args below meth c G A 3 0 0 _ 0 [(0, .ref this), (1, .int a1), (2, .int a2)] [] w
  unfold q_X6_point at h
  refine v_iload_n C 1 dX6_point_0 rfl rfl ?_
  refine v_bipush C (v := 24) dX6_point_1 (by decide) ?_
  refine v_iload_n C 2 dX6_point_3 rfl rfl ?_
  refine v_iconst C (v := 5) dX6_point_4 (by decide) ?_
  refine v_callSi C (av := [.int a1, .int 24, .int a2, .int 5]) (rest := []) gX6_point_X6_refusalOfValue rfl ⟨rfl, rfl⟩ hS_X6_refusalOfValue ⟨(Nat.le_of_ble_eq_true rfl), (Nat.le_of_ble_eq_true rfl)⟩ (r_X6_refusalOfValue (A := A) rfl) rfl rfl (Nat.le_of_ble_eq_true rfl) dX6_point_5 ?_
  obtain rfl := Option.some.inj h
  exact xv_callS C hT0 (av := [.int (m_X6_refusalOfValue a1 24 a2 5)]) (rest := []) gX6_point_X6_throwIf rfl ⟨rfl, rfl⟩ hS_X6_throwIf ⟨(Nat.le_of_ble_eq_true rfl), (Nat.le_of_ble_eq_true rfl)⟩ ⟨(Nat.le_of_ble_eq_true rfl), (Nat.le_of_ble_eq_true rfl)⟩ (x_X6_throwIf hst hE) rfl rfl (Nat.le_of_ble_eq_true rfl) dX6_point_8
set_option maxRecDepth 100000 in
set_option maxHeartbeats 4000000 in
theorem x_X6_level {l : Launch} (hst : l.stackTraces = false) {G : GG} {A : Nat → Prop} {n : Nat} {w : Wd} {this : Nat} {a1 : Int32} {a2 : Int32} {z : Int32} {E : String} (hE : EX z E) (h : q_X6_level n w this a1 a2 = some z) : XCon l yX6_level wsX6_level { frames := 7, cells := 1, slots := 6, locals := 113 } G A [.ref this, .int a1, .int a2] w E := by
  refine XCon.of (own := RX6) (cc := cX6_level) (maxL := 4) (ret := (some .int)) rfl (by decide) rfl (Nat.le_of_ble_eq_true rfl) ?_
  intro p e s m args below meth c C hT0
  show VQ p l e _ s m args below meth c G A 4 0 0 _ 0 [(0, .ref this), (1, .int a1), (2, .int a2)] [] w
  unfold q_X6_level at h
  refine v_iload_n C 1 dX6_level_0 rfl rfl ?_
  refine v_iconst C (v := 5) dX6_level_1 (by decide) ?_
  refine v_iload_n C 2 dX6_level_2 rfl rfl ?_
  refine v_iconst C (v := 4) dX6_level_3 (by decide) ?_
  refine v_callSi C (av := [.int a1, .int 5, .int a2, .int 4]) (rest := []) gX6_level_X6_refusalOfValue rfl ⟨rfl, rfl⟩ hS_X6_refusalOfValue ⟨(Nat.le_of_ble_eq_true rfl), (Nat.le_of_ble_eq_true rfl)⟩ (r_X6_refusalOfValue (A := A) rfl) rfl rfl (Nat.le_of_ble_eq_true rfl) dX6_level_4 ?_
  obtain rfl := Option.some.inj h
  exact xv_callS C hT0 (av := [.int (m_X6_refusalOfValue a1 5 a2 4)]) (rest := []) gX6_level_X6_throwIf rfl ⟨rfl, rfl⟩ hS_X6_throwIf ⟨(Nat.le_of_ble_eq_true rfl), (Nat.le_of_ble_eq_true rfl)⟩ ⟨(Nat.le_of_ble_eq_true rfl), (Nat.le_of_ble_eq_true rfl)⟩ (x_X6_throwIf hst hE) rfl rfl (Nat.le_of_ble_eq_true rfl) dX6_level_7
set_option maxRecDepth 100000 in
set_option maxHeartbeats 4000000 in
theorem x_X6_node {l : Launch} (hst : l.stackTraces = false) {G : GG} {A : Nat → Prop} {n : Nat} {w : Wd} {this : Nat} {a1 : Int32} {a2 : Int32} {a3 : Int32} {z : Int32} {E : String} (hE : EX z E) (h : q_X6_node n w this a1 a2 a3 = some z) : XCon l yX6_node wsX6_node { frames := 7, cells := 1, slots := 6, locals := 102 } G A [.ref this, .int a1, .int a2, .int a3] w E := by
  refine XCon.of (own := RX6) (cc := cX6_node) (maxL := 6) (ret := (some .int)) rfl (by decide) rfl (Nat.le_of_ble_eq_true rfl) ?_
  intro p e s m args below meth c C hT0
  show VQ p l e _ s m args below meth c G A 6 0 0 _ 0 [(0, .ref this), (1, .int a1), (2, .int a2), (3, .int a3)] [] w
  unfold q_X6_node at h
  refine v_aload_n C 0 dX6_node_0 rfl rfl ?_
  refine v_iload_n C 1 dX6_node_1 rfl rfl ?_
  refine v_iload_n C 2 dX6_node_2 rfl rfl ?_
  refine v_iload_n C 3 dX6_node_3 rfl rfl ?_
  refine v_iconst C (v := 5) dX6_node_4 (by decide) ?_
  obtain ⟨u1, e_u1, h⟩ := bnd h
  obtain ⟨x2, e_x2, h⟩ := bnd h
  refine v_callVi C (ci := 5) (av := [.int a1, .int a2, .int a3, .int 5]) (rest := []) rfl gX6_node_X6_refusalOfNode rfl ⟨rfl, rfl⟩ hV_X6_refusalOfNode ⟨(Nat.le_of_ble_eq_true rfl), (Nat.le_of_ble_eq_true rfl)⟩ e_u1 (r_X6_refusalOfNode (A := A) e_x2) rfl rfl (Nat.le_of_ble_eq_true rfl) dX6_node_5 ?_
  obtain rfl := Option.some.inj h
  exact xv_callS C hT0 (av := [.int x2]) (rest := []) gX6_node_X6_throwIf rfl ⟨rfl, rfl⟩ hS_X6_throwIf ⟨(Nat.le_of_ble_eq_true rfl), (Nat.le_of_ble_eq_true rfl)⟩ ⟨(Nat.le_of_ble_eq_true rfl), (Nat.le_of_ble_eq_true rfl)⟩ (x_X6_throwIf hst hE) rfl rfl (Nat.le_of_ble_eq_true rfl) dX6_node_8
set_option maxRecDepth 100000 in
set_option maxHeartbeats 4000000 in
theorem x_X6_child {l : Launch} (hst : l.stackTraces = false) {G : GG} {A : Nat → Prop} {n : Nat} {w : Wd} {this : Nat} {a1 : Int32} {a2 : Int32} {a3 : Int32} {z : Int32} {E : String} (hE : EX z E) (h : q_X6_child n w this a1 a2 a3 = some z) : XCon l yX6_child wsX6_child { frames := 7, cells := 1, slots := 6, locals := 102 } G A [.ref this, .int a1, .int a2, .int a3] w E := by
  refine XCon.of (own := RX6) (cc := cX6_child) (maxL := 4) (ret := (some .int)) rfl (by decide) rfl (Nat.le_of_ble_eq_true rfl) ?_
  intro p e s m args below meth c C hT0
  show VQ p l e _ s m args below meth c G A 4 0 0 _ 0 [(0, .ref this), (1, .int a1), (2, .int a2), (3, .int a3)] [] w
  unfold q_X6_child at h
  refine v_aload_n C 0 dX6_child_0 rfl rfl ?_
  refine v_iload_n C 1 dX6_child_1 rfl rfl ?_
  refine v_iload_n C 2 dX6_child_2 rfl rfl ?_
  refine v_iload_n C 3 dX6_child_3 rfl rfl ?_
  refine v_iconst C (v := 3) dX6_child_4 (by decide) ?_
  obtain ⟨u1, e_u1, h⟩ := bnd h
  obtain ⟨x2, e_x2, h⟩ := bnd h
  refine v_callVi C (ci := 5) (av := [.int a1, .int a2, .int a3, .int 3]) (rest := []) rfl gX6_child_X6_refusalOfNode rfl ⟨rfl, rfl⟩ hV_X6_refusalOfNode ⟨(Nat.le_of_ble_eq_true rfl), (Nat.le_of_ble_eq_true rfl)⟩ e_u1 (r_X6_refusalOfNode (A := A) e_x2) rfl rfl (Nat.le_of_ble_eq_true rfl) dX6_child_5 ?_
  obtain rfl := Option.some.inj h
  exact xv_callS C hT0 (av := [.int x2]) (rest := []) gX6_child_X6_throwIf rfl ⟨rfl, rfl⟩ hS_X6_throwIf ⟨(Nat.le_of_ble_eq_true rfl), (Nat.le_of_ble_eq_true rfl)⟩ ⟨(Nat.le_of_ble_eq_true rfl), (Nat.le_of_ble_eq_true rfl)⟩ (x_X6_throwIf hst hE) rfl rfl (Nat.le_of_ble_eq_true rfl) dX6_child_8
set_option maxRecDepth 100000 in
set_option maxHeartbeats 4000000 in
theorem x_X6_search {l : Launch} (hst : l.stackTraces = false) {G : GG} {A : Nat → Prop} {n : Nat} {w : Wd} {this : Nat} {a1 : Int32} {a2 : Int32} {a3 : Int32} {a4 : Int32} {z : Int32} {E : String} (hE : EX z E) (h : q_X6_search n w this a1 a2 a3 a4 = some z) : XCon l yX6_search wsX6_search { frames := 7, cells := 1, slots := 6, locals := 143 } G A [.ref this, .int a1, .int a2, .int a3, .int a4] w E := by
  refine XCon.of (own := RX6) (cc := cX6_search) (maxL := 6) (ret := (some .int)) rfl (by decide) rfl (Nat.le_of_ble_eq_true rfl) ?_
  intro p e s m args below meth c C hT0
  show VQ p l e _ s m args below meth c G A 6 0 0 _ 0 [(0, .ref this), (1, .int a1), (2, .int a2), (3, .int a3), (4, .int a4)] [] w
  unfold q_X6_search at h
  refine v_iload_n C 1 dX6_search_0 rfl rfl ?_
  refine v_iload_n C 2 dX6_search_1 rfl rfl ?_
  refine v_callSi C (av := [.int a1, .int a2]) (rest := []) gX6_search_X6_isPosition rfl ⟨rfl, rfl⟩ hS_X6_isPosition ⟨(Nat.le_of_ble_eq_true rfl), (Nat.le_of_ble_eq_true rfl)⟩ (r_X6_isPosition (A := A) rfl) rfl rfl (Nat.le_of_ble_eq_true rfl) dX6_search_2 ?_
  refine v_if_eq C (tgt := 22) dX6_search_5 (by decide) (fun q => ?_) (fun q => ?_)
  · have h := ite_t q h
    refine v_iconst C (v := 2) dX6_search_22 (by decide) ?_
    obtain rfl := Option.some.inj h
    exact xv_callS C hT0 (av := [.int 2]) (rest := []) gX6_search_X6_throwIf rfl ⟨rfl, rfl⟩ hS_X6_throwIf ⟨(Nat.le_of_ble_eq_true rfl), (Nat.le_of_ble_eq_true rfl)⟩ ⟨(Nat.le_of_ble_eq_true rfl), (Nat.le_of_ble_eq_true rfl)⟩ (x_X6_throwIf hst hE) rfl rfl (Nat.le_of_ble_eq_true rfl) dX6_search_23
  · have h := ite_f q h
    refine v_iload C 4 dX6_search_8 rfl ?_
    refine v_iconst C (v := 0) dX6_search_10 (by decide) ?_
    refine v_iconst C (v := 2) dX6_search_11 (by decide) ?_
    refine v_callSi C (av := [.int a4, .int 0, .int 2]) (rest := []) gX6_search_X6_inside rfl ⟨rfl, rfl⟩ hS_X6_inside ⟨(Nat.le_of_ble_eq_true rfl), (Nat.le_of_ble_eq_true rfl)⟩ (r_X6_inside (A := A) rfl) rfl rfl (Nat.le_of_ble_eq_true rfl) dX6_search_12 ?_
    refine v_if_eq C (tgt := 22) dX6_search_15 (by decide) (fun q => ?_) (fun q => ?_)
    · have h := ite_t q h
      refine v_iconst C (v := 2) dX6_search_22 (by decide) ?_
      obtain rfl := Option.some.inj h
      exact xv_callS C hT0 (av := [.int 2]) (rest := []) gX6_search_X6_throwIf rfl ⟨rfl, rfl⟩ hS_X6_throwIf ⟨(Nat.le_of_ble_eq_true rfl), (Nat.le_of_ble_eq_true rfl)⟩ ⟨(Nat.le_of_ble_eq_true rfl), (Nat.le_of_ble_eq_true rfl)⟩ (x_X6_throwIf hst hE) rfl rfl (Nat.le_of_ble_eq_true rfl) dX6_search_23
    · have h := ite_f q h
      refine v_iconst C (v := 0) dX6_search_18 (by decide) ?_
      refine v_goto C (tgt := 23) dX6_search_19 (by decide) ?_
      obtain rfl := Option.some.inj h
      exact xv_callS C hT0 (av := [.int 0]) (rest := []) gX6_search_X6_throwIf rfl ⟨rfl, rfl⟩ hS_X6_throwIf ⟨(Nat.le_of_ble_eq_true rfl), (Nat.le_of_ble_eq_true rfl)⟩ ⟨(Nat.le_of_ble_eq_true rfl), (Nat.le_of_ble_eq_true rfl)⟩ (x_X6_throwIf hst hE) rfl rfl (Nat.le_of_ble_eq_true rfl) dX6_search_23
set_option maxRecDepth 100000 in
set_option maxHeartbeats 4000000 in
theorem x_X6_wouldTouch {l : Launch} (hst : l.stackTraces = false) {G : GG} {A : Nat → Prop} {n : Nat} {w : Wd} {this : Nat} {a1 : Int32} {a2 : Int32} {a3 : Int32} {z : Int32} {E : String} (hE : EX z E) (h : q_X6_wouldTouch n w this a1 a2 a3 = some z) : XCon l yX6_wouldTouch wsX6_wouldTouch { frames := 7, cells := 1, slots := 6, locals := 102 } G A [.ref this, .int a1, .int a2, .int a3] w E := by
  refine XCon.of (own := RX6) (cc := cX6_wouldTouch) (maxL := 6) (ret := (some .int)) rfl (by decide) rfl (Nat.le_of_ble_eq_true rfl) ?_
  intro p e s m args below meth c C hT0
  show VQ p l e _ s m args below meth c G A 6 0 0 _ 0 [(0, .ref this), (1, .int a1), (2, .int a2), (3, .int a3)] [] w
  unfold q_X6_wouldTouch at h
  refine v_aload_n C 0 dX6_wouldTouch_0 rfl rfl ?_
  refine v_iload_n C 1 dX6_wouldTouch_1 rfl rfl ?_
  refine v_iload_n C 2 dX6_wouldTouch_2 rfl rfl ?_
  refine v_iload_n C 3 dX6_wouldTouch_3 rfl rfl ?_
  refine v_iconst C (v := 1) dX6_wouldTouch_4 (by decide) ?_
  obtain ⟨u1, e_u1, h⟩ := bnd h
  obtain ⟨x2, e_x2, h⟩ := bnd h
  refine v_callVi C (ci := 5) (av := [.int a1, .int a2, .int a3, .int 1]) (rest := []) rfl gX6_wouldTouch_X6_refusalOfPlace rfl ⟨rfl, rfl⟩ hV_X6_refusalOfPlace ⟨(Nat.le_of_ble_eq_true rfl), (Nat.le_of_ble_eq_true rfl)⟩ e_u1 (r_X6_refusalOfPlace (A := A) e_x2) rfl rfl (Nat.le_of_ble_eq_true rfl) dX6_wouldTouch_5 ?_
  obtain rfl := Option.some.inj h
  exact xv_callS C hT0 (av := [.int x2]) (rest := []) gX6_wouldTouch_X6_throwIf rfl ⟨rfl, rfl⟩ hS_X6_throwIf ⟨(Nat.le_of_ble_eq_true rfl), (Nat.le_of_ble_eq_true rfl)⟩ ⟨(Nat.le_of_ble_eq_true rfl), (Nat.le_of_ble_eq_true rfl)⟩ (x_X6_throwIf hst hE) rfl rfl (Nat.le_of_ble_eq_true rfl) dX6_wouldTouch_8
set_option maxRecDepth 100000 in
set_option maxHeartbeats 4000000 in
theorem x_X6_open {l : Launch} (hst : l.stackTraces = false) {G : GG} {A : Nat → Prop} {n : Nat} {w : Wd} {this : Nat} {a1 : Int32} {a2 : Int32} {a3 : Int32} {z : Int32} {E : String} (hE : EX z E) (h : q_X6_open n w this a1 a2 a3 = some z) : XCon l yX6_open wsX6_open { frames := 7, cells := 1, slots := 6, locals := 102 } G A [.ref this, .int a1, .int a2, .int a3] w E := by
  refine XCon.of (own := RX6) (cc := cX6_open) (maxL := 4) (ret := (some .int)) rfl (by decide) rfl (Nat.le_of_ble_eq_true rfl) ?_
  intro p e s m args below meth c C hT0
  show VQ p l e _ s m args below meth c G A 4 0 0 _ 0 [(0, .ref this), (1, .int a1), (2, .int a2), (3, .int a3)] [] w
  unfold q_X6_open at h
  refine v_iload_n C 1 dX6_open_0 rfl rfl ?_
  refine v_iload_n C 2 dX6_open_1 rfl rfl ?_
  refine v_iload_n C 3 dX6_open_2 rfl rfl ?_
  refine v_callSi C (av := [.int a1, .int a2, .int a3]) (rest := []) gX6_open_X6_refusalOfOpen rfl ⟨rfl, rfl⟩ hS_X6_refusalOfOpen ⟨(Nat.le_of_ble_eq_true rfl), (Nat.le_of_ble_eq_true rfl)⟩ (r_X6_refusalOfOpen (A := A) rfl) rfl rfl (Nat.le_of_ble_eq_true rfl) dX6_open_3 ?_
  obtain rfl := Option.some.inj h
  exact xv_callS C hT0 (av := [.int (m_X6_refusalOfOpen a1 a2 a3)]) (rest := []) gX6_open_X6_throwIf rfl ⟨rfl, rfl⟩ hS_X6_throwIf ⟨(Nat.le_of_ble_eq_true rfl), (Nat.le_of_ble_eq_true rfl)⟩ ⟨(Nat.le_of_ble_eq_true rfl), (Nat.le_of_ble_eq_true rfl)⟩ (x_X6_throwIf hst hE) rfl rfl (Nat.le_of_ble_eq_true rfl) dX6_open_6
set_option maxRecDepth 100000 in
set_option maxHeartbeats 4000000 in
theorem x_X6_next {l : Launch} (hst : l.stackTraces = false) {G : GG} {A : Nat → Prop} {n : Nat} {w : Wd} {this : Nat} {a1 : Int32} {z : Int32} {E : String} (hE : EX z E) (h : q_X6_next n w this a1 = some z) : XCon l yX6_next wsX6_next { frames := 7, cells := 1, slots := 6, locals := 102 } G A [.ref this, .int a1] w E := by
  refine XCon.of (own := RX6) (cc := cX6_next) (maxL := 3) (ret := (some .int)) rfl (by decide) rfl (Nat.le_of_ble_eq_true rfl) ?_
  intro p e s m args below meth c C hT0
  show VQ p l e _ s m args below meth c G A 3 0 0 _ 0 [(0, .ref this), (1, .int a1)] [] w
  unfold q_X6_next at h
  refine v_iload_n C 1 dX6_next_0 rfl rfl ?_
  refine v_iconst C (v := 0) dX6_next_1 (by decide) ?_
  refine v_iconst C (v := 3) dX6_next_2 (by decide) ?_
  refine v_callSi C (av := [.int a1, .int 0, .int 3]) (rest := []) gX6_next_X6_inside rfl ⟨rfl, rfl⟩ hS_X6_inside ⟨(Nat.le_of_ble_eq_true rfl), (Nat.le_of_ble_eq_true rfl)⟩ (r_X6_inside (A := A) rfl) rfl rfl (Nat.le_of_ble_eq_true rfl) dX6_next_3 ?_
  refine v_if_eq C (tgt := 13) dX6_next_6 (by decide) (fun q => ?_) (fun q => ?_)
  · have h := ite_t q h
    refine v_iconst C (v := 1) dX6_next_13 (by decide) ?_
    obtain rfl := Option.some.inj h
    exact xv_callS C hT0 (av := [.int 1]) (rest := []) gX6_next_X6_throwIf rfl ⟨rfl, rfl⟩ hS_X6_throwIf ⟨(Nat.le_of_ble_eq_true rfl), (Nat.le_of_ble_eq_true rfl)⟩ ⟨(Nat.le_of_ble_eq_true rfl), (Nat.le_of_ble_eq_true rfl)⟩ (x_X6_throwIf hst hE) rfl rfl (Nat.le_of_ble_eq_true rfl) dX6_next_14
  · have h := ite_f q h
    refine v_iconst C (v := 0) dX6_next_9 (by decide) ?_
    refine v_goto C (tgt := 14) dX6_next_10 (by decide) ?_
    obtain rfl := Option.some.inj h
    exact xv_callS C hT0 (av := [.int 0]) (rest := []) gX6_next_X6_throwIf rfl ⟨rfl, rfl⟩ hS_X6_throwIf ⟨(Nat.le_of_ble_eq_true rfl), (Nat.le_of_ble_eq_true rfl)⟩ ⟨(Nat.le_of_ble_eq_true rfl), (Nat.le_of_ble_eq_true rfl)⟩ (x_X6_throwIf hst hE) rfl rfl (Nat.le_of_ble_eq_true rfl) dX6_next_14
set_option maxRecDepth 100000 in
set_option maxHeartbeats 4000000 in
theorem x_X6_cursor {l : Launch} (hst : l.stackTraces = false) {G : GG} {A : Nat → Prop} {n : Nat} {w : Wd} {this : Nat} {a1 : Int32} {a2 : Int32} {z : Int32} {E : String} (hE : EX z E) (h : q_X6_cursor n w this a1 a2 = some z) : XCon l yX6_cursor wsX6_cursor { frames := 7, cells := 1, slots := 6, locals := 102 } G A [.ref this, .int a1, .int a2] w E := by
  refine XCon.of (own := RX6) (cc := cX6_cursor) (maxL := 6) (ret := (some .int)) rfl (by decide) rfl (Nat.le_of_ble_eq_true rfl) ?_
  intro p e s m args below meth c C hT0
  show VQ p l e _ s m args below meth c G A 6 0 0 _ 0 [(0, .ref this), (1, .int a1), (2, .int a2)] [] w
  unfold q_X6_cursor at h
  refine v_iload_n C 1 dX6_cursor_0 rfl rfl ?_
  refine v_iconst C (v := 4) dX6_cursor_1 (by decide) ?_
  refine v_iload_n C 2 dX6_cursor_2 rfl rfl ?_
  refine v_iconst C (v := 5) dX6_cursor_3 (by decide) ?_
  refine v_callSi C (av := [.int a1, .int 4, .int a2, .int 5]) (rest := []) gX6_cursor_X6_refusalOfValue rfl ⟨rfl, rfl⟩ hS_X6_refusalOfValue ⟨(Nat.le_of_ble_eq_true rfl), (Nat.le_of_ble_eq_true rfl)⟩ (r_X6_refusalOfValue (A := A) rfl) rfl rfl (Nat.le_of_ble_eq_true rfl) dX6_cursor_4 ?_
  obtain rfl := Option.some.inj h
  exact xv_callS C hT0 (av := [.int (m_X6_refusalOfValue a1 4 a2 5)]) (rest := []) gX6_cursor_X6_throwIf rfl ⟨rfl, rfl⟩ hS_X6_throwIf ⟨(Nat.le_of_ble_eq_true rfl), (Nat.le_of_ble_eq_true rfl)⟩ ⟨(Nat.le_of_ble_eq_true rfl), (Nat.le_of_ble_eq_true rfl)⟩ (x_X6_throwIf hst hE) rfl rfl (Nat.le_of_ble_eq_true rfl) dX6_cursor_7
set_option maxRecDepth 100000 in
set_option maxHeartbeats 4000000 in
theorem x_X6_nearest {l : Launch} (hst : l.stackTraces = false) {G : GG} {A : Nat → Prop} {n : Nat} {w : Wd} {this : Nat} {a1 : Int32} {a2 : Int32} {a3 : Int32} {z : Int32} {E : String} (hE : EX z E) (h : q_X6_nearest n w this a1 a2 a3 = some z) : XCon l yX6_nearest wsX6_nearest { frames := 7, cells := 1, slots := 6, locals := 102 } G A [.ref this, .int a1, .int a2, .int a3] w E := by
  refine XCon.of (own := RX6) (cc := cX6_nearest) (maxL := 6) (ret := (some .int)) rfl (by decide) rfl (Nat.le_of_ble_eq_true rfl) ?_
  intro p e s m args below meth c C hT0
  show VQ p l e _ s m args below meth c G A 6 0 0 _ 0 [(0, .ref this), (1, .int a1), (2, .int a2), (3, .int a3)] [] w
  unfold q_X6_nearest at h
  refine v_iload_n C 1 dX6_nearest_0 rfl rfl ?_
  refine v_iload_n C 2 dX6_nearest_1 rfl rfl ?_
  refine v_callSi C (av := [.int a1, .int a2]) (rest := []) gX6_nearest_X6_isPosition rfl ⟨rfl, rfl⟩ hS_X6_isPosition ⟨(Nat.le_of_ble_eq_true rfl), (Nat.le_of_ble_eq_true rfl)⟩ (r_X6_isPosition (A := A) rfl) rfl rfl (Nat.le_of_ble_eq_true rfl) dX6_nearest_2 ?_
  refine v_if_eq C (tgt := 16) dX6_nearest_5 (by decide) (fun q => ?_) (fun q => ?_)
  · have h := ite_t q h
    refine v_iconst C (v := 2) dX6_nearest_16 (by decide) ?_
    obtain rfl := Option.some.inj h
    exact xv_callS C hT0 (av := [.int 2]) (rest := []) gX6_nearest_X6_throwIf rfl ⟨rfl, rfl⟩ hS_X6_throwIf ⟨(Nat.le_of_ble_eq_true rfl), (Nat.le_of_ble_eq_true rfl)⟩ ⟨(Nat.le_of_ble_eq_true rfl), (Nat.le_of_ble_eq_true rfl)⟩ (x_X6_throwIf hst hE) rfl rfl (Nat.le_of_ble_eq_true rfl) dX6_nearest_17
  · have h := ite_f q h
    refine v_iload_n C 3 dX6_nearest_8 rfl rfl ?_
    refine v_if_lt C (tgt := 16) dX6_nearest_9 (by decide) (fun q => ?_) (fun q => ?_)
    · have h := ite_t q h
      refine v_iconst C (v := 2) dX6_nearest_16 (by decide) ?_
      obtain rfl := Option.some.inj h
      exact xv_callS C hT0 (av := [.int 2]) (rest := []) gX6_nearest_X6_throwIf rfl ⟨rfl, rfl⟩ hS_X6_throwIf ⟨(Nat.le_of_ble_eq_true rfl), (Nat.le_of_ble_eq_true rfl)⟩ ⟨(Nat.le_of_ble_eq_true rfl), (Nat.le_of_ble_eq_true rfl)⟩ (x_X6_throwIf hst hE) rfl rfl (Nat.le_of_ble_eq_true rfl) dX6_nearest_17
    · have h := ite_f q h
      refine v_iconst C (v := 0) dX6_nearest_12 (by decide) ?_
      refine v_goto C (tgt := 17) dX6_nearest_13 (by decide) ?_
      obtain rfl := Option.some.inj h
      exact xv_callS C hT0 (av := [.int 0]) (rest := []) gX6_nearest_X6_throwIf rfl ⟨rfl, rfl⟩ hS_X6_throwIf ⟨(Nat.le_of_ble_eq_true rfl), (Nat.le_of_ble_eq_true rfl)⟩ ⟨(Nat.le_of_ble_eq_true rfl), (Nat.le_of_ble_eq_true rfl)⟩ (x_X6_throwIf hst hE) rfl rfl (Nat.le_of_ble_eq_true rfl) dX6_nearest_17
set_option maxRecDepth 100000 in
set_option maxHeartbeats 4000000 in
theorem x_X6_within {l : Launch} (hst : l.stackTraces = false) {G : GG} {A : Nat → Prop} {n : Nat} {w : Wd} {this : Nat} {a1 : Int32} {a2 : Int32} {a3 : Int32} {a4 : Int32} {z : Int32} {E : String} (hE : EX z E) (h : q_X6_within n w this a1 a2 a3 a4 = some z) : XCon l yX6_within wsX6_within { frames := 7, cells := 1, slots := 6, locals := 102 } G A [.ref this, .int a1, .int a2, .int a3, .int a4] w E := by
  refine XCon.of (own := RX6) (cc := cX6_within) (maxL := 7) (ret := (some .int)) rfl (by decide) rfl (Nat.le_of_ble_eq_true rfl) ?_
  intro p e s m args below meth c C hT0
  show VQ p l e _ s m args below meth c G A 7 0 0 _ 0 [(0, .ref this), (1, .int a1), (2, .int a2), (3, .int a3), (4, .int a4)] [] w
  unfold q_X6_within at h
  refine v_iload_n C 1 dX6_within_0 rfl rfl ?_
  refine v_iload_n C 2 dX6_within_1 rfl rfl ?_
  refine v_callSi C (av := [.int a1, .int a2]) (rest := []) gX6_within_X6_isPosition rfl ⟨rfl, rfl⟩ hS_X6_isPosition ⟨(Nat.le_of_ble_eq_true rfl), (Nat.le_of_ble_eq_true rfl)⟩ (r_X6_isPosition (A := A) rfl) rfl rfl (Nat.le_of_ble_eq_true rfl) dX6_within_2 ?_
  refine v_if_eq C (tgt := 21) dX6_within_5 (by decide) (fun q => ?_) (fun q => ?_)
  · have h := ite_t q h
    refine v_iconst C (v := 2) dX6_within_21 (by decide) ?_
    obtain rfl := Option.some.inj h
    exact xv_callS C hT0 (av := [.int 2]) (rest := []) gX6_within_X6_throwIf rfl ⟨rfl, rfl⟩ hS_X6_throwIf ⟨(Nat.le_of_ble_eq_true rfl), (Nat.le_of_ble_eq_true rfl)⟩ ⟨(Nat.le_of_ble_eq_true rfl), (Nat.le_of_ble_eq_true rfl)⟩ (x_X6_throwIf hst hE) rfl rfl (Nat.le_of_ble_eq_true rfl) dX6_within_22
  · have h := ite_f q h
    refine v_iload_n C 3 dX6_within_8 rfl rfl ?_
    refine v_iload C 4 dX6_within_9 rfl ?_
    refine v_callSi C (av := [.int a3, .int a4]) (rest := []) gX6_within_X6_isPosition rfl ⟨rfl, rfl⟩ hS_X6_isPosition ⟨(Nat.le_of_ble_eq_true rfl), (Nat.le_of_ble_eq_true rfl)⟩ (r_X6_isPosition (A := A) rfl) rfl rfl (Nat.le_of_ble_eq_true rfl) dX6_within_11 ?_
    refine v_if_eq C (tgt := 21) dX6_within_14 (by decide) (fun q => ?_) (fun q => ?_)
    · have h := ite_t q h
      refine v_iconst C (v := 2) dX6_within_21 (by decide) ?_
      obtain rfl := Option.some.inj h
      exact xv_callS C hT0 (av := [.int 2]) (rest := []) gX6_within_X6_throwIf rfl ⟨rfl, rfl⟩ hS_X6_throwIf ⟨(Nat.le_of_ble_eq_true rfl), (Nat.le_of_ble_eq_true rfl)⟩ ⟨(Nat.le_of_ble_eq_true rfl), (Nat.le_of_ble_eq_true rfl)⟩ (x_X6_throwIf hst hE) rfl rfl (Nat.le_of_ble_eq_true rfl) dX6_within_22
    · have h := ite_f q h
      refine v_iconst C (v := 0) dX6_within_17 (by decide) ?_
      refine v_goto C (tgt := 22) dX6_within_18 (by decide) ?_
      obtain rfl := Option.some.inj h
      exact xv_callS C hT0 (av := [.int 0]) (rest := []) gX6_within_X6_throwIf rfl ⟨rfl, rfl⟩ hS_X6_throwIf ⟨(Nat.le_of_ble_eq_true rfl), (Nat.le_of_ble_eq_true rfl)⟩ ⟨(Nat.le_of_ble_eq_true rfl), (Nat.le_of_ble_eq_true rfl)⟩ (x_X6_throwIf hst hE) rfl rfl (Nat.le_of_ble_eq_true rfl) dX6_within_22
set_option maxRecDepth 100000 in
set_option maxHeartbeats 4000000 in
theorem x_X6_closest {l : Launch} (hst : l.stackTraces = false) {G : GG} {A : Nat → Prop} {n : Nat} {w : Wd} {this : Nat} {a1 : Int32} {z : Int32} {E : String} (hE : EX z E) (h : q_X6_closest n w this a1 = some z) : XCon l yX6_closest wsX6_closest { frames := 7, cells := 1, slots := 6, locals := 102 } G A [.ref this, .int a1] w E := by
  refine XCon.of (own := RX6) (cc := cX6_closest) (maxL := 3) (ret := (some .int)) rfl (by decide) rfl (Nat.le_of_ble_eq_true rfl) ?_
  intro p e s m args below meth c C hT0
  show VQ p l e _ s m args below meth c G A 3 0 0 _ 0 [(0, .ref this), (1, .int a1)] [] w
  unfold q_X6_closest at h
  refine v_iload_n C 1 dX6_closest_0 rfl rfl ?_
  refine v_iconst C (v := 0) dX6_closest_1 (by decide) ?_
  refine v_iconst C (v := 2) dX6_closest_2 (by decide) ?_
  refine v_callSi C (av := [.int a1, .int 0, .int 2]) (rest := []) gX6_closest_X6_inside rfl ⟨rfl, rfl⟩ hS_X6_inside ⟨(Nat.le_of_ble_eq_true rfl), (Nat.le_of_ble_eq_true rfl)⟩ (r_X6_inside (A := A) rfl) rfl rfl (Nat.le_of_ble_eq_true rfl) dX6_closest_3 ?_
  refine v_if_eq C (tgt := 13) dX6_closest_6 (by decide) (fun q => ?_) (fun q => ?_)
  · have h := ite_t q h
    refine v_iconst C (v := 2) dX6_closest_13 (by decide) ?_
    obtain rfl := Option.some.inj h
    exact xv_callS C hT0 (av := [.int 2]) (rest := []) gX6_closest_X6_throwIf rfl ⟨rfl, rfl⟩ hS_X6_throwIf ⟨(Nat.le_of_ble_eq_true rfl), (Nat.le_of_ble_eq_true rfl)⟩ ⟨(Nat.le_of_ble_eq_true rfl), (Nat.le_of_ble_eq_true rfl)⟩ (x_X6_throwIf hst hE) rfl rfl (Nat.le_of_ble_eq_true rfl) dX6_closest_14
  · have h := ite_f q h
    refine v_iconst C (v := 0) dX6_closest_9 (by decide) ?_
    refine v_goto C (tgt := 14) dX6_closest_10 (by decide) ?_
    obtain rfl := Option.some.inj h
    exact xv_callS C hT0 (av := [.int 0]) (rest := []) gX6_closest_X6_throwIf rfl ⟨rfl, rfl⟩ hS_X6_throwIf ⟨(Nat.le_of_ble_eq_true rfl), (Nat.le_of_ble_eq_true rfl)⟩ ⟨(Nat.le_of_ble_eq_true rfl), (Nat.le_of_ble_eq_true rfl)⟩ (x_X6_throwIf hst hE) rfl rfl (Nat.le_of_ble_eq_true rfl) dX6_closest_14
set_option maxRecDepth 100000 in
set_option maxHeartbeats 4000000 in
theorem x_X6_type {l : Launch} (hst : l.stackTraces = false) {G : GG} {A : Nat → Prop} {n : Nat} {w : Wd} {this : Nat} {a1 : Int32} {z : Int32} {E : String} (hE : EX z E) (h : q_X6_type n w this a1 = some z) : XCon l yX6_type wsX6_type { frames := 7, cells := 1, slots := 6, locals := 102 } G A [.ref this, .int a1] w E := by
  refine XCon.of (own := RX6) (cc := cX6_type) (maxL := 2) (ret := (some .int)) rfl (by decide) rfl (Nat.le_of_ble_eq_true rfl) ?_
  intro p e s m args below meth c C hT0
  show VQ p l e _ s m args below meth c G A 2 0 0 _ 0 [(0, .ref this), (1, .int a1)] [] w
  unfold q_X6_type at h
  refine v_aload_n C 0 dX6_type_0 rfl rfl ?_
  refine v_iload_n C 1 dX6_type_1 rfl rfl ?_
  obtain ⟨u1, e_u1, h⟩ := bnd h
  obtain ⟨x2, e_x2, h⟩ := bnd h
  refine v_callVi C (ci := 5) (av := [.int a1]) (rest := []) rfl gX6_type_X6_refusalOfByte rfl ⟨rfl, rfl⟩ hV_X6_refusalOfByte ⟨(Nat.le_of_ble_eq_true rfl), (Nat.le_of_ble_eq_true rfl)⟩ e_u1 (r_X6_refusalOfByte (A := A) e_x2) rfl rfl (Nat.le_of_ble_eq_true rfl) dX6_type_2 ?_
  obtain rfl := Option.some.inj h
  exact xv_callS C hT0 (av := [.int x2]) (rest := []) gX6_type_X6_throwIf rfl ⟨rfl, rfl⟩ hS_X6_throwIf ⟨(Nat.le_of_ble_eq_true rfl), (Nat.le_of_ble_eq_true rfl)⟩ ⟨(Nat.le_of_ble_eq_true rfl), (Nat.le_of_ble_eq_true rfl)⟩ (x_X6_throwIf hst hE) rfl rfl (Nat.le_of_ble_eq_true rfl) dX6_type_5
set_option maxRecDepth 100000 in
set_option maxHeartbeats 4000000 in
theorem x_X6_undo {l : Launch} (hst : l.stackTraces = false) {G : GG} {A : Nat → Prop} {n : Nat} {w : Wd} {this : Nat} {z : Int32} {E : String} (hE : EX z E) (h : q_X6_undo n w this = some z) : XCon l yX6_undo wsX6_undo { frames := 7, cells := 1, slots := 6, locals := 102 } G A [.ref this] w E := by
  refine XCon.of (own := RX6) (cc := cX6_undo) (maxL := 1) (ret := (some .int)) rfl (by decide) rfl (Nat.le_of_ble_eq_true rfl) ?_
  intro p e s m args below meth c C hT0
  show VQ p l e _ s m args below meth c G A 1 0 0 _ 0 [(0, .ref this)] [] w
  unfold q_X6_undo at h
  refine v_aload_n C 0 dX6_undo_0 rfl rfl ?_
  obtain ⟨q1, e_q1, h⟩ := bnd h
  refine v_getf C (ci := 5) (k := 1) rfl inX6_undo_X6 (by decide) fX6_undo_19 dX6_undo_1 (gfR_e e_q1) ?_
  obtain ⟨x2, e_x2, h⟩ := bnd h
  refine v_getf C (ci := 4) (k := 2) rfl inX6_undo_X5 (by decide) fX6_undo_263 dX6_undo_4 (gfI_e e_x2) ?_
  refine v_if_le C (tgt := 14) dX6_undo_7 (by decide) (fun q => ?_) (fun q => ?_)
  · have h := ite_t q h
    refine v_iconst C (v := 3) dX6_undo_14 (by decide) ?_
    obtain rfl := Option.some.inj h
    exact xv_callS C hT0 (av := [.int 3]) (rest := []) gX6_undo_X6_throwIf rfl ⟨rfl, rfl⟩ hS_X6_throwIf ⟨(Nat.le_of_ble_eq_true rfl), (Nat.le_of_ble_eq_true rfl)⟩ ⟨(Nat.le_of_ble_eq_true rfl), (Nat.le_of_ble_eq_true rfl)⟩ (x_X6_throwIf hst hE) rfl rfl (Nat.le_of_ble_eq_true rfl) dX6_undo_15
  · have h := ite_f q h
    refine v_iconst C (v := 0) dX6_undo_10 (by decide) ?_
    refine v_goto C (tgt := 15) dX6_undo_11 (by decide) ?_
    obtain rfl := Option.some.inj h
    exact xv_callS C hT0 (av := [.int 0]) (rest := []) gX6_undo_X6_throwIf rfl ⟨rfl, rfl⟩ hS_X6_throwIf ⟨(Nat.le_of_ble_eq_true rfl), (Nat.le_of_ble_eq_true rfl)⟩ ⟨(Nat.le_of_ble_eq_true rfl), (Nat.le_of_ble_eq_true rfl)⟩ (x_X6_throwIf hst hE) rfl rfl (Nat.le_of_ble_eq_true rfl) dX6_undo_15
