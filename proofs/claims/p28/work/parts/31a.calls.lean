/-! THE CLASS'S CALLS over a state: what each answers and leaves -/
def Kc (w : Wd) (h : Nat) (S : Nat → Int32) (P : Nat → Nat → Int32) (c L : Nat) (B : Nat → Int32) : Prop := WF S ∧ ClI w h S P c ∧ ScC w (h + 48) L B
theorem isId_all : ∀ i, i < 24 → m_X6_isId (nI i) = 1 := by decide +kernel
theorem isPos_all : ∀ x, x < 64 → ∀ y, y < 64 → m_X6_isPosition (nI x) (nI y) = 1 := by decide +kernel
theorem rP {S : Nat → Int32} {id p q : Nat} {e : Int32} (hi : id < 24) (hp : p < 64) (hq : q < 64) : (if m_X6_isId (nI id) = 0 then (1 : Int32) else if m_X6_isPosition (nI p) (nI q) = 0 then 2 else if S (5 * (nI id).toNatClampNeg) = e then 0 else 3) = if S (5 * id) = e then 0 else 3 := by
  rw [if_neg (by rw [isId_all id hi]; decide), if_neg (by rw [isPos_all p hp q hq]; decide), nI_clamp (by omega)]
theorem rD {S : Nat → Int32} {id : Nat} (hi : id < 24) : (if m_X6_isId (nI id) = 0 then (1 : Int32) else if S (5 * (nI id).toNatClampNeg) = 0 then 3 else 0) = if S (5 * id) = 0 then 3 else 0 := by
  rw [if_neg (by rw [isId_all id hi]; decide), nI_clamp (by omega)]
section KA
variable {n h c L : Nat} {w : Wd} {S : Nat → Int32} {P : Nat → Nat → Int32} {B : Nat → Int32}
theorem Kc.le4 (H : Kc w h S P c L B) : c ≤ 4 := by
  obtain ⟨-, ⟨-, ⟨t, rg⟩, -⟩, -⟩ := H
  exact rg.2.1
theorem x_add (hn : 600 ≤ n) (H : Kc w h S P c L B) {id p q : Nat} (hi : id < 24) (hp : p < 64) (hq : q < 64) (hz : S (5 * id) = 0) :
    ∃ w', m_X6_add n w h (nI id) (nI p) (nI q) = some (nI (touK S (putS S id (nI p) (nI q)) 5), w') ∧ Kc w' h (putS S id (nI p) (nI q)) (pshP c S P) (min (c + 1) 4) L B := by
  obtain ⟨hw, g, sc⟩ := H
  obtain ⟨w1, e1, g1, q1⟩ := m_push6 (n := n) (by omega) g hw
  obtain ⟨w2, e2, g2, q2⟩ := m_place6 (n := n) (by omega) g1 hw hi hp hq
  refine ⟨w2, ?_, hw.put hi hp hq, g2, sc.frame fun z a b => (q2 z (by omega)).trans (q1 z (by omega))⟩
  rw [m_X6_add, g.ck, Option.bind_some, m_refP g, Option.bind_some, rP hi hp hq, if_pos hz, throw0, Option.bind_some, g.n1, Option.bind_some, g.n0, Option.bind_some, g.ck4, Option.bind_some, e1, Option.bind_some, g1.ck, Option.bind_some, e2, Option.bind_some]
theorem x_move (hn : 600 ≤ n) (H : Kc w h S P c L B) {id p q : Nat} (hi : id < 24) (hp : p < 64) (hq : q < 64) (hz : S (5 * id) = 1) :
    ∃ w', m_X6_move n w h (nI id) (nI p) (nI q) = some (nI (touK S (putS S id (nI p) (nI q)) 5), w') ∧ Kc w' h (putS S id (nI p) (nI q)) (pshP c S P) (min (c + 1) 4) L B := by
  obtain ⟨hw, g, sc⟩ := H
  obtain ⟨w1, e1, g1, q1⟩ := m_push6 (n := n) (by omega) g hw
  obtain ⟨w2, e2, g2, q2⟩ := m_place6 (n := n) (by omega) g1 hw hi hp hq
  refine ⟨w2, ?_, hw.put hi hp hq, g2, sc.frame fun z a b => (q2 z (by omega)).trans (q1 z (by omega))⟩
  rw [m_X6_move, g.ck, Option.bind_some, m_refP g, Option.bind_some, rP hi hp hq, if_pos hz, throw0, Option.bind_some, g.n1, Option.bind_some, g.n0, Option.bind_some, g.ck4, Option.bind_some, e1, Option.bind_some, g1.ck, Option.bind_some, e2, Option.bind_some]
theorem x_remove (hn : 600 ≤ n) (H : Kc w h S P c L B) {id : Nat} (hi : id < 24) (hz : S (5 * id) ≠ 0) :
    ∃ w', m_X6_remove n w h (nI id) = some (nI (touK S (clrS S id) 5), w') ∧ Kc w' h (clrS S id) (pshP c S P) (min (c + 1) 4) L B := by
  obtain ⟨hw, g, sc⟩ := H
  obtain ⟨w1, e1, g1, q1⟩ := m_push6 (n := n) (by omega) g hw
  obtain ⟨w2, e2, g2, q2⟩ := m_takeOut6 (n := n) (by omega) g1 hw hi
  refine ⟨w2, ?_, hw.clr hi, g2, sc.frame fun z a b => (q2 z (by omega)).trans (q1 z (by omega))⟩
  rw [m_X6_remove, g.ck, Option.bind_some, m_refD g, Option.bind_some, rD hi, if_neg hz, throw0, Option.bind_some, g.n1, Option.bind_some, g.n0, Option.bind_some, g.ck4, Option.bind_some, e1, Option.bind_some, g1.ck, Option.bind_some, e2, Option.bind_some]
theorem rS {id : Nat} {u v : Int32} (hi : id < 24) (hu : m_X6_inside u (-9) 9 = 1) (hv : m_X6_inside v (-9) 9 = 1) : (if m_X6_isId (nI id) = 0 then (1 : Int32) else if m_X6_inside u (-9) 9 = 0 then 2 else if m_X6_inside v (-9) 9 = 0 then 2 else if S (5 * (nI id).toNatClampNeg) = 0 then 3 else 0) = if S (5 * id) = 0 then 3 else 0 := by
  rw [if_neg (by rw [isId_all id hi]; decide), if_neg (by rw [hu]; decide), if_neg (by rw [hv]; decide), nI_clamp (by omega)]
theorem x_speed (hn : 600 ≤ n) (H : Kc w h S P c L B) {id : Nat} {u v : Int32} (hi : id < 24) (hu : m_X6_inside u (-9) 9 = 1) (hv : m_X6_inside v (-9) 9 = 1) (su : sp u) (sv : sp v) (hz : S (5 * id) ≠ 0) :
    ∃ w', m_X6_setVelocity n w h (nI id) u v = some (10 * abI (S (5 * id + 3)) + abI (S (5 * id + 4)), w') ∧ Kc w' h (spdS S id u v) (pshP c S P) (min (c + 1) 4) L B := by
  obtain ⟨hw, g, sc⟩ := H
  obtain ⟨w1, e1, g1, q1⟩ := m_push6 (n := n) (by omega) g hw
  obtain ⟨w2, e2, g2, q2⟩ := m_setSpeed6 (n := n) (u := u) (v := v) g1 hi
  obtain ⟨F, t, f0, fR⟩ := g1.1
  refine ⟨w2, ?_, hw.spd hi hz su sv, g2, sc.frame fun z a b => (q2 z (by omega)).trans (q1 z (by omega))⟩
  rw [m_X6_setVelocity, g.ck, Option.bind_some, m_refS g, Option.bind_some, rS hi hu hv, if_neg hz, throw0, Option.bind_some, g.n1, Option.bind_some, g.n0, Option.bind_some, g.ck4, Option.bind_some, e1, Option.bind_some, g1.n0, Option.bind_some, f0.q3, Option.bind_some, f0.r3 hi, Option.bind_some, Option.bind_some, f0.q4, Option.bind_some, f0.r4 hi, Option.bind_some, g1.ck, Option.bind_some, e2, Option.bind_some, fR.1 3 id (by decide) hi, fR.1 4 id (by decide) hi]
theorem x_tick (hn : 600 ≤ n) (H : Kc w h S P c L B) {m : Nat} (hm : m ≤ 50) (h1 : m_X6_inside (nI m) 1 50 = 1) :
    ∃ w', m_X6_tick n w h (nI m) = some (nI (pasT S m), w') ∧ Kc w' h (stepN S m) (pshP c S P) (min (c + 1) 4) L B := by
  obtain ⟨hw, g, sc⟩ := H
  obtain ⟨w1, e1, g1, q1⟩ := m_push6 (n := n) (by omega) g hw
  obtain ⟨w2, e2, g2, q2⟩ := m_letPass6 (n := n) (by omega) g1 hw hm
  refine ⟨w2, ?_, hw.oneN m, g2, sc.frame fun z a b => (q2 z (by omega)).trans (q1 z (by omega))⟩
  rw [m_X6_tick, m_X6_refusalOfTicks, if_neg (by rw [h1]; decide), throw0, Option.bind_some, g.n1, Option.bind_some, g.n0, Option.bind_some, g.ck4, Option.bind_some, e1, Option.bind_some, g1.ck, Option.bind_some, e2, Option.bind_some]
theorem x_scatter (hn : 600 ≤ n) (H : Kc w h S P c L B) {f m ar sd : Nat} (hf : f < 24) (hm : f + m ≤ 24) (r1 : 1 ≤ ar) (r2 : ar ≤ 64) (hs : sd < 2 ^ 31) (hk : m_X6_refusalOfScatter (nI f) (nI m) (nI ar) (nI sd) = 0) :
    ∃ w', m_X6_scatter n w h (nI f) (nI m) (nI ar) (nI sd) = some (nI (cB (herB (scaS S sd ar f m)) 24), w') ∧ Kc w' h (scaS S sd ar f m) (pshP c S P) (min (c + 1) 4) L B := by
  obtain ⟨hw, g, sc⟩ := H
  obtain ⟨w1, e1, g1, q1⟩ := m_push6 (n := n) (by omega) g hw
  obtain ⟨w2, f2, g2, q2⟩ := m_scatter6 (n := n) (m := m) (ar := ar) (sd := sd) (by omega) g1 hw hf hm r1 r2 hs
  refine ⟨w2, ?_, hw.sca r1 r2 m hm, g2, sc.frame fun z a b => (q2 z (by omega)).trans (q1 z (by omega))⟩
  rw [m_X6_scatter, hk, throw0, Option.bind_some, g.n1, Option.bind_some, g.n0, Option.bind_some, g.ck4, Option.bind_some, e1, Option.bind_some, nI_l hs, f2]
theorem x_would (hn : 600 ≤ n) (H : Kc w h S P c L B) {id p q : Nat} (hi : id < 24) (hp : p < 64) (hq : q < 64) (hz : S (5 * id) = 1) :
    ∃ w', m_X6_wouldTouch n w h (nI id) (nI p) (nI q) = some (nI (touK S (putS S id (nI p) (nI q)) 5), w') ∧ Kc w' h S P c L B := by
  obtain ⟨hw, g, sc⟩ := H
  have g0 := g
  have hw' := hw.put (i := id) hi hp hq
  obtain ⟨F, t0, f0, fR⟩ := g.1
  obtain ⟨w1, e1, s1, q1⟩ := m_put (n := n) (x := nI p) (y := nI q) g.1 hi
  obtain ⟨s0, ⟨t, rg⟩, fo, sp, fs, ob, fc, fx⟩ := g
  unfold FSp at fs
  obtain ⟨w2, e2, fc2, q2⟩ := m_plant (n := n) (a := sp) (by omega) (fx.frame (w' := w1) fun z a b => q1 z (by omega)) s1 hw' (by omega)
  obtain ⟨w3, e3, s3, q3⟩ := m_put (n := n) (x := S (5 * id + 1)) (y := S (5 * id + 2)) (s1.frame (w' := w2) fun z a b => q2 z (by omega)) hi
  rw [put_back hz] at s3
  have Q : ∀ z, z ≠ h → (z < h + 1 ∨ h + 9 < z) → (z < sp ∨ sp + 17 < z) → w3 z = w z := fun z a b d => (q3 z (by omega)).trans ((q2 z (by omega)).trans (q1 z (by omega)))
  have ob1 : ObC w1 h fo sp := by
    unfold ObC
    rw [q1 h (by omega)]
    exact ob
  have ob2 : ObC w2 h fo sp := by
    unfold ObC
    rw [q2 h (by omega)]
    exact ob1
  have ob3 : ObC w3 h fo sp := by
    unfold ObC
    rw [q3 h (by omega)]
    exact ob2
  have fc3 : FoC w3 fo S := fc.frame fun z a b => Q z (by omega) (by omega) (by omega)
  have fx3 : FoC w3 sp (putS S id (nI p) (nI q)) := fc2.frame fun z a b => q3 z (by omega)
  have g3 : ClI w3 h S P c := ⟨s3, ⟨t, rg.frame fun z a b => Q z (by omega) (by omega) (by omega)⟩, fo, sp, fs, ob3, fc3, fx3.x⟩
  have c1 : chk 0 w1 sp = some () := chk_at (show w1 sp = _ by rw [q1 sp (by omega)]; exact fx.1.1)
  have c2 : chk 3 w2 (h + 1) = some () := by
    obtain ⟨F2, t2, f2, -⟩ := s1
    exact chk_at (show w2 (h + 1) = _ by rw [q2 _ (by omega)]; exact f2.1)
  have c3 : chk 0 w3 fo = some () := chk_at fc3.1.1
  refine ⟨w3, ?_, hw, g3, sc.frame fun z a b => Q z (by omega) (by omega) (by omega)⟩
  rw [m_X6_wouldTouch, g0.ck, Option.bind_some, m_refP g0, Option.bind_some, rP hi hp hq, if_pos hz, throw0, Option.bind_some, g0.n0, Option.bind_some, f0.q1, Option.bind_some, f0.r1 hi, Option.bind_some, Option.bind_some, f0.q2, Option.bind_some, f0.r2 hi, Option.bind_some, Option.bind_some, g0.ck3, Option.bind_some, e1, Option.bind_some, gfR_at ob1 rfl, Option.bind_some, gfR_at ob1 rfl, Option.bind_some, c1, Option.bind_some, e2, Option.bind_some, gfR_at ob2 rfl, Option.bind_some, c2, Option.bind_some, fR.1 1 id (by decide) hi, fR.1 2 id (by decide) hi, e3, Option.bind_some, gfR_at ob3 rfl, Option.bind_some, gfR_at ob3 rfl, Option.bind_some, c3, Option.bind_some, m_fdiff (by omega) fc3 fx3 hw hw', Option.bind_some]
theorem x_undo (hn : 600 ≤ n) (H : Kc w h S P c L B) (hc : c ≠ 0) : ∃ w', m_X6_undo n w h = some (nI (c - 1), w') ∧ Kc w' h (P (c - 1)) P (c - 1) L B := by
  have hc4 := H.le4
  obtain ⟨hw, g, sc⟩ := H
  have hp : ¬ nI c ≤ 0 := nI_nle (by omega) (by omega)
  have g0 := g
  obtain ⟨s1, ⟨t, rg⟩, fo, sp, fs, ob, fc, fx⟩ := g
  obtain ⟨hwP, -⟩ := rg.2.2.2.2 (c - 1) (by omega)
  obtain ⟨w1, f1, s2, rg2, q1⟩ := m_pop (n := n) (by omega) s1 rg (by omega)
  unfold FSp at fs
  have fx1 : FoX w1 fo := fc.x.frame fun q a b => q1 q (by omega) (by omega)
  obtain ⟨w2, f2, fc2, q2⟩ := m_plant (n := n) (by omega) fx1 s2 hwP (by omega)
  have ob1 : ObC w1 h fo sp := by
    unfold ObC
    rw [q1 h (by omega) (by omega)]
    exact ob
  have ob2 : ObC w2 h fo sp := by
    unfold ObC
    rw [q2 h (by omega)]
    exact ob1
  have rg3 := rg2.frame (w' := w2) fun q a b => q2 q (by omega)
  have g2 : ClI w2 h (P (c - 1)) P (c - 1) := ⟨s2.frame fun q a b => q2 q (by omega), ⟨_, rg3⟩, fo, sp, fs, ob2, fc2, fx.frame fun q a b => (q2 q (by omega)).trans (q1 q (by omega) (by omega))⟩
  have ck3 : chk 0 w1 fo = some () := chk_at fx1.1.1
  refine ⟨w2, ?_, hwP, g2, sc.frame fun z a b => (q2 z (by omega)).trans (q1 z (by omega) (by omega))⟩
  rw [m_X6_undo, g0.n1, Option.bind_some, g0.cnt, Option.bind_some, if_neg hp, throw0, Option.bind_some, Option.bind_some, g0.n0, Option.bind_some, g0.ck4, Option.bind_some, f1, Option.bind_some, gfR_at ob1 rfl, Option.bind_some, gfR_at ob1 rfl, Option.bind_some, ck3, Option.bind_some, f2, Option.bind_some, g2.n1, Option.bind_some, g2.cnt, Option.bind_some]
theorem x_open (hn : 600 ≤ n) (H : Kc w h S P c L B) {cu p q : Nat} (hc : cu < 4) (hp : p < 64) (hq : q < 64) :
    ∃ w', m_X6_open n w h (nI cu) (nI p) (nI q) = some (nI (cB (herB S) 24), w') ∧ Kc w' h (opnS S cu (nI p) (nI q)) (pshP c S P) (min (c + 1) 4) L B := by
  obtain ⟨hw, g, sc⟩ := H
  obtain ⟨w1, e1, g1, q1⟩ := m_push6 (n := n) (by omega) g hw
  obtain ⟨w2, e2, g2, q2⟩ := m_open6 (x := nI p) (y := nI q) g1 hc
  have h1 : m_X6_refusalOfOpen (nI cu) (nI p) (nI q) = 0 := by
    have : ∀ i, i < 4 → m_X6_inside (nI i) 0 3 = 1 := by decide +kernel
    rw [m_X6_refusalOfOpen, if_neg (by rw [this cu hc]; decide), if_neg (by rw [isPos_all p hp q hq]; decide)]
  refine ⟨w2, ?_, hw.opn hc hp hq, g2, sc.frame fun z a b => (q2 z (by omega)).trans (q1 z (by omega))⟩
  rw [m_X6_open, h1, throw0, Option.bind_some, g.n1, Option.bind_some, g.n0, Option.bind_some, g.ck4, Option.bind_some, e1, Option.bind_some, e2, g2.n0, Option.bind_some, g2.ck3, Option.bind_some, m_count (by omega) g2.1, her_opn, Option.bind_some]
theorem in4_all : ∀ i, i < 4 → m_X6_inside (nI i) 0 3 = 1 := by decide +kernel
theorem x_next (hn : 600 ≤ n) (H : Kc w h S P c L B) {cu : Nat} (hc : cu < 4) :
    ∃ w', m_X6_next n w h (nI cu) = some (vnx (nxM S cu), w') ∧ Kc w' h (nxS S cu) (pshP c S P) (min (c + 1) 4) L B := by
  obtain ⟨hw, g, sc⟩ := H
  obtain ⟨w1, e1, g1, q1⟩ := m_push6 (n := n) (by omega) g hw
  obtain ⟨w2, e2, g2, q2⟩ := m_next6 (n := n) (by omega) g1 hw hc
  refine ⟨w2, ?_, hw.nxOk hc, g2, sc.frame fun z a b => (q2 z (by omega)).trans (q1 z (by omega))⟩
  rw [m_X6_next, if_neg (by rw [in4_all cu hc]; decide), throw0, Option.bind_some, g.n1, Option.bind_some, g.n0, Option.bind_some, g.ck4, Option.bind_some, e1, Option.bind_some, e2]
theorem x_near (hn : 600 ≤ n) (H : Kc w h S P c L B) {p q k : Nat} (hp : p < 64) (hq : q < 64) (hk : k < cB (herB S) 24) : m_X6_nearest n w h (nI p) (nI q) (nI k) = some (laI (itN S p q k 24)) := by
  obtain ⟨hw, g, sc⟩ := H
  have h24 : cB (herB S) 24 ≤ 24 := cB_le _ 24
  rw [m_X6_nearest, if_neg (by rw [isPos_all p hp q hq]; decide), if_neg (nI_pos (by omega)), throw0, Option.bind_some, g.n0, Option.bind_some, g.ck3, Option.bind_some, m_count (by omega) g.1, Option.bind_some, if_pos (nI_lt hk (by omega)), Option.bind_some, g.ck3, Option.bind_some, show m_X4_pairAfter n w (h + 1) (-1) (nI p) (nI q) = some (laI (snN S p q 0)) from m_pairAfter (lo := 0) (by omega) g.1 hw hp hq (by decide), Option.bind_some, m_near6 (by omega) g hw hp hq hk]
end KA
