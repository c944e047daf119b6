/-! SCRIPTS: run -/
theorem nI_sur (x : Int32) : ∃ p, x = nI p := by
  refine ⟨x.toUInt32.toNat, ?_⟩
  unfold nI
  apply Int32.toBitVec_inj.mp
  apply BitVec.eq_of_toNat_eq
  rw [Int32.toBitVec_ofNat', BitVec.toNat_ofNat]
  exact (Nat.mod_eq_of_lt x.toBitVec.isLt).symm
/-- commands carried out, and what is left behind them -/
def runF (B : Nat → Int32) (L : Nat) : Nat → (Nat → Int32) → Nat → Nat → Nat × (Nat → Int32)
  | 0, S, _, j => (j, S)
  | f + 1, S, p, j => if L ≤ spP B L p then (j, S) else if (cmdF B L (spP B L p)).1 = true then if rfC S (cmdF B L (spP B L p)).2.2.1 (cmdF B L (spP B L p)).2.2.2 = 0 then runF B L f (apC S (cmdF B L (spP B L p)).2.2.1 (cmdF B L (spP B L p)).2.2.2) (cmdF B L (spP B L p)).2.1 (j + 1) else (j, S) else (j, S)
theorem run_s (B : Nat → Int32) (L f : Nat) (S : Nat → Int32) (p j : Nat) : runF B L (f + 1) S p j = if L ≤ spP B L p then (j, S) else if (cmdF B L (spP B L p)).1 = true then if rfC S (cmdF B L (spP B L p)).2.2.1 (cmdF B L (spP B L p)).2.2.2 = 0 then runF B L f (apC S (cmdF B L (spP B L p)).2.2.1 (cmdF B L (spP B L p)).2.2.2) (cmdF B L (spP B L p)).2.1 (j + 1) else (j, S) else (j, S) := rfl
theorem flt_le {B : Nat → Int32} {L : Nat} (hL : L ≤ 120) : ∀ f p, p ≤ L → fltF B L f p ≤ L + 1
  | 0, _, _ => Nat.zero_le _
  | f + 1, p, hp => by
    obtain ⟨s1, s2, -, -⟩ := spc_c (B := B) hp hL
    have hb := (cmd_bd (B := B) hL s2).1
    rw [flt_s]
    split
    · exact Nat.zero_le _
    · split
      · exact flt_le hL f _ hb
      · omega
theorem cmd_wd (B : Nat → Int32) (L p : Nat) : (cmdF B L p).2.2.1 ≤ 5 ∧ ((cmdF B L p).1 = true → (cmdF B L p).2.2.1 ≠ 0) := by
  have h := wd_5 B p (ltP B L p)
  unfold cmdF
  by_cases g0 : wdF B p (ltP B L p) = 0
  · rw [if_pos g0]
    exact ⟨Nat.zero_le _, fun q => ft q⟩
  · rw [if_neg g0]
    repeat' split
    all_goals exact ⟨h, fun _ => g0⟩
section RN
variable {n h c L p : Nat} {w : Wd} {S : Nat → Int32} {P : Nat → Nat → Int32} {B : Nat → Int32} {r fa : Int32} {K : Nat → Nat} {xs : Nat → Int32} {i : Int32} {N : Nat → Int32}
theorem m_run38 {wv : Int32} (hn : 200 ≤ n) (hK : KI K) (hL : L ≤ 120) (g : ClI w h S P c) (sf : ScF w (h + 48) L B 0 fa wv N) (hw : WF S) : ∃ z, m_X6_run_p38 K n n w h 0 = some z ∧ z.1 = nI (runF B L 121 S 0 0).1 ∧ WF (runF B L 121 S 0 0).2 ∧ ClI z.2 h (runF B L 121 S 0 0).2 P c ∧ ScC z.2 (h + 48) L B ∧ FrA w z.2 h := by
  generalize hR : runF B L 121 S 0 0 = R
  refine lp (σ := Nat × (Nat → Int32) × Wd) (R := Int32 × Wd) (fun t j s => m_X6_run_p38 K n t s.2.2 h (nI j)) (fun j s => j ≤ s.1 ∧ s.1 ≤ L ∧ runF B L (121 - j) s.2.1 s.1 j = R ∧ WF s.2.1 ∧ ClI s.2.2 h s.2.1 P c ∧ (∃ fa wv N, ScF s.2.2 (h + 48) L B s.1 fa wv N) ∧ FrA w s.2.2 h) _ 120 ?_ ?_ 120 0 n (0, S, w) rfl (by omega) ⟨Nat.le_refl _, Nat.zero_le _, hR, hw, g, ⟨_, _, _, sf⟩, fun _ _ => rfl⟩
  · rintro t j ⟨p, T, v⟩ hj ⟨j1, j2, j3, tw, g1, ⟨fa1, wv1, N1, h3⟩, q3⟩
    change j ≤ p at j1
    change p ≤ L at j2
    change runF B L (121 - j) T p j = R at j3
    change WF T at tw
    change ClI v h T P c at g1
    change ScF v (h + 48) L B p fa1 wv1 N1 at h3
    change FrA w v h at q3
    obtain ⟨c1, c2, c3⟩ := m_cmd (K := K) hn hK h3 hL j2
    obtain ⟨s1, s2, -, -⟩ := spc_c (B := B) j2 hL
    rw [show 121 - j = 121 - (j + 1) + 1 by omega, run_s] at j3
    show (∃ s' : Nat × (Nat → Int32) × Wd, m_X6_run_p38 K n (t + 1) v h (nI j) = m_X6_run_p38 K n t s'.2.2 h (nI (j + 1)) ∧ _) ∨ ∃ r, m_X6_run_p38 K n (t + 1) v h (nI j) = some r ∧ _
    rw [m_X6_run_p38, if_neg (show ¬ (120 : Int32) ≤ nI j from nI_ge hj (by decide)), g1.n2, Option.bind_some, h3.c, Option.bind_some]
    have fin : ∀ v2, Fr2 v v2 (h + 48) → FrA w v2 h := fun v2 q4 z hz => (q4 z (by omega)).trans (q3 z hz)
    by_cases ge : L ≤ spP B L p
    · right
      obtain ⟨w', e, h4, q4⟩ := c1 (by omega)
      rw [if_pos ge] at j3
      subst j3
      exact ⟨(nI j, w'), by rw [e, Option.bind_some, if_pos rfl], rfl, tw, g1.frS q4, h4.sc, fin w' q4⟩
    · rw [if_neg ge] at j3
      by_cases g2 : (cmdF B L (spP B L p)).1 = true
      · obtain ⟨w', N2, e, h4, n0, hN, q4⟩ := c2 (by omega) g2
        obtain ⟨d1, d2⟩ := cmd_bd (B := B) hL s2
        have d3 := d2 g2
        have w5 := (cmd_wd B L (spP B L p)).1
        have g3 := g1.frS q4
        rw [if_pos g2] at j3
        generalize cmdF B L (spP B L p) = C at *
        have er := m_refC (n := n) g3 h4 n0 w5 hN
        by_cases z : rfC T C.2.2.1 C.2.2.2 = 0
        · left
          obtain ⟨w2, e2, g4, q5⟩ := m_carry (n := n) hn g3 h4 tw n0 w5 hN z
          rw [if_pos z] at j3
          refine ⟨(C.2.1, apC T C.2.2.1 C.2.2.2, w2), ?_, show j + 1 ≤ C.2.1 by omega, d1, j3, ap_ok tw n0 w5 z, g4, ⟨_, _, _, h4.frame fun q a b => q5 q (by omega)⟩, fun q hq => (q5 q (by omega)).trans (fin w' q4 q hq)⟩
          rw [e, Option.bind_some, if_neg ne1.1, g3.n2, Option.bind_some, h4.i2, Option.bind_some, Option.bind_some, h4.r3, Option.bind_some, g3.ck, Option.bind_some, er, Option.bind_some, if_pos z, Option.bind_some, h4.i2, Option.bind_some, Option.bind_some, h4.r3, Option.bind_some, Option.bind_some, e2, Option.bind_some, nI_1]
        · right
          rw [if_neg z] at j3
          subst j3
          refine ⟨(nI j, w'), ?_, rfl, tw, g3, h4.sc, fin w' q4⟩
          rw [e, Option.bind_some, if_neg ne1.1, g3.n2, Option.bind_some, h4.i2, Option.bind_some, Option.bind_some, h4.r3, Option.bind_some, g3.ck, Option.bind_some, er, Option.bind_some, if_neg z]
      · right
        obtain ⟨w', p', wd', N', e, h4, q4⟩ := c3 (by omega) (Bool.eq_false_iff.mpr g2)
        rw [if_neg g2] at j3
        subst j3
        exact ⟨(nI j, w'), by rw [e, Option.bind_some, if_pos rfl], rfl, tw, g1.frS q4, h4.sc, fin w' q4⟩
  · rintro t ⟨p, T, v⟩ ⟨j1, j2, j3, tw, g1, ⟨fa1, wv1, N1, h3⟩, q3⟩
    change 120 ≤ p at j1
    change p ≤ L at j2
    change runF B L (120 - 120 + 1) T p 120 = R at j3
    obtain ⟨s1, s2, -, -⟩ := spc_c (B := B) j2 hL
    rw [run_s, if_pos (show L ≤ spP B L p by omega)] at j3
    subst j3
    refine ⟨(nI 120, v), ?_, rfl, tw, g1, h3.sc, q3⟩
    show m_X6_run_p38 K n (t + 1) v h (nI 120) = _
    rw [m_X6_run_p38, if_pos (by decide)]
theorem m_run6 (hn : 200 ≤ n) (hK : KI K) (hL : L ≤ 120) (g : ClI w h S P c) (sc : ScC w (h + 48) L B) (hw : WF S) : ∃ z, m_X6_run K n w h = some z ∧ FrA w z.2 h ∧ ScC z.2 (h + 48) L B ∧
    (fltF B L 121 0 ≠ 0 → z.1 = -10 - nI (fltF B L 121 0 - 1) ∧ ClI z.2 h S P c) ∧
    (fltF B L 121 0 = 0 → z.1 = nI (runF B L 121 S 0 0).1 ∧ WF (runF B L 121 S 0 0).2 ∧ ClI z.2 h (runF B L 121 S 0 0).2 (pshP c S P) (min (c + 1) 4)) := by
  obtain ⟨⟨wd, po, fa, h1⟩, h2, gn, h4⟩ := sc
  obtain ⟨p0, rfl⟩ := nI_sur po
  have sf : ScF w (h + 48) L B p0 fa wd gn := ⟨h1, h2, gn, h4, fun _ _ => rfl⟩
  obtain ⟨y, e, ey, ⟨p1, fa1, wd1, N1, s1⟩, q1⟩ := m_fault (K := K) hn hK sf hL
  obtain ⟨y1, y2⟩ := y
  change y1 = _ at ey
  change ScF y2 (h + 48) L B p1 fa1 wd1 N1 at s1
  change Fr2 w y2 (h + 48) at q1
  have hf : fltF B L 121 0 < 2 ^ 31 := by
    have := flt_le (B := B) hL 121 0 (Nat.zero_le _)
    omega
  have g1 : ClI y2 h S P c := g.frS q1
  rw [m_X6_run, g.n2, Option.bind_some, sf.c, Option.bind_some, e, Option.bind_some]
  by_cases z : fltF B L 121 0 = 0
  · obtain ⟨w2, e2, g2, q2⟩ := m_push6 (n := n) (by omega) g1 hw
    have s2 := s1.frame (w' := w2) fun q a b => q2 q (by omega)
    obtain ⟨w3, e3, s3, q3⟩ := s2.p4 0
    obtain ⟨w4, e4, s4, q4⟩ := s3.p5 (-1)
    obtain ⟨y, e5, a1, a2, a3, a4, q5⟩ := m_run38 (K := K) hn hK hL ((g2.frS q3).frS q4) s4 hw
    refine ⟨y, ?_, fun q hq => (q5 q hq).trans ((q4 q (by omega)).trans ((q3 q (by omega)).trans ((q2 q (by omega)).trans (q1 q (by omega))))), a4, fun x => absurd z x, fun _ => ⟨a1, a2, a3⟩⟩
    rw [if_pos (show y1 = -1 from ey.trans ((laI_m1 hf).mpr z)), g1.n1, Option.bind_some, g1.n0, Option.bind_some, g1.ck4, Option.bind_some, e2, Option.bind_some, g2.n2, Option.bind_some, s2.c, Option.bind_some, m_X2_rewind, show pfV 2 4 w2 (h + 48) (.int 0) = some w3 from e3, Option.bind_some, e4, Option.bind_some, Option.bind_some]
    exact e5
  · refine ⟨(-10 - nI (fltF B L 121 0 - 1), y2), ?_, fun q hq => q1 q (by omega), s1.sc, fun _ => ⟨rfl, g1⟩, fun x => absurd x z⟩
    have el : laI (fltF B L 121 0) = nI (fltF B L 121 0 - 1) := if_neg z
    rw [if_neg (show ¬ y1 = -1 from fun q => z ((laI_m1 hf).mp (ey.symm.trans q))), ey, el]
/-! the reference -/
section RX
variable {b : Nat} {v : Wd} {I : Nat → Int32} {J : Nat → Int64} {A : Rw} {wd : Int32}
theorem Rs.of (m : MoC w b I J A) (h16 : I 16 = nI p) : Rs w b I J A w p (I 17) (A 8) := ⟨I, A, m, h16, rfl, fun _ _ _ => rfl, fun _ _ _ => rfl, fun _ _ => rfl, fun _ _ => rfl⟩
theorem Rs.fr (H : Rs w b I J A v p wd N) : Fr w v b := by
  obtain ⟨I', A', -, -, -, -, -, -, q⟩ := H
  exact q
theorem Rs.mo {w0 : Wd} (H : Rs w b I J A v p wd N) (M : Mo w0 b I J A S P c L B r) : ∃ I' A', Mo v b I' J A' S P c L B r ∧ I' 16 = nI p := by
  obtain ⟨I', A', m, h16, -, hI, hA, -, q⟩ := H
  exact ⟨I', A', M.to m (fun k hk => (hA 0 k (by decide)).trans (M.2.1 k hk)) (fun k hk => hI k (by omega) (by omega)) (fun j k hj => hA j k (by omega)), h16⟩
theorem k_flt (hn : 200 ≤ n) (hL : I 6 = nI L) (h120 : L ≤ 120) (hB : ∀ k, k < L → A 3 k = B k) : ∀ (f t p : Nat) (v : Wd) (wd : Int32) (N : Nat → Int32), p ≤ L → L + 1 ≤ p + f → f ≤ t → Rs w b I J A v (spP B L p) wd N →
    (fltF B L f p = 0 → ∃ v' wd' N', m_X7_run_p15 n t v b = m_X7_run_p49 n v' b ∧ Rs w b I J A v' L wd' N') ∧
    (fltF B L f p ≠ 0 → ∃ v' p' wd' N', m_X7_run_p15 n t v b = some (-10 - nI (fltF B L f p - 1), v') ∧ Rs w b I J A v' p' wd' N') := by
  intro f
  induction f with
  | zero => intro t p v wd N h1 h2; omega
  | succ f ih =>
    intro t p v wd N hp hf ht H
    obtain ⟨t, rfl⟩ : ∃ u, t = u + 1 := ⟨t - 1, by omega⟩
    obtain ⟨s1, s2, -, -⟩ := spc_c (B := B) hp h120
    rw [m_X7_run_p15, H.i16, Option.bind_some, H.i6 hL, Option.bind_some, flt_s]
    generalize spP B L p = s at *
    by_cases g : L ≤ s
    · have es : s = L := by omega
      rw [if_pos g, if_pos (nI_le g (by omega))]
      rw [es] at H
      exact ⟨fun _ => ⟨v, _, _, rfl, H⟩, fun q => absurd rfl q⟩
    · rw [if_neg g, if_neg (nI_ge (show s < L by omega) (by omega)), H.c, Option.bind_some]
      obtain ⟨c1, c0⟩ := k_cmd hn H hL h120 hB s2
      by_cases g2 : (cmdF B L s).1 = true
      · obtain ⟨v1, N1, e, h1, -⟩ := c1 g2
        obtain ⟨d1, d2⟩ := cmd_bd (B := B) h120 s2
        have d3 := d2 g2
        obtain ⟨v2, e2, h2⟩ := k_skips hn h1 hL h120 hB d1
        have ih' := ih t (cmdF B L s).2.1 v2 _ _ d1 (by omega) (by omega) h2
        rw [e, Option.bind_some, if_neg ne1.1, h1.c, Option.bind_some, e2, Option.bind_some, if_pos g2]
        exact ih'
      · obtain ⟨v1, wd1, N1, e, h1⟩ := c0 (Bool.eq_false_iff.mpr g2)
        rw [e, Option.bind_some, if_pos rfl, m_X7_run_p33, h1.i16, Option.bind_some, if_neg g2, Nat.add_sub_cancel]
        exact ⟨fun q => absurd q (Nat.succ_ne_zero _), fun _ => ⟨v1, _, _, _, rfl, h1⟩⟩
theorem run67_0 {t : Nat} {x : Int32} (H : Rs w b I J A v p wd N) (hL : I 6 = nI L) : m_X7_run_p67 n (t + 1) v b x 0 = some (x, v) := by
  rw [m_X7_run_p67, H.i16, Option.bind_some, H.i6 hL, Option.bind_some]
  by_cases g : nI L ≤ nI p
  · rw [if_pos g]
  · rw [if_neg g, if_pos rfl]
theorem k_loop (hn : 200 ≤ n) (h120 : L ≤ 120) : ∀ (f t p j : Nat) (v : Wd) (S : Nat → Int32) (I : Nat → Int32) (A : Rw), p ≤ L → L + 1 ≤ p + f → f < t → WF S → Mo v b I J A S P c L B r → I 16 = nI (spP B L p) → ∃ v', m_X7_run_p67 n t v b (nI j) 1 = some (nI (runF B L f S p j).1, v') ∧ MoI v' b (runF B L f S p j).2 P c L B r ∧ Fr v v' b := by
  intro f
  induction f with
  | zero => intro t p j v S I A h1 h2; omega
  | succ f ih =>
    intro t p j v S I A hp hf ht hw M h16
    obtain ⟨t, rfl⟩ : ∃ u, t = u + 2 := ⟨t - 2, by omega⟩
    obtain ⟨s1, s2, -, -⟩ := spc_c (B := B) hp h120
    have hL := M.2.2.2.2.1.1
    have hB := M.2.2.2.2.2.1
    have H := Rs.of M.1 h16
    rw [m_X7_run_p67, H.i16, Option.bind_some, H.i6 hL, Option.bind_some, run_s]
    generalize spP B L p = s at *
    by_cases g : L ≤ s
    · rw [if_pos g, if_pos (nI_le g (by omega))]
      exact ⟨v, rfl, ⟨_, _, _, M⟩, fun _ _ => rfl⟩
    · rw [if_neg g, if_neg (nI_ge (show s < L by omega) (by omega)), if_neg ne1.1, H.c, Option.bind_some]
      obtain ⟨c1, c0⟩ := k_cmd hn H hL h120 hB s2
      by_cases g2 : (cmdF B L s).1 = true
      · obtain ⟨v1, N1, e, h1, hN⟩ := c1 g2
        obtain ⟨d1, d2⟩ := cmd_bd (B := B) h120 s2
        have d3 := d2 g2
        obtain ⟨w5, w0⟩ := cmd_wd B L s
        have w0' := w0 g2
        have w3 := nmF_3 (cmdF B L s).2.2.1
        rw [if_pos g2, e, Option.bind_some, if_neg ne1.1, h1.c, Option.bind_some]
        generalize cmdF B L s = C at *
        have h1' := h1
        obtain ⟨I1, A1, m1, i16, i17, hI, hA, h8, q1⟩ := h1'
        obtain ⟨x1, x0⟩ := k_does (n := n) hn m1 (fun k hk => (hA 0 k (by decide)).trans (M.2.1 k hk)) hw i17 w0' w5 fun i hi => (h8 i (by omega)).trans (hN i hi)
        by_cases z : rfC S C.2.2.1 C.2.2.2 = 0
        · obtain ⟨v2, A2, e2, m2, r2, a2, q2⟩ := x0 z
          have M2 : Mo v2 b I1 J A2 (apC S C.2.2.1 C.2.2.2) P c L B r := M.to m2 r2 (fun k hk => hI k (by omega) (by omega)) fun j k hj => (a2 j k (by omega)).trans (hA j k (by omega))
          have H2 := Rs.of M2.1 i16
          obtain ⟨v3, e3, h3⟩ := k_skips hn H2 M2.2.2.2.2.1.1 h120 M2.2.2.2.2.2.1 d1
          obtain ⟨I3, A3, M3, k16⟩ := h3.mo M2
          obtain ⟨v4, e4, m4, q4⟩ := ih (t + 1) C.2.1 (j + 1) v3 _ I3 A3 d1 (by omega) (by omega) (ap_ok hw w0' w5 z) M3 k16
          refine ⟨v4, ?_, by rw [if_pos z]; exact m4, fun q hq => (q4 q hq).trans ((h3.fr q hq).trans ((q2 q hq).trans (q1 q hq)))⟩
          rw [e2, Option.bind_some, if_neg ne1.1, H2.c, Option.bind_some, e3, Option.bind_some, nI_1, if_pos z]
          exact e4
        · obtain ⟨v3, e3, h3⟩ := k_skips hn h1 hL h120 hB d1
          obtain ⟨I3, A3, M3, -⟩ := h3.mo M
          refine ⟨v3, ?_, by rw [if_neg z]; exact ⟨_, _, _, M3⟩, h3.fr⟩
          rw [x1 z, Option.bind_some, if_pos rfl, h1.c, Option.bind_some, e3, Option.bind_some, run67_0 h3 hL, if_neg z, Int32.add_zero]
      · obtain ⟨v1, wd1, N1, e, h1⟩ := c0 (Bool.eq_false_iff.mpr g2)
        obtain ⟨d1, -⟩ := cmd_bd (B := B) h120 s2
        obtain ⟨v3, e3, h3⟩ := k_skips hn h1 hL h120 hB d1
        obtain ⟨I3, A3, M3, -⟩ := h3.mo M
        refine ⟨v3, ?_, by rw [if_neg g2]; exact ⟨_, _, _, M3⟩, h3.fr⟩
        rw [e, Option.bind_some, if_pos rfl, h1.c, Option.bind_some, e3, Option.bind_some, run67_0 h3 hL, if_neg g2, Int32.add_zero]
theorem k_run7 (hn : 600 ≤ n) (hw : WF S) (M : MoI w b S P c L B r) : ∃ z, m_X7_run n w b = some z ∧ Fr w z.2 b ∧
    (fltF B L 121 0 ≠ 0 → z.1 = -10 - nI (fltF B L 121 0 - 1) ∧ MoI z.2 b S P c L B 0) ∧
    (fltF B L 121 0 = 0 → z.1 = nI (runF B L 121 S 0 0).1 ∧ MoI z.2 b (runF B L 121 S 0 0).2 (pshP c S P) (min (c + 1) 4) L B 0) := by
  obtain ⟨I, J, A, m⟩ := M
  obtain ⟨w1, e1, m1, q1⟩ := m.1.p4 0
  have M1 : Mo w1 b (setI I 4 0) J A S P c L B 0 := ⟨m1, m.2.1, ⟨by rw [setI_ne (by decide)]; exact m.2.2.1.1, m.2.2.1.2⟩, m.2.2.2.1, ⟨by rw [setI_ne (by decide)]; exact m.2.2.2.2.1.1, m.2.2.2.2.1.2⟩, m.2.2.2.2.2.1, setI_self⟩
  clear m m1
  generalize setI I 4 0 = I1 at M1
  obtain ⟨hL, h120⟩ := M1.2.2.2.2.1
  have hB := M1.2.2.2.2.2.1
  obtain ⟨p0, hp0⟩ := nI_sur (I1 16)
  obtain ⟨w2, e2, H2⟩ := (Rs.of M1.1 hp0).p16 0
  obtain ⟨w3, e3, H3⟩ := k_skips (n := n) (by omega) H2 hL h120 hB (Nat.zero_le _)
  obtain ⟨f1, f0⟩ := k_flt (n := n) (by omega) hL h120 hB 121 n 0 w3 _ _ (Nat.zero_le _) (by omega) (by omega) H3
  rw [m_X7_run, e1, Option.bind_some, show pfV 6 16 w1 b (.int 0) = some w2 from e2, Option.bind_some, H2.c, Option.bind_some, e3, Option.bind_some]
  by_cases z : fltF B L 121 0 = 0
  · obtain ⟨w4, wd4, N4, e4, H4⟩ := f1 z
    obtain ⟨I4, A4, M4, -⟩ := H4.mo M1
    obtain ⟨w5, I5, A5, e5, M5, -, -, q5⟩ := k_saves (n := n) hn M4
    obtain ⟨p5, hp5⟩ := nI_sur (I5 16)
    obtain ⟨w6, e6, H6⟩ := (Rs.of M5.1 hp5).p16 0
    obtain ⟨w7, e7, H7⟩ := k_skips (n := n) (by omega) H6 M5.2.2.2.2.1.1 h120 M5.2.2.2.2.2.1 (Nat.zero_le _)
    obtain ⟨I7, A7, M7, k16⟩ := H7.mo M5
    obtain ⟨w8, e8, M8, q8⟩ := k_loop (n := n) (by omega) h120 121 n 0 0 w7 S I7 A7 (Nat.zero_le _) (by omega) (by omega) hw M7 k16
    refine ⟨(nI (runF B L 121 S 0 0).1, w8), ?_, fun q hq => (q8 q hq).trans ((H7.fr q hq).trans ((q5 q hq).trans ((H4.fr q hq).trans (q1 q hq)))), fun x => absurd z x, fun _ => ⟨rfl, M8⟩⟩
    rw [e4, m_X7_run_p49, H4.c, Option.bind_some, e5, Option.bind_some, show pfV 6 16 w5 b (.int 0) = some w6 from e6, Option.bind_some, H6.c, Option.bind_some, e7, Option.bind_some]
    exact e8
  · obtain ⟨w4, p4, wd4, N4, e4, H4⟩ := f0 z
    obtain ⟨I4, A4, M4, -⟩ := H4.mo M1
    exact ⟨_, e4, fun q hq => (H4.fr q hq).trans (q1 q hq), fun _ => ⟨rfl, ⟨_, _, _, M4⟩⟩, fun x => absurd x z⟩
end RX
theorem B_run (hK : KI K) (hn : 600 ≤ n) (H : InvK h w) : ∃ w', mc_21 K n w h (h + 87) (h + 97) xs i = some w' ∧ InvK h w' := by
  obtain ⟨S, P, c, L, B, r, H⟩ := H
  have H0 := H
  obtain ⟨hw, g, sc, M, o⟩ := H
  have h120 : L ≤ 120 := by
    obtain ⟨I, J, A, m⟩ := M
    exact m.2.2.2.2.1.2
  obtain ⟨z, e, qa, s1, a1, a0⟩ := m_run6 (n := n) (K := K) (by omega) hK h120 g sc hw
  have M1 : MoI z.2 (h + 87) S P c L B r := M.frame fun q a b => qa q (by omega)
  obtain ⟨y, f, qb, b1, b0⟩ := k_run7 (n := n) hn hw M1
  by_cases zf : fltF B L 121 0 = 0
  · obtain ⟨a2, a3, a4⟩ := a0 zf
    obtain ⟨b2, b3⟩ := b0 zf
    refine ⟨y.2, ?_, case_raw H0 a3 a4 s1 qa b3 qb⟩
    rw [mc_21, g.ck, Option.bind_some, e, Option.bind_some, M1.ck, Option.bind_some, f, Option.bind_some, if_pos (a2.trans b2.symm)]
  · obtain ⟨a2, a3⟩ := a1 zf
    obtain ⟨b2, b3⟩ := b1 zf
    refine ⟨y.2, ?_, case_raw H0 hw a3 s1 qa b3 qb⟩
    rw [mc_21, g.ck, Option.bind_some, e, Option.bind_some, M1.ck, Option.bind_some, f, Option.bind_some, if_pos (a2.trans b2.symm)]
end RN
