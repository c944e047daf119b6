/-! SCRIPTS: commands are carried out; run -/
theorem dif_le {S S' : Nat → Int32} (hw : WF S) (hw' : WF S') (l : Nat) : dif (nds S l) (nds S' l) ≤ 48 := by
  have h1 := nds_len hw l
  have h2 := nds_len hw' l
  unfold dif
  omega
theorem tou_le {S S' : Nat → Int32} (hw : WF S) (hw' : WF S') : ∀ k, touK S S' k ≤ 48 * k
  | 0 => Nat.le_refl _
  | k + 1 => by
    have h1 := tou_le hw hw' k
    have h2 := dif_le hw hw' k
    show touK S S' k + dif (nds S k) (nds S' k) ≤ _
    omega
theorem pas_le {S : Nat → Int32} (hw : WF S) : ∀ k, pasT S k ≤ 240 * k
  | 0 => Nat.le_refl _
  | k + 1 => by
    have h1 := pas_le hw k
    have h2 := tou_le (hw.oneN k) (hw.oneN (k + 1)) 5
    show pasT S k + touK (stepN S k) (stepN S (k + 1)) 5 ≤ _
    omega
theorem spd_all : ∀ k, k < 19 → ∀ l, l < 19 → ¬ (10 * abI (nI k - 9) + abI (nI l - 9) < 0) := by decide +kernel
theorem spd_pos {S : Nat → Int32} (hw : WF S) {i : Nat} (hi : i < 24) : ¬ (10 * abI (S (5 * i + 3)) + abI (S (5 * i + 4)) < 0) := by
  obtain ⟨-, -, -, h3, h4, -⟩ := hw.1 i hi
  obtain ⟨k, hk, e1⟩ := sp_ex h3
  obtain ⟨l, hl, e2⟩ := sp_ex h4
  rw [e1, e2]
  exact spd_all k hk l hl
def rfC (S : Nat → Int32) (wd : Nat) (V : Nat → Int32) : Int32 :=
  if wd = 1 then (if m_X6_isId (V 0) = 0 then 1 else if m_X6_isPosition (V 1) (V 2) = 0 then 2 else if S (5 * (V 0).toNatClampNeg) = 0 then 0 else 3)
  else if wd = 2 then (if m_X6_isId (V 0) = 0 then 1 else if m_X6_isPosition (V 1) (V 2) = 0 then 2 else if S (5 * (V 0).toNatClampNeg) = 1 then 0 else 3)
  else if wd = 3 then (if m_X6_isId (V 0) = 0 then 1 else if S (5 * (V 0).toNatClampNeg) = 0 then 3 else 0)
  else if wd = 4 then (if m_X6_isId (V 0) = 0 then 1 else if m_X6_inside (V 1) (-9) 9 = 0 then 2 else if m_X6_inside (V 2) (-9) 9 = 0 then 2 else if S (5 * (V 0).toNatClampNeg) = 0 then 3 else 0)
  else m_X6_refusalOfTicks (V 0)
theorem rfC_1 (S : Nat → Int32) (V : Nat → Int32) : rfC S 1 V = (if m_X6_isId (V 0) = 0 then 1 else if m_X6_isPosition (V 1) (V 2) = 0 then 2 else if S (5 * (V 0).toNatClampNeg) = 0 then 0 else 3) := by
  unfold rfC
  rw [if_pos rfl]
theorem rfC_2 (S : Nat → Int32) (V : Nat → Int32) : rfC S 2 V = (if m_X6_isId (V 0) = 0 then 1 else if m_X6_isPosition (V 1) (V 2) = 0 then 2 else if S (5 * (V 0).toNatClampNeg) = 1 then 0 else 3) := by
  unfold rfC
  rw [if_neg (show ¬ (2 : Nat) = 1 by decide), if_pos rfl]
theorem rfC_3 (S : Nat → Int32) (V : Nat → Int32) : rfC S 3 V = (if m_X6_isId (V 0) = 0 then 1 else if S (5 * (V 0).toNatClampNeg) = 0 then 3 else 0) := by
  unfold rfC
  rw [if_neg (show ¬ (3 : Nat) = 1 by decide), if_neg (show ¬ (3 : Nat) = 2 by decide), if_pos rfl]
theorem rfC_4 (S : Nat → Int32) (V : Nat → Int32) : rfC S 4 V = (if m_X6_isId (V 0) = 0 then 1 else if m_X6_inside (V 1) (-9) 9 = 0 then 2 else if m_X6_inside (V 2) (-9) 9 = 0 then 2 else if S (5 * (V 0).toNatClampNeg) = 0 then 3 else 0) := by
  unfold rfC
  rw [if_neg (show ¬ (4 : Nat) = 1 by decide), if_neg (show ¬ (4 : Nat) = 2 by decide), if_neg (show ¬ (4 : Nat) = 3 by decide), if_pos rfl]
theorem rfC_5 (S : Nat → Int32) (V : Nat → Int32) : rfC S 5 V = m_X6_refusalOfTicks (V 0) := by
  unfold rfC
  rw [if_neg (show ¬ (5 : Nat) = 1 by decide), if_neg (show ¬ (5 : Nat) = 2 by decide), if_neg (show ¬ (5 : Nat) = 3 by decide), if_neg (show ¬ (5 : Nat) = 4 by decide)]
def apC (S : Nat → Int32) (wd : Nat) (V : Nat → Int32) : Nat → Int32 :=
  if wd = 1 ∨ wd = 2 then putS S (V 0).toNatClampNeg (V 1) (V 2) else if wd = 3 then clrS S (V 0).toNatClampNeg else if wd = 4 then spdS S (V 0).toNatClampNeg (V 1) (V 2) else stepN S (V 0).toNatClampNeg
section RU
variable {n h c L p : Nat} {w : Wd} {S : Nat → Int32} {P : Nat → Nat → Int32} {B : Nat → Int32} {r fa : Int32} {K : Nat → Nat} {xs : Nat → Int32} {i : Int32} {wd : Nat} {N V : Nat → Int32}
theorem m_refC {wv : Int32} (g : ClI w h S P c) (sf : ScF w (h + 48) L B p fa wv N) (h1 : wd ≠ 0) (h5 : wd ≤ 5) (hN : ∀ i, i < nmF wd → N i = V i) : m_X6_refusalOfCommand n w h (nI (wd - 1)) (h + 48 + 2) = some (rfC S wd V) := by
  have r0 : agI 0 w (h + 48 + 2) 0 = some (N 0) := sf.nr (k := 0) (by decide)
  have r1 : agI 0 w (h + 48 + 2) 1 = some (N 1) := sf.nr (k := 1) (by decide)
  have r2 : agI 0 w (h + 48 + 2) 2 = some (N 2) := sf.nr (k := 2) (by decide)
  have e0 : N 0 = V 0 := hN 0 (by unfold nmF; split <;> omega)
  rcases (show wd = 1 ∨ wd = 2 ∨ wd = 3 ∨ wd = 4 ∨ wd = 5 by omega) with rfl | rfl | rfl | rfl | rfl
  · rw [m_X6_refusalOfCommand, if_pos (show nI (1 - 1) = 0 from rfl), r0, Option.bind_some, r1, Option.bind_some, r2, Option.bind_some, g.ck, Option.bind_some, m_refP g, Option.bind_some, e0, hN 1 (by decide), hN 2 (by decide), rfC_1]
  · rw [m_X6_refusalOfCommand, if_neg (show ¬ nI (2 - 1) = 0 by decide), if_pos (show nI (2 - 1) = 1 from rfl), r0, Option.bind_some, r1, Option.bind_some, r2, Option.bind_some, g.ck, Option.bind_some, m_refP g, Option.bind_some, e0, hN 1 (by decide), hN 2 (by decide), rfC_2]
  · rw [m_X6_refusalOfCommand, if_neg (show ¬ nI (3 - 1) = 0 by decide), if_neg (show ¬ nI (3 - 1) = 1 by decide), if_pos (show nI (3 - 1) = 2 from rfl), r0, Option.bind_some, g.ck, Option.bind_some, m_refD g, Option.bind_some, e0, rfC_3]
  · rw [m_X6_refusalOfCommand, if_neg (show ¬ nI (4 - 1) = 0 by decide), if_neg (show ¬ nI (4 - 1) = 1 by decide), if_neg (show ¬ nI (4 - 1) = 2 by decide), if_pos (show nI (4 - 1) = 3 from rfl), r0, Option.bind_some, r1, Option.bind_some, r2, Option.bind_some, g.ck, Option.bind_some, m_refS g, Option.bind_some, e0, hN 1 (by decide), hN 2 (by decide), rfC_4]
  · rw [m_X6_refusalOfCommand, if_neg (show ¬ nI (5 - 1) = 0 by decide), if_neg (show ¬ nI (5 - 1) = 1 by decide), if_neg (show ¬ nI (5 - 1) = 2 by decide), if_neg (show ¬ nI (5 - 1) = 3 by decide), r0, Option.bind_some, e0, rfC_5]
/-- when it isn't refused -/
theorem rf0_c (h1 : wd ≠ 0) (h5 : wd ≤ 5) (h0 : rfC S wd V = 0) :
    ((wd = 1 ∨ wd = 2) ∧ ∃ a x y, a < 24 ∧ x < 64 ∧ y < 64 ∧ V 0 = nI a ∧ V 1 = nI x ∧ V 2 = nI y ∧ (wd = 1 ∧ S (5 * a) = 0 ∨ wd = 2 ∧ S (5 * a) = 1)) ∨
    (wd = 3 ∧ ∃ a, a < 24 ∧ V 0 = nI a ∧ S (5 * a) ≠ 0) ∨
    (wd = 4 ∧ ∃ a, a < 24 ∧ V 0 = nI a ∧ S (5 * a) ≠ 0 ∧ sp (V 1) ∧ sp (V 2)) ∨
    (wd = 5 ∧ ∃ m, m ≤ 50 ∧ V 0 = nI m) := by
  rcases (show wd = 1 ∨ wd = 2 ∨ wd = 3 ∨ wd = 4 ∨ wd = 5 by omega) with rfl | rfl | rfl | rfl | rfl
  · left
    rw [rfC_1] at h0
    have h0' := h0
    rcases rfP_c (S := S) (a := V 0) (x := V 1) (y := V 2) (e := 0) with hk | ⟨-, a, x, y, ha, hx, hy, e0, e1, e2, hz⟩
    · rw [h0'] at hk
      exact absurd hk (by decide)
    · exact ⟨Or.inl rfl, a, x, y, ha, hx, hy, e0, e1, e2, Or.inl ⟨rfl, hz⟩⟩
  · left
    rw [rfC_2] at h0
    have h0' := h0
    rcases rfP_c (S := S) (a := V 0) (x := V 1) (y := V 2) (e := 1) with hk | ⟨-, a, x, y, ha, hx, hy, e0, e1, e2, hz⟩
    · rw [h0'] at hk
      exact absurd hk (by decide)
    · exact ⟨Or.inr rfl, a, x, y, ha, hx, hy, e0, e1, e2, Or.inr ⟨rfl, hz⟩⟩
  · right; left
    rw [rfC_3] at h0
    have h0' := h0
    rcases id_c (V 0) with e | ⟨e, a, ha, ea⟩
    · rw [if_pos e] at h0'
      exact absurd h0' (by decide)
    · rw [if_neg (show ¬ m_X6_isId (V 0) = 0 by rw [e]; decide), ea, nI_clamp (by omega)] at h0'
      refine ⟨rfl, a, ha, ea, fun z => ?_⟩
      rw [if_pos z] at h0'
      exact absurd h0' (by decide)
  · right; right; left
    rw [rfC_4] at h0
    have h0' := h0
    rcases id_c (V 0) with e | ⟨e, a, ha, ea⟩
    · rw [if_pos e] at h0'
      exact absurd h0' (by decide)
    · rw [if_neg (show ¬ m_X6_isId (V 0) = 0 by rw [e]; decide), ea, nI_clamp (by omega)] at h0'
      rcases sp_c (V 1) with e1 | ⟨e1, s1⟩
      · rw [if_pos e1] at h0'
        exact absurd h0' (by decide)
      · rw [if_neg (show ¬ m_X6_inside (V 1) (-9) 9 = 0 by rw [e1]; decide)] at h0'
        rcases sp_c (V 2) with e2 | ⟨e2, s2⟩
        · rw [if_pos e2] at h0'
          exact absurd h0' (by decide)
        · rw [if_neg (show ¬ m_X6_inside (V 2) (-9) 9 = 0 by rw [e2]; decide)] at h0'
          refine ⟨rfl, a, ha, ea, fun z => ?_, s1, s2⟩
          rw [if_pos z] at h0'
          exact absurd h0' (by decide)
  · right; right; right
    rw [rfC_5] at h0
    have h0' := h0
    rcases tk_c (V 0) with e | ⟨e, m, hm, em⟩
    · rw [m_X6_refusalOfTicks, if_pos e] at h0'
      exact absurd h0' (by decide)
    · exact ⟨rfl, m, hm, em⟩
theorem ap_ok (hw : WF S) (h1 : wd ≠ 0) (h5 : wd ≤ 5) (h0 : rfC S wd V = 0) : WF (apC S wd V) := by
  unfold apC
  rcases rf0_c h1 h5 h0 with ⟨hd, a, x, y, ha, hx, hy, e0, e1, e2, -⟩ | ⟨rfl, a, ha, e0, hz⟩ | ⟨rfl, a, ha, e0, hz, s1, s2⟩ | ⟨rfl, m, hm, e0⟩
  · rw [if_pos hd, e0, e1, e2, nI_clamp (by omega)]
    exact hw.put ha hx hy
  · rw [if_neg (by decide), if_pos rfl, e0, nI_clamp (by omega)]
    exact hw.clr ha
  · rw [if_neg (by decide), if_neg (by decide), if_pos rfl, e0, nI_clamp (by omega)]
    exact hw.spd ha hz s1 s2
  · rw [if_neg (by decide), if_neg (by decide), if_neg (by decide)]
    exact hw.oneN _
theorem m_carry {wv : Int32} (hn : 200 ≤ n) (g : ClI w h S P c) (sf : ScF w (h + 48) L B p fa wv N) (hw : WF S) (h1 : wd ≠ 0) (h5 : wd ≤ 5) (hN : ∀ i, i < nmF wd → N i = V i) (h0 : rfC S wd V = 0) : ∃ w', m_X6_carryOut n w h (nI (wd - 1)) (h + 48 + 2) = some w' ∧ ClI w' h (apC S wd V) P c ∧ FrC w w' h := by
  have r0 : agI 0 w (h + 48 + 2) 0 = some (N 0) := sf.nr (k := 0) (by decide)
  have r1 : agI 0 w (h + 48 + 2) 1 = some (N 1) := sf.nr (k := 1) (by decide)
  have r2 : agI 0 w (h + 48 + 2) 2 = some (N 2) := sf.nr (k := 2) (by decide)
  have e0' : N 0 = V 0 := hN 0 (by unfold nmF; split <;> omega)
  unfold apC
  rcases rf0_c h1 h5 h0 with ⟨hd, a, x, y, ha, hx, hy, e0, e1, e2, -⟩ | ⟨rfl, a, ha, e0, hz⟩ | ⟨rfl, a, ha, e0, hz, s1, s2⟩ | ⟨rfl, m, hm, e0⟩
  · have t1 : N 1 = V 1 := hN 1 (by rcases hd with rfl | rfl <;> decide)
    have t2 : N 2 = V 2 := hN 2 (by rcases hd with rfl | rfl <;> decide)
    rw [e0', e0] at r0
    rw [t1, e1] at r1
    rw [t2, e2] at r2
    obtain ⟨w1, f1, g1, q1⟩ := m_place6 (n := n) (by omega) g hw ha hx hy
    refine ⟨w1, ?_, ?_, q1⟩
    · rcases hd with rfl | rfl
      · rw [m_X6_carryOut, if_pos (show nI (1 - 1) = 0 from rfl), r0, Option.bind_some, r1, Option.bind_some, r2, Option.bind_some, g.ck, Option.bind_some, f1, Option.bind_some]
      · rw [m_X6_carryOut, if_neg (show ¬ nI (2 - 1) = 0 by decide), if_pos (show nI (2 - 1) = 1 from rfl), r0, Option.bind_some, r1, Option.bind_some, r2, Option.bind_some, g.ck, Option.bind_some, f1, Option.bind_some]
    · rw [if_pos hd, e0, e1, e2, nI_clamp (by omega)]
      exact g1
  · rw [e0', e0] at r0
    obtain ⟨w1, f1, g1, q1⟩ := m_takeOut6 (n := n) (by omega) g hw ha
    refine ⟨w1, ?_, ?_, q1⟩
    · rw [m_X6_carryOut, if_neg (show ¬ nI (3 - 1) = 0 by decide), if_neg (show ¬ nI (3 - 1) = 1 by decide), if_pos (show nI (3 - 1) = 2 from rfl), r0, Option.bind_some, g.ck, Option.bind_some, f1, Option.bind_some]
    · rw [if_neg (by decide), if_pos rfl, e0, nI_clamp (by omega)]
      exact g1
  · rw [e0', e0] at r0
    rw [hN 1 (by decide)] at r1
    rw [hN 2 (by decide)] at r2
    obtain ⟨w1, f1, g1, q1⟩ := m_setSpeed6 (n := n) (u := V 1) (v := V 2) g ha
    refine ⟨w1, ?_, ?_, q1⟩
    · rw [m_X6_carryOut, if_neg (show ¬ nI (4 - 1) = 0 by decide), if_neg (show ¬ nI (4 - 1) = 1 by decide), if_neg (show ¬ nI (4 - 1) = 2 by decide), if_pos (show nI (4 - 1) = 3 from rfl), r0, Option.bind_some, r1, Option.bind_some, r2, Option.bind_some, g.ck, Option.bind_some, f1, Option.bind_some]
    · rw [if_neg (by decide), if_neg (by decide), if_pos rfl, e0, nI_clamp (by omega)]
      exact g1
  · rw [e0', e0] at r0
    obtain ⟨w1, f1, g1, q1⟩ := m_letPass6 (n := n) (by omega) g hw hm
    refine ⟨w1, ?_, ?_, q1⟩
    · rw [m_X6_carryOut, if_neg (show ¬ nI (5 - 1) = 0 by decide), if_neg (show ¬ nI (5 - 1) = 1 by decide), if_neg (show ¬ nI (5 - 1) = 2 by decide), if_neg (show ¬ nI (5 - 1) = 3 by decide), r0, Option.bind_some, g.ck, Option.bind_some, f1, Option.bind_some]
    · rw [if_neg (by decide), if_neg (by decide), if_neg (by decide), e0, nI_clamp (by omega)]
      exact g1
/-- the reference does a command -/
theorem k_does {b : Nat} {I : Nat → Int32} {J : Nat → Int64} {A : Rw} (hn : 200 ≤ n) (m : MoC w b I J A) (hr : Row A S) (hw : WF S) (h17 : I 17 = nI wd) (h1 : wd ≠ 0) (h5 : wd ≤ 5) (hN : ∀ i, i < nmF wd → A 8 i = V i) :
    (rfC S wd V ≠ 0 → m_X7_does n w b = some (0, w)) ∧ (rfC S wd V = 0 → ∃ w' A', m_X7_does n w b = some (1, w') ∧ MoC w' b I J A' ∧ Row A' (apC S wd V) ∧ (∀ j k, 1 ≤ j ∧ j < 4 ∨ j = 8 → A' j k = A j k) ∧ Fr w w' b) := by
  have r0 : agI 0 w (b + 9) 0 = some (A 8 0) := m.r18 (k := 0) (by decide)
  have r1 : agI 0 w (b + 9) 1 = some (A 8 1) := m.r18 (k := 1) (by decide)
  have r2 : agI 0 w (b + 9) 2 = some (A 8 2) := m.r18 (k := 2) (by decide)
  have i17 : gfI 6 17 w b = some (nI wd) := by rw [m.i17, h17]
  have e0' : A 8 0 = V 0 := hN 0 (by unfold nmF; split <;> omega)
  have no : ∀ s : Int32, ¬ s ≤ 0 → m_X7_does_p103 n w s b (A 8 0) (A 8 1) (A 8 2) = some (0, w) := fun s hs => by rw [m_X7_does_p103, if_neg hs]
  have pos : ∀ x, x ≤ 1000000 → ¬ nI x < 0 := fun x hx => nI_pos (by omega)
  rw [m_X7_does, m.g18, Option.bind_some, r0, Option.bind_some, Option.bind_some, r1, Option.bind_some, Option.bind_some, r2, Option.bind_some, i17, Option.bind_some]
  rcases (show wd = 1 ∨ wd = 2 ∨ wd = 3 ∨ wd = 4 ∨ wd = 5 by omega) with rfl | rfl | rfl | rfl | rfl
  · have eb : m_X7_badAdd n w b (A 8 0) (A 8 1) (A 8 2) = some (rfC S 1 V) := by
      rw [k_badA m hr hw, e0', hN 1 (by decide), hN 2 (by decide), rfC_1]
    rw [if_pos (show nI 1 = 1 from rfl), m.c, Option.bind_some, eb, Option.bind_some]
    refine ⟨fun z => no _ fun q => ?_, fun z => ?_⟩
    · have : (rfC S 1 V = 1 ∨ rfC S 1 V = 2 ∨ rfC S 1 V = 3) := (rfP_c (S := S) (a := V 0) (x := V 1) (y := V 2) (e := 0)).resolve_right fun q => z q.1
      rcases this with e | e | e <;> rw [e] at q <;> exact absurd q (by decide)
    · rcases rf0_c h1 h5 z with ⟨-, a, x, y, ha, hx, hy, e0, e1, e2, -⟩ | ⟨q, -⟩ | ⟨q, -⟩ | ⟨q, -⟩
      · obtain ⟨w1, A1, f1, m1, hr1, a1, q1⟩ := k_adds (n := n) hn m hr hw ha hx hy
        have hb := tou_le hw (hw.put ha hx hy) 5
        refine ⟨w1, A1, ?_, m1, ?_, a1, q1⟩
        · rw [z, m_X7_does_p103, if_pos (Int32.le_refl _), i17, Option.bind_some, if_neg (show ¬ nI 1 = 3 by decide), Option.bind_some, if_neg (show ¬ nI 1 = 4 by decide), Option.bind_some, if_neg (show ¬ nI 1 = 5 by decide), m.c, Option.bind_some, e0', hN 1 (by decide), hN 2 (by decide), e0, e1, e2, f1, Option.bind_some, if_neg (pos _ (by omega))]
        · unfold apC
          rw [if_pos (Or.inl rfl), e0, e1, e2, nI_clamp (by omega)]
          exact hr1
      all_goals omega
  · have eb : m_X7_badMove n w b (A 8 0) (A 8 1) (A 8 2) = some (rfC S 2 V) := by
      rw [k_badM m hr hw, e0', hN 1 (by decide), hN 2 (by decide), rfC_2]
    rw [if_neg (show ¬ nI 2 = 1 by decide), Option.bind_some, if_pos (show nI 2 = 2 from rfl), m.c, Option.bind_some, eb, Option.bind_some]
    refine ⟨fun z => no _ fun q => ?_, fun z => ?_⟩
    · have : (rfC S 2 V = 1 ∨ rfC S 2 V = 2 ∨ rfC S 2 V = 3) := (rfP_c (S := S) (a := V 0) (x := V 1) (y := V 2) (e := 1)).resolve_right fun q => z q.1
      rcases this with e | e | e <;> rw [e] at q <;> exact absurd q (by decide)
    · rcases rf0_c h1 h5 z with ⟨-, a, x, y, ha, hx, hy, e0, e1, e2, -⟩ | ⟨q, -⟩ | ⟨q, -⟩ | ⟨q, -⟩
      · obtain ⟨w1, A1, f1, m1, hr1, a1, q1⟩ := k_adds (n := n) hn m hr hw ha hx hy
        have hb := tou_le hw (hw.put ha hx hy) 5
        refine ⟨w1, A1, ?_, m1, ?_, a1, q1⟩
        · rw [z, m_X7_does_p103, if_pos (Int32.le_refl _), i17, Option.bind_some, if_neg (show ¬ nI 2 = 3 by decide), Option.bind_some, if_neg (show ¬ nI 2 = 4 by decide), Option.bind_some, if_neg (show ¬ nI 2 = 5 by decide), m.c, Option.bind_some, e0', hN 1 (by decide), hN 2 (by decide), e0, e1, e2, f1, Option.bind_some, if_neg (pos _ (by omega))]
        · unfold apC
          rw [if_pos (Or.inr rfl), e0, e1, e2, nI_clamp (by omega)]
          exact hr1
      all_goals omega
  · have eb : m_X7_badRemove n w b (A 8 0) = some (if m_X6_isId (V 0) = 0 then 1 else if S (5 * (V 0).toNatClampNeg) = 0 then 2 else 0) := by
      rw [k_badR m hr hw, e0']
    rw [if_neg (show ¬ nI 3 = 1 by decide), Option.bind_some, if_neg (show ¬ nI 3 = 2 by decide), Option.bind_some, if_pos (show nI 3 = 3 from rfl), m.c, Option.bind_some, eb, Option.bind_some]
    have er : rfC S 3 V = (if m_X6_isId (V 0) = 0 then 1 else if S (5 * (V 0).toNatClampNeg) = 0 then 3 else 0) := rfC_3 S V
    refine ⟨fun z => no _ fun q => z ?_, fun z => ?_⟩
    · rw [er]
      by_cases y1 : m_X6_isId (V 0) = 0
      · rw [if_pos y1] at q
        exact absurd q (by decide)
      · rw [if_neg y1] at q ⊢
        by_cases y2 : S (5 * (V 0).toNatClampNeg) = 0
        · rw [if_pos y2] at q
          exact absurd q (by decide)
        · rw [if_neg y2]
    · rcases rf0_c h1 h5 z with ⟨q, -⟩ | ⟨-, a, ha, e0, hz⟩ | ⟨q, -⟩ | ⟨q, -⟩
      · omega
      · obtain ⟨w1, A1, f1, m1, hr1, a1, q1⟩ := k_removes (n := n) hn m hr hw ha
        have hb := tou_le hw (hw.clr ha) 5
        refine ⟨w1, A1, ?_, m1, ?_, a1, q1⟩
        · rw [e0, if_neg (show ¬ m_X6_isId (nI a) = 0 by rw [id_1 ha]; decide), nI_clamp (by omega), if_neg hz, m_X7_does_p103, if_pos (Int32.le_refl _), i17, Option.bind_some, if_pos (show nI 3 = 3 from rfl), m.c, Option.bind_some, e0', e0, f1, Option.bind_some, if_neg (pos _ (by omega))]
        · unfold apC
          rw [if_neg (by decide), if_pos rfl, e0, nI_clamp (by omega)]
          exact hr1
      all_goals omega
  · have eb : m_X7_badSpeed n w b (A 8 0) (A 8 1) (A 8 2) = some (rfC S 4 V) := by
      rw [k_badS m hr hw, e0', hN 1 (by decide), hN 2 (by decide), rfC_4]
    rw [if_neg (show ¬ nI 4 = 1 by decide), Option.bind_some, if_neg (show ¬ nI 4 = 2 by decide), Option.bind_some, if_neg (show ¬ nI 4 = 3 by decide), Option.bind_some, if_pos (show nI 4 = 4 from rfl), m.c, Option.bind_some, eb, Option.bind_some]
    refine ⟨fun z => no _ fun q => z ?_, fun z => ?_⟩
    · have er := rfC_4 S V
      rw [er] at q ⊢
      by_cases y1 : m_X6_isId (V 0) = 0
      · rw [if_pos y1] at q
        exact absurd q (by decide)
      · rw [if_neg y1] at q ⊢
        by_cases y2 : m_X6_inside (V 1) (-9) 9 = 0
        · rw [if_pos y2] at q
          exact absurd q (by decide)
        · rw [if_neg y2] at q ⊢
          by_cases y3 : m_X6_inside (V 2) (-9) 9 = 0
          · rw [if_pos y3] at q
            exact absurd q (by decide)
          · rw [if_neg y3] at q ⊢
            by_cases y4 : S (5 * (V 0).toNatClampNeg) = 0
            · rw [if_pos y4] at q
              exact absurd q (by decide)
            · rw [if_neg y4]
    · rcases rf0_c h1 h5 z with ⟨q, -⟩ | ⟨q, -⟩ | ⟨-, a, ha, e0, hz, s1, s2⟩ | ⟨q, -⟩
      · omega
      · omega
      · obtain ⟨w1, A1, f1, m1, hr1, a1, q1⟩ := k_speeds (n := n) (u := V 1) (v := V 2) m hr ha
        refine ⟨w1, A1, ?_, m1, ?_, a1, q1⟩
        · rw [z, m_X7_does_p103, if_pos (Int32.le_refl _), i17, Option.bind_some, if_neg (show ¬ nI 4 = 3 by decide), Option.bind_some, if_pos (show nI 4 = 4 from rfl), m.c, Option.bind_some, e0', hN 1 (by decide), hN 2 (by decide), e0, f1, Option.bind_some, if_neg (spd_pos hw ha)]
        · unfold apC
          rw [if_neg (by decide), if_neg (by decide), if_pos rfl, e0, nI_clamp (by omega)]
          exact hr1
      · omega
  · rw [if_neg (show ¬ nI 5 = 1 by decide), Option.bind_some, if_neg (show ¬ nI 5 = 2 by decide), Option.bind_some, if_neg (show ¬ nI 5 = 3 by decide), Option.bind_some, if_neg (show ¬ nI 5 = 4 by decide)]
    have er : rfC S 5 V = (if m_X6_inside (V 0) 1 50 = 0 then 2 else 0) := by
      rw [rfC_5, m_X6_refusalOfTicks]
    refine ⟨fun z => ?_, fun z => ?_⟩
    · by_cases y1 : m_X6_inside (V 0) 1 50 = 0
      · rw [e0', if_pos (show m_X7_areTicks (V 0) = 0 from y1), m_X7_does_p103, if_neg (show ¬ (1 : Int32) ≤ 0 by decide)]
      · rw [er, if_neg y1] at z
        exact absurd rfl z
    · rcases rf0_c h1 h5 z with ⟨q, -⟩ | ⟨q, -⟩ | ⟨q, -⟩ | ⟨-, mm, hm, e0⟩
      · omega
      · omega
      · omega
      · have y1 : ¬ m_X6_inside (V 0) 1 50 = 0 := fun y => by
          rw [er, if_pos y] at z
          exact absurd z (by decide)
        obtain ⟨w1, A1, f1, m1, hr1, a1, q1⟩ := k_passes (n := n) hn m hr hw hm
        have hb := pas_le hw mm
        refine ⟨w1, A1, ?_, m1, ?_, a1, q1⟩
        · rw [e0', if_neg (show ¬ m_X7_areTicks (V 0) = 0 from y1), m_X7_does_p103, if_pos (Int32.le_refl _), i17, Option.bind_some, if_neg (show ¬ nI 5 = 3 by decide), Option.bind_some, if_neg (show ¬ nI 5 = 4 by decide), Option.bind_some, if_pos (show nI 5 = 5 from rfl), m.c, Option.bind_some, e0, f1, Option.bind_some, if_neg (pos _ (by omega))]
        · unfold apC
          rw [if_neg (by decide), if_neg (by decide), if_neg (by decide), e0, nI_clamp (by omega)]
          exact hr1
end RU
