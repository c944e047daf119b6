/-! SEARCHES: both come to the smallest node that holds the position -/
def Deep (cs : List Nat) (c q : Nat) : Prop := isNode cs q ∧ hB q c = true ∧ ∀ t, isNode cs t → hB t c = true → sqE q ≤ sqE t
theorem deep_un {cs : List Nat} (hc : C12 cs) {c q r : Nat} (h : Deep cs c q) (g : Deep cs c r) : q = r := by
  have h1 := h.2.2 r g.1 g.2.1
  have h2 := g.2.2 q h.1 h.2.1
  exact node_eq hc h.1 g.1 (Nat.le_antisymm h1 h2) (nest hc g.1 h2 h.2.1 g.2.1)
theorem stp_stop {cs : List Nat} (hc : C12 cs) {q c : Nat} (hq : isNode cs q) (hb : hB q c = true) (h : stpN cs q c = 200000) : Deep cs c q := by
  refine ⟨hq, hb, fun t ht h2 => ?_⟩
  rcases Nat.lt_or_ge (sqE t) (sqE q) with z | z
  · exfalso
    have b1 := inQ_of hc hq hb
    have hd : c / 4 ^ (sqE q - 1) % 4 < 4 := Nat.mod_lt _ (by decide)
    have n2 : inQ q (c / 4 ^ (sqE q - 1) % 4) (t / 8) = true := by
      rw [inQ_iff, ← dv_up (hB_iff.mp h2) (show sqE t ≤ sqE q - 1 by omega)]
      exact inQ_iff.mp b1
    obtain ⟨k1, k2, k3, k4⟩ := kid_sup hc hq ht hd z n2
    have k5 : hB (kidN cs q (c / 4 ^ (sqE q - 1) % 4)) c = true := by
      rw [hB_iff] at k4 ⊢
      rw [← k4]
      exact dv_up (hB_iff.mp h2) k3
    unfold stpN at h
    rw [if_pos ⟨by omega, k5⟩] at h
    omega
  · exact z
theorem dsc_deep {cs qs : List Nat} (hc : C12 cs) (hN : NodesOf cs qs) {c : Nat} : ∀ {f q s : Nat}, isNode cs q → hB q c = true → sqE q ≤ f + 1 → Deep cs c (dsc cs c f q s).1 ∧ (dsc cs c f q s).2 + depN qs (ixN qs q) = s + depN qs (ixN qs (dsc cs c f q s).1)
  | 0, q, s, hq, hb, he => by
    refine ⟨⟨hq, hb, fun t ht _ => ?_⟩, rfl⟩
    have := (node_m hc ht).2.2.1
    show sqE q ≤ sqE t
    omega
  | f + 1, q, s, hq, hb, he => by
    by_cases h : stpN cs q c = 200000
    · have e : dsc cs c (f + 1) q s = (q, s) := by
        rw [dsc, if_pos h]
      rw [e]
      exact ⟨stp_stop hc hq hb h, rfl⟩
    · have e : dsc cs c (f + 1) q s = dsc cs c f (stpN cs q c) (s + 1) := by
        rw [dsc, if_neg h]
      rw [e]
      rcases stp_c hc (c := c) hq with z | ⟨k1, k2, k3, k4, k5⟩
      · exact absurd z h
      · obtain ⟨i1, i2⟩ := dsc_deep hc hN (c := c) (f := f) (q := stpN cs q c) (s := s + 1) k3 k5 (by omega)
        refine ⟨i1, ?_⟩
        obtain ⟨x1, x2⟩ := ixN_mem hN.1 ((hN.2 _).mpr hq)
        have := kid_dep hc hN x1 (d := c / 4 ^ (sqE q - 1) % 4) (Nat.mod_lt _ (by decide)) (by rw [x2, ← k1]; exact k2)
        rw [x2, ← k1] at this
        omega
theorem lvs_deep {S : Nat → Int32} (hw : WF S) {c : Nat} : ∀ {l q s : Nat}, isNode (cdS S l) q → hB q c = true → Deep (cdS S 0) c (lvs S c l q s).1
  | 0, q, s, hq, hb => (dsc_deep (cdS_12 hw) (nds_of hw 0) hq hb (sqE_le q)).1
  | l + 1, q, s, hq, hb => by
    have h := (dsc_deep (cdS_12 hw) (nds_of hw (l + 1)) (s := s) hq hb (sqE_le q)).1
    rw [lvs]
    exact lvs_deep hw (node_mono (fun c hc => cdS_sub hc) h.1) h.2.1
theorem fnd_deep {S : Nat → Int32} (hw : WF S) {c : Nat} (hc : c < 4096) (sk : Bool) : Deep (cdS S 0) c (fnd S c sk).1 := lvs_deep hw (Or.inl rfl) (hB_0 hc)
theorem fnd_same {S : Nat → Int32} (hw : WF S) {c : Nat} (hc : c < 4096) : (fnd S c true).1 = (fnd S c false).1 := deep_un (cdS_12 hw) (fnd_deep hw hc true) (fnd_deep hw hc false)
theorem depN_0 (qs : List Nat) : depN qs 0 = 0 := rfl
theorem fnd_steps {S : Nat → Int32} (hw : WF S) {c : Nat} (hc : c < 4096) : (fnd S c false).2 = depN (nds S 0) (ixN (nds S 0) (fnd S c false).1) := by
  have h := (dsc_deep (cdS_12 hw) (nds_of hw 0) (s := 0) (f := 5) (Or.inl rfl) (hB_0 hc) (sqE_le 0)).2
  rw [ixN_0 hw 0, depN_0, Nat.add_zero, Nat.zero_add] at h
  exact h
theorem gd_ge (qs : List Nat) : ∀ {k i : Nat}, i < k → depN qs i ≤ gdN qs k
  | k + 1, i, h => by
    rw [gdN]
    by_cases e : i = k
    · rw [e]
      exact Nat.le_max_right _ _
    · exact Nat.le_trans (gd_ge qs (k := k) (by omega)) (Nat.le_max_left _ _)
theorem wst_ge {S : Nat → Int32} {sk : Bool} : ∀ {k i : Nat}, i < k → herB S i = true → (fnd S (codeS S i) sk).2 ≤ wstN S sk k
  | k + 1, i, h, g => by
    rw [wstN]
    by_cases e : i = k
    · subst e
      rw [if_pos g]
      exact Nat.le_max_right _ _
    · have := wst_ge (S := S) (sk := sk) (k := k) (show i < k by omega) g
      split
      · exact Nat.le_trans this (Nat.le_max_left _ _)
      · exact this
theorem wst_le {S : Nat → Int32} (hw : WF S) : ∀ {k : Nat}, k ≤ 24 → wstN S false k ≤ gdN (nds S 0) (nds S 0).length
  | 0, _ => Nat.zero_le _
  | k + 1, h => by
    rw [wstN]
    have h1 := wst_le hw (k := k) (by omega)
    split
    · refine Nat.max_le.mpr ⟨h1, ?_⟩
      obtain ⟨x, y, -, -, -, -, -, hc⟩ := codeS_at (hw.1 k (by omega))
      rw [fnd_steps hw hc]
      exact gd_ge _ (ixN_mem (nds_of hw 0).1 (((nds_of hw 0).2 _).mpr (fnd_deep hw hc false).1)).1
    · exact h1
theorem wst_bd {S : Nat → Int32} (hw : WF S) (sk : Bool) : ∀ {k : Nat}, k ≤ 24 → wstN S sk k ≤ 30
  | 0, _ => Nat.zero_le _
  | k + 1, h => by
    rw [wstN]
    have h1 := wst_bd hw sk (k := k) (by omega)
    split
    · exact Nat.max_le.mpr ⟨h1, (fnd_ok hw _ sk).2⟩
    · exact h1
theorem gd_bd (qs : List Nat) (m : Nat) : ∀ k, k ≤ m → gdN qs k ≤ m
  | 0, _ => Nat.zero_le _
  | k + 1, h => by
    rw [gdN]
    exact Nat.max_le.mpr ⟨gd_bd qs m k (by omega), Nat.le_trans (depN_le qs k) (by omega)⟩
/-! TOUCHED SQUARES there and back -/
theorem com_comm {qs rs : List Nat} (hq : Asc qs) (hr : Asc rs) : com qs rs = com rs qs := by
  unfold com
  refine congrArg List.length (asc_ext (List.Pairwise.filter _ hq) (List.Pairwise.filter _ hr) fun q => ?_)
  rw [List.mem_filter, List.mem_filter, decide_eq_true_eq, decide_eq_true_eq]
  exact And.comm
theorem dif_comm {qs rs : List Nat} (hq : Asc qs) (hr : Asc rs) : dif qs rs = dif rs qs := by
  unfold dif
  rw [com_comm hq hr, Nat.add_comm qs.length]
theorem dif_self (qs : List Nat) : dif qs qs = 0 := by
  have : com qs qs = qs.length := by
    unfold com
    rw [List.filter_eq_self.mpr fun q hq => decide_eq_true hq]
  unfold dif
  omega
theorem touK_comm {S S' : Nat → Int32} (hw : WF S) (hw' : WF S') : ∀ k, touK S S' k = touK S' S k
  | 0 => rfl
  | k + 1 => by rw [touK, touK, touK_comm hw hw' k, dif_comm (nds_of hw k).1 (nds_of hw' k).1]
theorem touK_self (S : Nat → Int32) : ∀ k, touK S S k = 0
  | 0 => rfl
  | k + 1 => by rw [touK, touK_self S k, dif_self]
/-! WHERE A SQUARE LIES -/
set_option maxRecDepth 100000 in
theorem xN_4 : ∀ c, c < 4096 → xN c = 2 * xN (c / 4) + c % 2 ∧ yN c = 2 * yN (c / 4) + c / 2 % 2 := by decide +kernel
theorem xN_up : ∀ (k : Nat) {c : Nat}, c < 4096 → ∃ r t, r < 2 ^ k ∧ t < 2 ^ k ∧ xN c = xN (c / 4 ^ k) * 2 ^ k + r ∧ yN c = yN (c / 4 ^ k) * 2 ^ k + t
  | 0, c, _ => ⟨0, 0, by decide, by decide, by rw [Nat.pow_zero, Nat.div_one, Nat.mul_one, Nat.add_zero], by rw [Nat.pow_zero, Nat.div_one, Nat.mul_one, Nat.add_zero]⟩
  | k + 1, c, hc => by
    obtain ⟨r, t, h1, h2, h3, h4⟩ := xN_up k hc
    have hd : c / 4 ^ k < 4096 := Nat.lt_of_le_of_lt (Nat.div_le_self _ _) hc
    obtain ⟨a1, a2⟩ := xN_4 _ hd
    rw [Nat.div_div_eq_div_mul, ← Nat.pow_succ] at a1 a2
    have p2 : (2 : Nat) ^ (k + 1) = 2 * 2 ^ k := by rw [Nat.pow_succ, Nat.mul_comm]
    have m1 : c / 4 ^ k % 2 = 0 ∨ c / 4 ^ k % 2 = 1 := by omega
    have m2 : c / 4 ^ k / 2 % 2 = 0 ∨ c / 4 ^ k / 2 % 2 = 1 := by omega
    refine ⟨c / 4 ^ k % 2 * 2 ^ k + r, c / 4 ^ k / 2 % 2 * 2 ^ k + t, ?_, ?_, ?_, ?_⟩
    · rw [p2]
      rcases m1 with z | z <;> rw [z] <;> omega
    · rw [p2]
      rcases m2 with z | z <;> rw [z] <;> omega
    · rw [h3, a1, p2, Nat.add_mul, Nat.add_assoc, Nat.mul_comm 2 (xN _), Nat.mul_assoc]
    · rw [h4, a2, p2, Nat.add_mul, Nat.add_assoc, Nat.mul_comm 2 (yN _), Nat.mul_assoc]
theorem xN_dn : ∀ (k : Nat) {p : Nat}, p * 4 ^ k < 4096 → xN (p * 4 ^ k) = xN p * 2 ^ k ∧ yN (p * 4 ^ k) = yN p * 2 ^ k
  | 0, p, _ => ⟨by show xN (p * 1) = xN p * 1; rw [Nat.mul_one, Nat.mul_one], by show yN (p * 1) = yN p * 1; rw [Nat.mul_one, Nat.mul_one]⟩
  | k + 1, p, hp => by
    have e1 : p * 4 ^ (k + 1) = p * 4 * 4 ^ k := by rw [Nat.pow_succ, Nat.mul_assoc, Nat.mul_comm 4]
    rw [e1] at hp ⊢
    obtain ⟨b1, b2⟩ := xN_dn k hp
    have hp4 : p * 4 < 4096 := Nat.lt_of_le_of_lt (Nat.le_mul_of_pos_right _ (Nat.pow_pos (by decide))) hp
    obtain ⟨d1, d2⟩ := xN_4 _ hp4
    rw [Nat.mul_div_cancel _ (by decide), show p * 4 % 2 = 0 by omega, Nat.add_zero] at d1
    rw [Nat.mul_div_cancel _ (by decide), show p * 4 / 2 % 2 = 0 by omega, Nat.add_zero] at d2
    rw [b1, b2, d1, d2, Nat.pow_succ, Nat.mul_comm 2 (xN p), Nat.mul_comm 2 (yN p), Nat.mul_assoc, Nat.mul_assoc, Nat.mul_comm 2]
    exact ⟨rfl, rfl⟩
/-- a square's corner, side, and what it holds -/
theorem sq_xy {cs : List Nat} (hc : C12 cs) {q x : Nat} (hq : isNode cs q) (hx : x < 4096) (h : hB q x = true) :
    xN (q / 8) % 2 ^ sqE q = 0 ∧ yN (q / 8) % 2 ^ sqE q = 0 ∧ xN (q / 8) ≤ xN x ∧ xN x < xN (q / 8) + 2 ^ sqE q ∧ yN (q / 8) ≤ yN x ∧ yN x < yN (q / 8) + 2 ^ sqE q := by
  obtain ⟨c, e, h1, h2, h3, rfl, h5, h6⟩ := node_p hc hq
  rw [hB_iff, h5, h6, fl_div (Nat.le_refl _)] at h
  have hk : c / 4 ^ e * 4 ^ e < 4096 := Nat.lt_of_le_of_lt (Nat.div_mul_le_self _ _) h3
  obtain ⟨r, t, a1, a2, a3, a4⟩ := xN_up e hx
  obtain ⟨z1, z2⟩ := xN_dn e hk
  rw [h5, h6, z1, z2]
  rw [h] at a3 a4
  refine ⟨Nat.mul_mod_left _ _, Nat.mul_mod_left _ _, ?_, ?_, ?_, ?_⟩ <;> omega
/-- the quadrant's own corner -/
theorem qd_xy {cs : List Nat} (hc : C12 cs) {q x d : Nat} (hq : isNode cs q) (hd : d < 4) (hx : x < 4096) (h : inQ q d x = true) :
    xN (q / 8) + d % 2 * 2 ^ (sqE q - 1) ≤ xN x ∧ xN x < xN (q / 8) + d % 2 * 2 ^ (sqE q - 1) + 2 ^ (sqE q - 1) ∧ yN (q / 8) + d / 2 * 2 ^ (sqE q - 1) ≤ yN x ∧ yN x < yN (q / 8) + d / 2 * 2 ^ (sqE q - 1) + 2 ^ (sqE q - 1) := by
  obtain ⟨h1, h2⟩ := inQ_un hc hq hd h
  obtain ⟨c, e, g1, g2, g3, rfl, g5, g6⟩ := node_p hc hq
  rw [hB_iff, g5, g6, fl_div (Nat.le_refl _)] at h1
  rw [g5] at h2
  have hk : c / 4 ^ e * 4 ^ e < 4096 := Nat.lt_of_le_of_lt (Nat.div_mul_le_self _ _) g3
  obtain ⟨r, t, a1, a2, a3, a4⟩ := xN_up (e - 1) hx
  obtain ⟨z1, z2⟩ := xN_dn e hk
  have hd1 : x / 4 ^ (e - 1) < 4096 := Nat.lt_of_le_of_lt (Nat.div_le_self _ _) hx
  obtain ⟨b1, b2⟩ := xN_4 _ hd1
  rw [← dv_s g1, h1] at b1 b2
  rw [show x / 4 ^ (e - 1) % 2 = d % 2 by omega] at b1
  rw [show x / 4 ^ (e - 1) / 2 % 2 = d / 2 by omega] at b2
  rw [b1, Nat.add_mul, Nat.mul_assoc] at a3
  rw [b2, Nat.add_mul, Nat.mul_assoc] at a4
  have p2 : (2 : Nat) ^ e = 2 * 2 ^ (e - 1) := by
    obtain ⟨k, rfl⟩ : ∃ k, e = k + 1 := ⟨e - 1, by omega⟩
    rw [Nat.add_sub_cancel, Nat.pow_succ, Nat.mul_comm]
  rw [p2, Nat.mul_left_comm] at z1 z2
  rw [g5, g6, z1, z2]
  refine ⟨?_, ?_, ?_, ?_⟩ <;> omega
