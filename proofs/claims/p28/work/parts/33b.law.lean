/-! THE LAW, from behind the constructor: it answers true -/
theorem low_ok {n : Nat} {w : Wd} (v : Int32) {d : Nat} (h0 : 0 < d) (hd : d < 2 ^ 31) : ∃ y, y < d ∧ m_L_low n w v (nI d) = some (nI y) := by
  obtain ⟨j, hj, ej⟩ := pk_andE v (m := 2147483647) 31 rfl
  refine ⟨j % d, Nat.mod_lt _ h0, ?_⟩
  rw [m_L_low, ej]
  unfold remI
  rw [if_neg (fun z => by have := (nI_eq (b := 0) hd (by decide)).mp z; omega), jrm_nI hj h0 hd, Option.bind_some]
theorem cell_ok {LL t : Nat} {xs : Nat → Int32} (ht : t < 2 ^ 31) : ∃ v, cellO LL xs (nI t) = some v := by
  unfold cellO
  split
  · exact ⟨_, rfl⟩
  · rw [if_neg (nI_pos ht)]
    exact ⟨_, rfl⟩
section KL
variable {n h c L LL b : Nat} {w : Wd} {S : Nat → Int32} {P : Nat → Nat → Int32} {B : Nat → Int32} {xs : Nat → Int32} {k32 : Wd → Nat → Nat → Int32 → Int32 → Option (Int32 × Wd)}
theorem law_365 (hn : 600 ≤ n) (H : Kc w h S P c L B) {t y : Nat} (ht : t < 16) (hy : y < 10000000) :
    ∃ w' S' P' c', m_L_law_p365 LL xs n k32 w b h 1 (nI t) (nI y) = k32 w' b h 1 (nI (t + 1)) ∧ Kc w' h S' P' c' L B := by
  have e1 : jrm (nI y / 7) 64 = nI (y / 7 % 64) := md (a := 7) (m := 64) (by omega) (by decide) (by decide) (by decide) (by decide)
  have e2 : jrm (nI y / 448) 64 = nI (y / 448 % 64) := md (a := 448) (m := 64) (by omega) (by decide) (by decide) (by decide) (by decide)
  have e3 : jrm (nI y / 3) 24 = nI (y / 3 % 24) := md (a := 3) (m := 24) (by omega) (by decide) (by decide) (by decide) (by decide)
  have e4 : jrm (nI y / 72) 64 = nI (y / 72 % 64) := md (a := 72) (m := 64) (by omega) (by decide) (by decide) (by decide) (by decide)
  have e5 : jrm (nI y / 4608) 64 = nI (y / 4608 % 64) := md (a := 4608) (m := 64) (by omega) (by decide) (by decide) (by decide) (by decide)
  have e6 : jrm (nI y) 4 = nI (y % 4) := jrm_nI (d := 4) (by omega) (by decide) (by decide)
  have e7 : jrm (nI y / 5) 64 = nI (y / 5 % 64) := md (a := 5) (m := 64) (by omega) (by decide) (by decide) (by decide) (by decide)
  have e8 : jrm (nI y / 320) 64 = nI (y / 320 % 64) := md (a := 320) (m := 64) (by omega) (by decide) (by decide) (by decide) (by decide)
  obtain ⟨w1, P1, c1, f1, H1⟩ := l_isMoved hn H (id := y / 3 % 24) (x := y / 72 % 64) (y := y / 4608 % 64) (by omega) (by omega) (by omega)
  have head : m_L_law_p365 LL xs n k32 w b h 1 (nI t) (nI y) = if (jrm (nI t) 4) = 2 then
            (m_L_isGone n w1 h (jrm (nI y) 4) (jrm (nI y / 5) 64) (jrm (nI y / 320) 64)).bind fun z5 =>
            if z5.1 = 0 then
              k32 z5.2 b h 0 (nI t + 1)
            else
              if (jrm (nI t) 5) = 3 then
                (m_L_refused n z5.2 h).bind fun z6 =>
                if z6.1 = 0 then
                  k32 z6.2 b h 0 (nI t + 1)
                else
                  k32 z6.2 b h 1 (nI t + 1)
              else
                k32 z5.2 b h 1 (nI t + 1)
          else
            if (jrm (nI t) 5) = 3 then
              (m_L_refused n w1 h).bind fun z4 =>
              if z4.1 = 0 then
                k32 z4.2 b h 0 (nI t + 1)
              else
                k32 z4.2 b h 1 (nI t + 1)
            else
              k32 w1 b h 1 (nI t + 1) := by
    rw [m_L_law_p365, if_neg (by decide), e1, e2, l_areSearches hn H (by omega) (by omega), Option.bind_some, if_neg (by decide), e3, e4, e5, f1, Option.bind_some, if_neg (show ¬ ((1 : Int32), w1).1 = 0 from ne1.1), l_isClosest hn H1, Option.bind_some, if_neg (by decide)]
  rw [head, e6, e7, e8, nI_1]
  by_cases q1 : jrm (nI t) 4 = 2
  · obtain ⟨w2, S2, P2, c2, f2, H2⟩ := l_isGone hn H1 (cu := y % 4) (x := y / 5 % 64) (y := y / 320 % 64) (by omega) (by omega) (by omega)
    rw [if_pos q1, f2, Option.bind_some, if_neg (show ¬ ((1 : Int32), w2).1 = 0 from ne1.1)]
    by_cases q2 : jrm (nI t) 5 = 3
    · rw [if_pos q2, l_refused hn H2, Option.bind_some, if_neg (show ¬ ((1 : Int32), w2).1 = 0 from ne1.1)]
      exact ⟨w2, S2, P2, c2, rfl, H2⟩
    · rw [if_neg q2]
      exact ⟨w2, S2, P2, c2, rfl, H2⟩
  · rw [if_neg q1]
    by_cases q2 : jrm (nI t) 5 = 3
    · rw [if_pos q2, l_refused hn H1, Option.bind_some, if_neg (show ¬ ((1 : Int32), w1).1 = 0 from ne1.1)]
      exact ⟨w1, S, P1, c1, rfl, H1⟩
    · rw [if_neg q2]
      exact ⟨w1, S, P1, c1, rfl, H1⟩
theorem law_342 (hn : 600 ≤ n) (H : Kc w h S P c L B) {t y : Nat} (ht : t < 16) (hy : y < 10000000) :
    ∃ w' S' P' c', m_L_law_p342 LL xs n k32 n w b h 1 (nI t) (nI y) 0 = k32 w' b h 1 (nI (t + 1)) ∧ Kc w' h S' P' c' L B := by
  obtain ⟨w', S', P', c', e, HK⟩ := law_365 (LL := LL) (b := b) (xs := xs) (k32 := k32) hn H ht hy
  obtain ⟨v, f, -⟩ := lpk (σ := Unit) (τ := Unit) (R := Option (Int32 × Wd)) (fun u l _ => m_L_law_p342 LL xs n k32 u w b h 1 (nI t) (nI y) (nI l)) (fun _ => m_L_law_p365 LL xs n k32 w b h 1 (nI t) (nI y)) (fun _ _ => True) (fun _ => True) 5 (by
    rintro u l ⟨⟩ hl -
    left
    refine ⟨(), ?_, trivial⟩
    rw [m_L_law_p342, if_neg (show ¬ (5 : Int32) ≤ nI l from nI_ge hl (by decide)), if_neg (by decide), l_areNodes hn H hl, Option.bind_some, nI_1]) (by
    rintro u ⟨⟩ -
    exact ⟨(), by rw [m_L_law_p342, if_pos (by decide)], trivial⟩) 5 0 n () rfl (by omega) trivial
  exact ⟨w', S', P', c', Eq.trans f e, HK⟩
theorem law_279 (hn : 600 ≤ n) {v a4 : Int32} (H : Chg w h S L B v) {t y : Nat} (ht : t < 16) (hy : y < 10000000) :
    ∃ w' S' P' c', m_L_law_p279 LL xs n k32 w b h (nI t) a4 (nI y) (prn S) v = k32 w' b h 1 (nI (t + 1)) ∧ Kc w' h S' P' c' L B := by
  rcases H with ⟨hv, S1, P1, c1, H1, hc1, hP⟩ | ⟨hv, P1, c1, H1⟩
  · have hv' : ¬ v < 0 := fun z => absurd (Int32.lt_of_lt_of_le z hv) (Int32.lt_irrefl)
    rw [m_L_law_p279, if_pos hv, m_L_law_p291, if_neg hv']
    by_cases q : ((a4 >>> (25 &&& 31 : Int32)) &&& 3) = 0
    · obtain ⟨w2, e2, H2⟩ := o_undo hn H1 hc1
      have hc4 := H1.le4
      rw [hP] at H2
      rw [if_pos q, e2, Option.bind_some, if_neg (nI_pos (by omega)), l_print hn H2, Option.bind_some, if_pos (cmp_self _)]
      exact law_342 hn H2 ht hy
    · rw [if_neg q]
      exact law_342 hn H1 ht hy
  · subst hv
    rw [m_L_law_p279, if_neg (by decide), if_pos rfl, m_L_law_p291, if_pos (by decide)]
    exact law_342 hn H1 ht hy
theorem law_32 (hn : 600 ≤ n) (H : Kc w h S P c L B) : ∃ z, m_L_law_p32 LL xs n n w b h 1 0 = some z ∧ z.1 = 1 := by
  refine lp (σ := Wd) (R := Int32 × Wd) (fun f t v => m_L_law_p32 LL xs n f v b h 1 (nI t)) (fun _ v => ∃ S P c, Kc v h S P c L B) (fun z => z.1 = 1) 16 ?_ ?_ 16 0 n w rfl (by omega) ⟨S, P, c, H⟩
  · rintro f t v ht ⟨S, P, c, H⟩
    left
    obtain ⟨x, ex⟩ := cell_ok (LL := LL) (xs := xs) (t := t) (by omega)
    obtain ⟨y, hy, ey⟩ := low_ok (n := n) (w := v) (x >>> (4 &&& 31 : Int32)) (d := 10000000) (by decide) (by decide)
    obtain ⟨j, hj, ej⟩ := low_ok (n := n) (w := v) x (d := 8) (by decide) (by decide)
    have i1 : jrm (nI y) 24 = nI (y % 24) := jrm_nI (d := 24) (by omega) (by decide) (by decide)
    have go : ∀ z : Int32 × Wd, Chg z.2 h S L B z.1 → ∃ s', m_L_law_p279 LL xs n (fun w b0 b1 b2 b3 => m_L_law_p32 LL xs n f w b0 b1 b2 b3) z.2 b h (nI t) x (nI y) (prn S) z.1 = m_L_law_p32 LL xs n f s' b h 1 (nI (t + 1)) ∧ ∃ S P c, Kc s' h S P c L B := fun z hz => by
      obtain ⟨w', S', P', c', e, HK⟩ := law_279 (LL := LL) (b := b) (xs := xs) (k32 := fun w b0 b1 b2 b3 => m_L_law_p32 LL xs n f w b0 b1 b2 b3) (a4 := x) hn hz ht hy
      exact ⟨w', e, S', P', c', HK⟩
    have sca : ∃ s', ((remI (nI y / 24) (24 - jrm (nI y) 24)).bind fun x5 => (m_L_scatter n v h (jrm (nI y) 24) (1 + x5) (1 + (jrm (nI y / 500) 64)) (jrm (nI y) 1000000)).bind fun z6 => m_L_law_p279 LL xs n (fun w b0 b1 b2 b3 => m_L_law_p32 LL xs n f w b0 b1 b2 b3) z6.2 b h (nI t) x (nI y) (prn S) z6.1) = m_L_law_p32 LL xs n f s' b h 1 (nI (t + 1)) ∧ ∃ S P c, Kc s' h S P c L B := by
      have i2 : (24 : Int32) - nI (y % 24) = nI (24 - y % 24) := pk_sub (a := 24) (by omega)
      have i3 : nI y / 24 = nI (y / 24) := pk_div (d := 24) (by omega) (by decide) (by decide)
      have i4 : remI (nI (y / 24)) (nI (24 - y % 24)) = some (nI (y / 24 % (24 - y % 24))) := by
        unfold remI
        rw [if_neg (fun z => by have := (nI_eq (b := 0) (by omega) (by decide)).mp z; omega), jrm_nI (by omega) (by omega) (by omega)]
      have i5 : jrm (nI y / 500) 64 = nI (y / 500 % 64) := md (a := 500) (m := 64) (by omega) (by decide) (by decide) (by decide) (by decide)
      have i6 : jrm (nI y) 1000000 = nI (y % 1000000) := jrm_nI (d := 1000000) (by omega) (by decide) (by decide)
      have i7 : ∀ k, (1 : Int32) + nI k = nI (1 + k) := fun k => nI_add 1 k
      have lt : y / 24 % (24 - y % 24) < 24 - y % 24 := Nat.mod_lt _ (by omega)
      obtain ⟨z, ez, hz⟩ := o_scatter hn H (f := y % 24) (m := 1 + y / 24 % (24 - y % 24)) (ar := 1 + y / 500 % 64) (sd := y % 1000000) (by omega) (by omega) (by omega) (by omega) (by omega) (by omega)
      rw [i1, i2, i3, i4, Option.bind_some, i5, i6, i7, i7, ez, Option.bind_some]
      exact go z hz
    have spd : ∃ s', ((m_L_setVelocity n v h (jrm (nI y) 24) ((jrm (nI y / 24) 19) - 9) ((jrm (nI y / 456) 19) - 9)).bind fun z15 => m_L_law_p279 LL xs n (fun w b0 b1 b2 b3 => m_L_law_p32 LL xs n f w b0 b1 b2 b3) z15.2 b h (nI t) x (nI y) (prn S) z15.1) = m_L_law_p32 LL xs n f s' b h 1 (nI (t + 1)) ∧ ∃ S P c, Kc s' h S P c L B := by
      have i2 : jrm (nI y / 24) 19 = nI (y / 24 % 19) := md (a := 24) (m := 19) (by omega) (by decide) (by decide) (by decide) (by decide)
      have i3 : jrm (nI y / 456) 19 = nI (y / 456 % 19) := md (a := 456) (m := 19) (by omega) (by decide) (by decide) (by decide) (by decide)
      obtain ⟨z, ez, hz⟩ := o_speed hn H (id := y % 24) (a := y / 24 % 19) (b := y / 456 % 19) (by omega) (by omega) (by omega)
      rw [i1, i2, i3, ez, Option.bind_some]
      exact go z hz
    have ey' : m_L_low n v (x >>> (4 &&& 31 : Int32)) 10000000 = some (nI y) := ey
    have ej' : m_L_low n v x 8 = some (nI j) := ej
    rw [m_L_law_p32, if_neg (show ¬ (16 : Int32) ≤ nI t from nI_ge ht (by decide)), if_neg (by decide), ex, Option.bind_some, ey', Option.bind_some, l_print hn H, Option.bind_some, ej', Option.bind_some]
    rcases (show j = 0 ∨ j = 1 ∨ j = 2 ∨ j = 3 ∨ j = 4 ∨ j = 5 ∨ j = 6 ∨ j = 7 by omega) with rfl | rfl | rfl | rfl | rfl | rfl | rfl | rfl
    · rw [if_pos (by decide)]
      exact sca
    · rw [if_neg (by decide), if_pos (by decide)]
      exact sca
    · rw [if_neg (by decide), if_neg (by decide), if_pos (by decide)]
      have i2 : jrm (nI y / 24) 64 = nI (y / 24 % 64) := md (a := 24) (m := 64) (by omega) (by decide) (by decide) (by decide) (by decide)
      have i3 : jrm (nI y / 1536) 64 = nI (y / 1536 % 64) := md (a := 1536) (m := 64) (by omega) (by decide) (by decide) (by decide) (by decide)
      obtain ⟨z, ez, hz⟩ := o_add hn H (id := y % 24) (p := y / 24 % 64) (q := y / 1536 % 64) (by omega) (by omega) (by omega)
      rw [i1, i2, i3, ez, Option.bind_some]
      exact go z hz
    · rw [if_neg (by decide), if_neg (by decide), if_neg (by decide), if_pos (by decide)]
      obtain ⟨z, ez, hz⟩ := o_remove hn H (id := y % 24) (by omega)
      rw [i1, ez, Option.bind_some]
      exact go z hz
    · rw [if_neg (by decide), if_neg (by decide), if_neg (by decide), if_neg (by decide), if_pos (by decide)]
      exact spd
    · rw [if_neg (by decide), if_neg (by decide), if_neg (by decide), if_neg (by decide), if_neg (by decide), if_pos (by decide)]
      exact spd
    · rw [if_neg (by decide), if_neg (by decide), if_neg (by decide), if_neg (by decide), if_neg (by decide), if_neg (by decide), if_pos (by decide)]
      have i2 : jrm (nI y) 9 = nI (y % 9) := jrm_nI (d := 9) (by omega) (by decide) (by decide)
      obtain ⟨z, ez, hz⟩ := o_tick hn H (m := 1 + y % 9) (by omega) (by omega)
      rw [i2, show (1 : Int32) + nI (y % 9) = nI (1 + y % 9) from nI_add 1 _, ez, Option.bind_some]
      exact go z hz
    · rw [if_neg (by decide), if_neg (by decide), if_neg (by decide), if_neg (by decide), if_neg (by decide), if_neg (by decide), if_neg (by decide)]
      have i2 : jrm (nI y) 4 = nI (y % 4) := jrm_nI (d := 4) (by omega) (by decide) (by decide)
      have i3 : jrm (nI y / 4) 64 = nI (y / 4 % 64) := md (a := 4) (m := 64) (by omega) (by decide) (by decide) (by decide) (by decide)
      have i4 : jrm (nI y / 256) 64 = nI (y / 256 % 64) := md (a := 256) (m := 64) (by omega) (by decide) (by decide) (by decide) (by decide)
      obtain ⟨z, ez, hz⟩ := o_open hn H (cu := y % 4) (p := y / 4 % 64) (q := y / 256 % 64) (by omega) (by omega) (by omega)
      rw [i2, i3, i4, ez, Option.bind_some]
      exact go z hz
  · rintro f v ⟨S, P, c, H⟩
    refine ⟨(1, v), ?_, rfl⟩
    rw [m_L_law_p32, if_pos (by decide), m_L_law_p491, if_neg (by decide), l_refused hn H, Option.bind_some, if_neg (show ¬ ((1 : Int32), v).1 = 0 from ne1.1)]
theorem law_8 (hn : 600 ≤ n) (H : Kc w h S P 0 L B) : ∃ z, m_L_law_p8 LL xs n w b h = some z ∧ z.1 = 1 := by
  rw [m_L_law_p8, o_undo0 H, Option.bind_some, if_pos rfl, l_refused hn H, Option.bind_some, if_neg (show ¬ ((1 : Int32), w).1 = 0 from ne1.1)]
  exact law_32 hn H
end KL
theorem start_kc (h : Nat) : Kc (wz h) h (fun _ => 0) (fun _ _ => 0) 0 0 (fun _ => 0) := ⟨wf_0, cl_0 h, sc_0 h⟩
