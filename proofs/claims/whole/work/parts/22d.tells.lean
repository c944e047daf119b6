/-! DIFFERENT POSITIONS; what both tell of levels and nodes -/
def dsN (l : List Nat) : Nat := ((List.range 4096).filter fun c => decide (c ∈ l)).length
theorem dsN_mem {l m : List Nat} (h : ∀ c, c ∈ l ↔ c ∈ m) : dsN l = dsN m := by
  unfold dsN
  refine congrArg List.length (List.filter_congr fun c _ => ?_)
  by_cases g : c ∈ l
  · rw [decide_eq_true g, decide_eq_true ((h c).mp g)]
  · rw [decide_eq_false g, decide_eq_false (fun z => g ((h c).mpr z))]
theorem nodup_len : ∀ {l r : List Nat}, l.Nodup → (∀ q ∈ l, q ∈ r) → l.length ≤ r.length
  | [], r, _, _ => Nat.zero_le _
  | a :: l, r, h1, h => by
    have ha : a ∈ r := h a List.mem_cons_self
    have h2 := List.nodup_cons.mp h1
    have := nodup_len (l := l) (r := r.erase a) h2.2 fun q hq => (List.mem_erase_of_ne (show q ≠ a from fun e => h2.1 (by rw [← e]; exact hq))).mpr (h q (List.mem_cons_of_mem _ hq))
    rw [List.length_erase_of_mem ha] at this
    have hp : 0 < r.length := List.length_pos_of_mem ha
    rw [List.length_cons]
    omega
theorem asc_nodup {l : List Nat} (h : Asc l) : l.Nodup := List.Pairwise.imp (fun q => Nat.ne_of_lt q) h
theorem dsN_of {l K : List Nat} (hc : C12 l) (hK : K.Nodup) (h : ∀ c, c ∈ K ↔ c ∈ l) : dsN l = K.length := by
  unfold dsN
  have hD : ∀ c, c ∈ (List.range 4096).filter (fun c => decide (c ∈ l)) ↔ c ∈ l := fun c => by
    rw [List.mem_filter, List.mem_range, decide_eq_true_eq]
    exact ⟨fun z => z.2, fun z => ⟨hc c z, z⟩⟩
  have a1 : Asc ((List.range 4096).filter fun c => decide (c ∈ l)) := List.Pairwise.filter _ List.pairwise_lt_range
  exact Nat.le_antisymm (nodup_len (asc_nodup a1) fun q hq => (h q).mpr ((hD q).mp hq)) (nodup_len hK fun q hq => (hD q).mpr ((h q).mp hq))
section DF
variable {n a : Nat} {w : Wd} {cs qs : List Nat}
theorem m_diffp (hn : 60 ≤ n) (h : LvC w a cs qs) (hs : Srt cs) (hc : C12 cs) : m_X1_differentPositions n w a = some (nI (dsN cs)) := by
  have h24 := h.2.2.2.1
  unfold m_X1_differentPositions
  obtain ⟨v, e, rfl⟩ := lp (σ := List Nat) (R := Int32) (fun t k K => m_X1_differentPositions_p4 n t w a (nI K.length) (nI k)) (fun k K => Asc K ∧ ∀ c, c ∈ K ↔ c ∈ cs.take k) (fun v => v = nI (dsN cs)) cs.length (by
    rintro t k K hk ⟨h1, h2⟩
    left
    have hT : cs.take (k + 1) = cs.take k ++ [cs.getD k 0] := take_s hk
    have hle : ∀ y ∈ cs.take k, y ≤ cs.getD (k - 1) 0 ∧ 0 < k := fun y hy => by
      obtain ⟨j, hj, ej⟩ := mem_getD hy
      rw [List.length_take] at hj
      have e2 : (cs.take k).getD j 0 = cs.getD j 0 := by
        rw [List.getD_eq_getElem?_getD, List.getD_eq_getElem?_getD, List.getElem?_take, if_pos (by omega)]
      rw [← ej, e2]
      exact ⟨srt_le hs (by omega) (by omega), by omega⟩
    rw [m_X1_differentPositions_p4, h.i1, Option.bind_some, if_neg (nI_ge hk (by omega))]
    by_cases hz : k = 0
    · subst hz
      refine ⟨K ++ [cs.getD 0 0], ?_, ?_, fun c => ?_⟩
      · rw [if_pos (show nI 0 = 0 from rfl), List.length_append, nI_1, nI_1]
        rfl
      · have : K = [] := List.eq_nil_iff_forall_not_mem.mpr fun y hy => by
          have := (h2 y).mp hy
          rw [List.take_zero] at this
          cases this
        rw [this]
        exact List.pairwise_singleton _ _
      · rw [hT, List.mem_append, List.mem_append, h2]
    · rw [if_neg (nI_ne0 (by omega) (by omega)), h.g0, Option.bind_some, h.cd hk, Option.bind_some, Option.bind_some, show nI k - 1 = nI (k - 1) from pk_sub (a := k) (b := 1) (by omega), h.cd (by omega), Option.bind_some]
      have hm1 : cs.getD (k - 1) 0 ∈ cs.take k := by
        have hj : k - 1 < (cs.take k).length := by rw [List.length_take]; omega
        have e2 : (cs.take k).getD (k - 1) 0 = cs.getD (k - 1) 0 := by
          rw [List.getD_eq_getElem?_getD, List.getD_eq_getElem?_getD, List.getElem?_take, if_pos (by omega)]
        rw [← e2]
        exact getD_mem hj
      have b1 := hc _ (getD_mem hk)
      have b2 := hc _ (getD_mem (show k - 1 < cs.length by omega))
      by_cases c : cs.getD k 0 = cs.getD (k - 1) 0
      · refine ⟨K, by rw [if_pos (by rw [c]), nI_1], h1, fun y => ?_⟩
        rw [hT, List.mem_append, List.mem_singleton, h2]
        exact ⟨fun z => Or.inl z, fun z => z.elim id fun z => by rw [z, c]; exact hm1⟩
      · refine ⟨K ++ [cs.getD k 0], ?_, asc_app h1 fun q hq => ?_, fun y => ?_⟩
        · rw [if_neg (fun z => c ((nI_eq (by omega) (by omega)).mp z)), List.length_append, nI_1, nI_1]
          rfl
        · have := (hle q ((h2 q).mp hq)).1
          have := srt_le hs (show k - 1 ≤ k by omega) hk
          omega
        · rw [hT, List.mem_append, List.mem_append, h2]) (by
    rintro t K ⟨h1, h2⟩
    rw [List.take_length] at h2
    exact ⟨_, by rw [m_X1_differentPositions_p4, h.i1, Option.bind_some, if_pos (Int32.le_refl _)], by rw [dsN_of hc (asc_nodup h1) h2]⟩) cs.length 0 n [] (by omega) (by omega) ⟨List.Pairwise.nil, fun c => by rw [List.take_zero]⟩
  exact e
end DF
theorem lpk2 {σ τ R : Type} (L : Nat → Nat → σ → R) (fin : τ → R) (I : Nat → σ → Prop) (P : τ → Prop) (b : Nat)
    (hs : ∀ t k s, 0 < t → k < b → I k s → (∃ s', L (t + 1) k s = L t (k + 1) s' ∧ I (k + 1) s') ∨ ∃ r, L (t + 1) k s = fin r ∧ P r)
    (he : ∀ t s, I b s → ∃ r, L (t + 1) b s = fin r ∧ P r) : ∀ (d k t : Nat) (s : σ), k + d = b → d < t → I k s → ∃ r, L t k s = fin r ∧ P r := by
  intro d
  induction d with
  | zero =>
    intro k t s h1 h2 h3
    obtain ⟨t, rfl⟩ : ∃ u, t = u + 1 := ⟨t - 1, by omega⟩
    have : k = b := by omega
    subst this
    exact he t s h3
  | succ d ih =>
    intro k t s h1 h2 h3
    obtain ⟨t, rfl⟩ : ∃ u, t = u + 1 := ⟨t - 1, by omega⟩
    rcases hs t k s (by omega) (by omega) h3 with ⟨s', e, h⟩ | h
    · rw [e]
      exact ih (k + 1) t s' (by omega) (by omega) h
    · exact h
section TL
variable {n b l : Nat} {w : Wd} {I : Nat → Int32} {J : Nat → Int64} {A : Rw} {S : Nat → Int32}
theorem nodup_app {l : List Nat} {x : Nat} (h : l.Nodup) (hx : x ∉ l) : (l ++ [x]).Nodup := by
  refine List.pairwise_append.mpr ⟨h, List.pairwise_singleton _ _, fun a ha b hb => ?_⟩
  rw [List.mem_singleton.mp hb]
  exact fun e => hx (e ▸ ha)
theorem k_diff (hn : 60 ≤ n) (h : MoC w b I J A) (hr : Row A S) (hw : WF S) (hl : l < 5) : m_X7_different n w b (nI l) = some (nI (dsN (cdS S l))) := by
  unfold m_X7_different
  obtain ⟨v, e, rfl⟩ := lp (σ := List Nat) (R := Int32) (fun t k K => m_X7_different_p4 n t w b (nI l) (nI K.length) (nI k)) (fun k K => K.Nodup ∧ ∀ c, c ∈ K ↔ ∃ j, j < k ∧ j ∈ onS S l ∧ c = codeS S j) (fun v => v = nI (dsN (cdS S l))) 24 (by
    rintro t k K hk ⟨h1, h2⟩
    left
    obtain ⟨-, -, -, -, -, -, -, bk⟩ := codeS_at (hw.1 k hk)
    show ∃ K', m_X7_different_p4 n (t + 1) w b (nI l) (nI K.length) (nI k) = _ ∧ _
    rw [m_X7_different_p4, if_neg (show ¬ (24 : Int32) ≤ nI k from nI_ge hk (by decide)), h.c, Option.bind_some, m_on (by omega) h hr hw hk hl, Option.bind_some]
    by_cases c : k ∈ onS S l
    · rw [if_pos c]
      have inner : ∀ (f : Int32) (K' : List Nat), (f = 0 → K' = K) → (f = 1 → K' = K ++ [codeS S k]) → (f = 0 ∨ f = 1) → m_X7_different_p69 n (fun w b0 b1 b2 b3 => m_X7_different_p4 n t w b0 b1 b2 b3) w b (nI l) (nI K.length) (nI k) f = m_X7_different_p4 n t w b (nI l) (nI K'.length) (nI (k + 1)) := fun f K' f0 f1 fc => by
        rw [m_X7_different_p69]
        rcases fc with rfl | rfl
        · rw [if_pos rfl, f0 rfl, Int32.add_zero, nI_1]
        · rw [if_neg (by decide), f1 rfl, List.length_append, nI_1, nI_1]
          rfl
      obtain ⟨K', e1, g1⟩ := lpk2 (σ := Unit) (τ := List Nat) (R := Option Int32) (fun t' j _ => m_X7_different_p21 n (fun w b0 b1 b2 b3 => m_X7_different_p4 n t w b0 b1 b2 b3) t' w b (nI l) (nI K.length) (nI k) 1 (nI j)) (fun K' => m_X7_different_p4 n t w b (nI l) (nI K'.length) (nI (k + 1))) (fun j _ => ∀ i, i < j → i ∈ onS S l → codeS S k ≠ codeS S i) (fun K' => K'.Nodup ∧ ∀ c, c ∈ K' ↔ ∃ j, j < k + 1 ∧ j ∈ onS S l ∧ c = codeS S j) k (by
        rintro t' j ⟨⟩ ht' hj hI
        obtain ⟨-, -, -, -, -, -, -, bj⟩ := codeS_at (hw.1 j (by omega))
        rw [m_X7_different_p21, if_neg (nI_ge hj (by omega)), if_neg (by decide), h.c, Option.bind_some, m_on (by omega) h hr hw (by omega) hl, Option.bind_some]
        by_cases d : j ∈ onS S l
        · rw [if_pos d, if_neg (by decide), Option.bind_some, m_place7 (by omega) h hr hw hk, Option.bind_some, Option.bind_some, m_place7 (by omega) h hr hw (by omega), Option.bind_some]
          by_cases z : codeS S k = codeS S j
          · right
            rw [if_pos (by rw [z])]
            refine ⟨K, ?_, h1, fun y => (h2 y).trans ⟨fun ⟨i, i1, i2⟩ => ⟨i, by omega, i2⟩, fun ⟨i, i1, i2, i3⟩ => ?_⟩⟩
            · obtain ⟨t', rfl⟩ : ∃ u, t' = u + 1 := ⟨t' - 1, by omega⟩
              rw [m_X7_different_p21]
              by_cases y : nI k ≤ nI j + 1
              · rw [if_pos y, inner 0 K (fun _ => rfl) (fun q => absurd q (by decide)) (Or.inl rfl)]
              · rw [if_neg y, if_pos rfl, inner 0 K (fun _ => rfl) (fun q => absurd q (by decide)) (Or.inl rfl)]
            · by_cases y : i = k
              · exact ⟨j, hj, d, by rw [i3, y, z]⟩
              · exact ⟨i, by omega, i2, i3⟩
          · left
            refine ⟨(), by rw [if_neg (fun q => z ((nI_eq (by omega) (by omega)).mp q)), nI_1], fun i i1 i2 => ?_⟩
            by_cases y : i = j
            · rw [y]; exact z
            · exact hI i (by omega) i2
        · left
          refine ⟨(), by rw [if_neg d, if_pos rfl, nI_1], fun i i1 i2 => ?_⟩
          by_cases y : i = j
          · rw [y] at i2
            exact absurd i2 d
          · exact hI i (by omega) i2) (by
        rintro t' ⟨⟩ hI
        refine ⟨K ++ [codeS S k], ?_, nodup_app h1 (fun q => ?_), fun y => ?_⟩
        · rw [m_X7_different_p21, if_pos (Int32.le_refl _), inner 1 (K ++ [codeS S k]) (fun q => absurd q (by decide)) (fun _ => rfl) (Or.inr rfl)]
        · obtain ⟨i, i1, i2, i3⟩ := (h2 _).mp q
          exact hI i i1 i2 i3
        · rw [List.mem_append, List.mem_singleton, h2]
          constructor
          · rintro (⟨i, i1, i2⟩ | z)
            · exact ⟨i, by omega, i2⟩
            · exact ⟨k, by omega, c, z⟩
          · rintro ⟨i, i1, i2, i3⟩
            by_cases y : i = k
            · right
              rw [i3, y]
            · left
              exact ⟨i, by omega, i2, i3⟩) k 0 n () (by omega) (by omega) (fun i hi => absurd hi (Nat.not_lt_zero _))
      exact ⟨K', e1, g1⟩
    · rw [if_neg c]
      refine ⟨K, ?_, h1, fun y => (h2 y).trans ⟨fun ⟨i, i1, i2⟩ => ⟨i, by omega, i2⟩, fun ⟨i, i1, i2, i3⟩ => ⟨i, ?_, i2, i3⟩⟩⟩
      · obtain ⟨n', rfl⟩ : ∃ m, n = m + 1 := ⟨n - 1, by omega⟩
        rw [m_X7_different_p21]
        by_cases y : nI k ≤ 0
        · rw [if_pos y, m_X7_different_p69, if_pos rfl, Int32.add_zero, nI_1]
        · rw [if_neg y, if_pos rfl, m_X7_different_p69, if_pos rfl, Int32.add_zero, nI_1]
      · by_cases y : i = k
        · rw [y] at i2
          exact absurd i2 c
        · omega) (by
    rintro t K ⟨h1, h2⟩
    refine ⟨_, by rw [m_X7_different_p4, if_pos (by decide)], ?_⟩
    rw [dsN_of (cdS_12 hw) h1 fun y => ?_]
    rw [h2]
    unfold cdS
    rw [List.mem_map]
    exact ⟨fun ⟨i, i1, i2, i3⟩ => ⟨i, i2, i3.symm⟩, fun ⟨i, i1, i2⟩ => ⟨i, (onS_mem.mp i1).1, i1, i2.symm⟩⟩) 24 0 n [] rfl (by omega) ⟨List.nodup_nil, fun c => ⟨fun q => absurd q List.not_mem_nil, fun ⟨i, i1, _⟩ => absurd i1 (Nat.not_lt_zero _)⟩⟩
  exact e
noncomputable def lvV (S : Nat → Int32) (l what : Nat) : Nat := match what with
  | 0 => (cdS S l).length
  | 1 => (nds S l).length
  | 2 => gdN (nds S l) (nds S l).length
  | 3 => cB (pcB (cdS S l) (nds S l)) (4 * (nds S l).length)
  | _ => dsN (cdS S l)
theorem k_gd {qs cs : List Nat} (hn : 60 ≤ n) (h : MoC w b I J A) (hl : l < 5) (ht : Tb A 4 5 l qs) (h24 : qs.length ≤ 24) (hc : C12 cs) (hN : NodesOf cs qs) : m_X7_tellLevel_p48 n n w b (nI l) 0 0 = some (nI (gdN qs qs.length), w) := by
  obtain ⟨v, e, rfl⟩ := lp (σ := Unit) (R := Int32 × Wd) (fun t k _ => m_X7_tellLevel_p48 n t w b (nI l) (nI (gdN qs k)) (nI k)) (fun _ _ => True) (fun v => v = (nI (gdN qs qs.length), w)) qs.length (by
    rintro t k ⟨⟩ hk -
    left
    refine ⟨(), ?_, trivial⟩
    have := gdN_le qs k
    have := depN_le qs k
    rw [m_X7_tellLevel_p48, h.g8, Option.bind_some, h.r8 hl, Option.bind_some, ht.1, if_neg (nI_ge hk (by omega)), h.c, Option.bind_some, k_depth hn h hl ht h24 hc hN hk, Option.bind_some]
    show _ = m_X7_tellLevel_p48 n t w b (nI l) (nI (max (gdN qs k) (depN qs k))) (nI (k + 1))
    by_cases c : depN qs k ≤ gdN qs k
    · rw [if_pos (nI_le c (by omega)), Nat.max_eq_left c, nI_1]
    · rw [if_neg (nI_ge (show gdN qs k < depN qs k by omega) (by omega)), Option.bind_some, Option.bind_some, Nat.max_eq_right (by omega), nI_1]) (by
    rintro t ⟨⟩ -
    exact ⟨_, by rw [m_X7_tellLevel_p48, h.g8, Option.bind_some, h.r8 hl, Option.bind_some, ht.1, if_pos (Int32.le_refl _)], rfl⟩) qs.length 0 n () (by omega) (by omega) trivial
  exact e
theorem k_pc (hn : 200 ≤ n) (h : MoC w b I J A) (hr : Row A S) (hw : WF S) (hl : l < 5) (ht : Tb A 4 5 l (nds S l)) : ∃ w' I', m_X7_tellLevel_p93 n n w b (nI l) 0 0 = some (nI (cB (pcB (cdS S l) (nds S l)) (4 * (nds S l).length)), w') ∧ MoC w' b I' J A ∧ Iq I I' ∧ Fr w w' b := by
  have h24 := nds_len hw l
  have hN := nds_of hw l
  have hc := cdS_12 hw (l := l)
  obtain ⟨z, e, w2, I2, rfl, g2⟩ := lp (σ := Wd) (R := Int32 × Wd) (fun t k v => m_X7_tellLevel_p93 n t v b (nI l) (nI (cB (pcB (cdS S l) (nds S l)) k)) (nI k)) (fun k v => ∃ I', MoC v b I' J A ∧ Iq I I' ∧ Fr w v b) (fun z => ∃ w2 I2, z = (nI (cB (pcB (cdS S l) (nds S l)) (4 * (nds S l).length)), w2) ∧ MoC w2 b I2 J A ∧ Iq I I2 ∧ Fr w w2 b) (4 * (nds S l).length) (by
    rintro t k v hk ⟨I1, h1, i1, q1⟩
    left
    have hk4 : k / 4 < (nds S l).length := by omega
    obtain ⟨w2, I2, e2, h2, i2, -, q2⟩ := k_child (n := n) (d := k % 4) (by omega) h1 hr hw hl (hN.at hk4) (Nat.mod_lt _ (by decide))
    refine ⟨w2, ?_, I2, h2, i1.tr i2, fun q hq => (q2 q hq).trans (q1 q hq)⟩
    show m_X7_tellLevel_p93 n (t + 1) v b (nI l) (nI (cB (pcB (cdS S l) (nds S l)) k)) (nI k) = m_X7_tellLevel_p93 n t w2 b (nI l) (nI (cB (pcB (cdS S l) (nds S l)) k + if pcB (cdS S l) (nds S l) k then 1 else 0)) (nI (k + 1))
    rw [m_X7_tellLevel_p93, h1.g8, Option.bind_some, h1.r8 hl, Option.bind_some, ht.1, show (4 : Int32) = nI 4 from rfl, pk_mul, if_neg (nI_ge hk (by omega)), h1.c, Option.bind_some, pk_div (by omega) (by decide) (by decide), jrm_nI (by omega) (by decide) (by decide), k_nodeAt h1 hl ht h24 hk4, Option.bind_some, Option.bind_some, e2, Option.bind_some]
    unfold pcB
    rcases kid_c hc (d := k % 4) (hN.at hk4) with ⟨b1, b2⟩ | ⟨b1, b2, b3, b4⟩ | ⟨b1, b2, b3, b4⟩
    · rw [b2, if_pos (show kI 200000 < 100000 by decide), if_neg (show ¬ (decide (100000 ≤ 200000) && decide (200000 ≠ 200000)) = true by decide), Int32.add_zero, nI_1]
      rfl
    · have e : kI (kidN (cdS S l) ((nds S l).getD (k / 4) 0) (k % 4)) = nI (kidN (cdS S l) ((nds S l).getD (k / 4) 0) (k % 4)) := by
        unfold kI
        rw [if_neg (by omega)]
      rw [e, if_neg (show ¬ _ < (100000 : Int32) from nI_nlt (b := 100000) (by omega) (by omega)), decide_eq_true (show 100000 ≤ kidN (cdS S l) ((nds S l).getD (k / 4) 0) (k % 4) by omega), decide_eq_true (show kidN (cdS S l) ((nds S l).getD (k / 4) 0) (k % 4) ≠ 200000 by omega), if_pos (show (true && true) = true from rfl), nI_1, nI_1]
    · have e : kI (kidN (cdS S l) ((nds S l).getD (k / 4) 0) (k % 4)) = nI (kidN (cdS S l) ((nds S l).getD (k / 4) 0) (k % 4)) := by
        unfold kI
        rw [if_neg (by omega)]
      rw [e, if_pos (show _ < (100000 : Int32) from nI_lt (b := 100000) (by omega) (by decide)), decide_eq_false (show ¬ 100000 ≤ kidN (cdS S l) ((nds S l).getD (k / 4) 0) (k % 4) by omega), Bool.false_and, if_neg (by decide), Int32.add_zero, nI_1]
      rfl) (by
    rintro t v ⟨I1, h1, i1, q1⟩
    refine ⟨_, ?_, v, I1, rfl, h1, i1, q1⟩
    show m_X7_tellLevel_p93 n (t + 1) v b (nI l) (nI (cB (pcB (cdS S l) (nds S l)) (4 * (nds S l).length))) (nI (4 * (nds S l).length)) = _
    rw [m_X7_tellLevel_p93, h1.g8, Option.bind_some, h1.r8 hl, Option.bind_some, ht.1, show (4 : Int32) = nI 4 from rfl, pk_mul, if_pos (Int32.le_refl _)]) (4 * (nds S l).length) 0 n w (by omega) (by omega) ⟨I, h, Iq.rf, fun _ _ => rfl⟩
  exact ⟨w2, I2, e, g2⟩
theorem k_tellLevel {what : Nat} (hn : 200 ≤ n) (h : MoC w b I J A) (hr : Row A S) (hw : WF S) (hl : l < 5) (ht : Tb A 4 5 l (nds S l)) (hwh : what < 5) : ∃ w' I', m_X7_tellLevel n w b (nI l) (nI what) = some (nI (lvV S l what), w') ∧ MoC w' b I' J A ∧ Iq I I' ∧ Fr w w' b := by
  rcases i5 hwh with rfl | rfl | rfl | rfl | rfl
  · exact ⟨w, I, by rw [m_X7_tellLevel, if_pos (by decide), h.c, Option.bind_some, k_pointsOn (by omega) h hr hw hl, cnt_on, Option.bind_some]; rfl, h, Iq.rf, fun _ _ => rfl⟩
  · exact ⟨w, I, by rw [m_X7_tellLevel, if_neg (by decide), if_pos (by decide), h.g8, Option.bind_some, h.r8 hl, Option.bind_some, ht.1]; rfl, h, Iq.rf, fun _ _ => rfl⟩
  · exact ⟨w, I, by rw [m_X7_tellLevel, if_neg (by decide), if_neg (by decide), if_pos (by decide), k_gd (by omega) h hl ht (nds_len hw l) (cdS_12 hw) (nds_of hw l)]; rfl, h, Iq.rf, fun _ _ => rfl⟩
  · obtain ⟨w1, I1, e1, g⟩ := k_pc hn h hr hw hl ht
    exact ⟨w1, I1, by rw [m_X7_tellLevel, if_neg (by decide), if_neg (by decide), if_neg (by decide), if_pos (by decide), e1]; rfl, g⟩
  · exact ⟨w, I, by rw [m_X7_tellLevel, if_neg (by decide), if_neg (by decide), if_neg (by decide), if_neg (by decide), h.c, Option.bind_some, k_diff (by omega) h hr hw hl, Option.bind_some]; rfl, h, Iq.rf, fun _ _ => rfl⟩
noncomputable def ndV (S : Nat → Int32) (l i what : Nat) : Int32 := match what with
  | 0 => nI (xN ((nds S l).getD i 0 / 8))
  | 1 => nI (yN ((nds S l).getD i 0 / 8))
  | 2 => m_X3_size (nI ((nds S l).getD i 0))
  | 3 => nI (depN (nds S l) i)
  | 4 => nI ((cdS S l).filter (hB ((nds S l).getD i 0))).length
  | _ => nI (qdN (cdS S l) ((nds S l).getD i 0))
theorem k_tellNode {i what : Nat} (hn : 200 ≤ n) (h : MoC w b I J A) (hr : Row A S) (hw : WF S) (hl : l < 5) (ht : Tb A 4 5 l (nds S l)) (hi : i < (nds S l).length) (hwh : what < 6) : ∃ w' I', m_X7_tellNode n w b (nI l) (nI i) (nI what) = some (ndV S l i what, w') ∧ MoC w' b I' J A ∧ Iq I I' ∧ Fr w w' b := by
  have h24 := nds_len hw l
  have hN := nds_of hw l
  have hc := cdS_12 hw (l := l)
  obtain ⟨p1, p2, p3, p4⟩ := node_m hc (hN.at hi)
  rw [m_X7_tellNode, h.c, Option.bind_some, k_nodeAt h hl ht h24 hi, Option.bind_some]
  rcases (show what = 0 ∨ what = 1 ∨ what = 2 ∨ what = 3 ∨ what = 4 ∨ what = 5 by omega) with rfl | rfl | rfl | rfl | rfl | rfl
  · exact ⟨w, I, by rw [if_pos (by decide), k_firstOf, sq_corner (by omega), m_xOf (by omega) p4, Option.bind_some]; rfl, h, Iq.rf, fun _ _ => rfl⟩
  · exact ⟨w, I, by rw [if_neg (by decide), if_pos (by decide), k_firstOf, sq_corner (by omega), m_yOf (by omega) p4, Option.bind_some]; rfl, h, Iq.rf, fun _ _ => rfl⟩
  · exact ⟨w, I, by rw [if_neg (by decide), if_neg (by decide), if_pos (by decide)]; rfl, h, Iq.rf, fun _ _ => rfl⟩
  · exact ⟨w, I, by rw [if_neg (by decide), if_neg (by decide), if_neg (by decide), if_pos (by decide), Option.bind_some, k_depth (by omega) h hl ht h24 hc hN hi, Option.bind_some]; rfl, h, Iq.rf, fun _ _ => rfl⟩
  · obtain ⟨w1, I1, e1, h1, i1, a12, -, -, -, q1⟩ := k_looks (n := n) (f := (nds S l).getD i 0 / 8) (s := sqE ((nds S l).getD i 0)) (by omega) h hr hw hl (by omega) (sqE_le _)
    exact ⟨w1, I1, by rw [if_neg (by decide), if_neg (by decide), if_neg (by decide), if_neg (by decide), if_pos (by decide), Option.bind_some, k_firstOf, k_span, sq_corner (by omega), sq_exp (by omega) p2, e1, Option.bind_some, h1.i12, Option.bind_some, a12]; rfl, h1, i1, q1⟩
  · rw [if_neg (by decide), if_neg (by decide), if_neg (by decide), if_neg (by decide), if_neg (by decide)]
    obtain ⟨z, e, w2, I2, rfl, g2⟩ := lp (σ := Wd) (R := Int32 × Wd) (fun t d v => m_X7_tellNode_p104 n t v b (nI l) (nI ((nds S l).getD i 0)) (nI (cB (fun d => decide (kidN (cdS S l) ((nds S l).getD i 0) d ≠ 200000)) d)) (nI d)) (fun d v => ∃ I', MoC v b I' J A ∧ Iq I I' ∧ Fr w v b) (fun z => ∃ w2 I2, z = (ndV S l i 5, w2) ∧ MoC w2 b I2 J A ∧ Iq I I2 ∧ Fr w w2 b) 4 (by
      rintro t d v hd ⟨I1, h1, i1, q1⟩
      left
      obtain ⟨w2, I2, e2, h2, i2, -, q2⟩ := k_child (n := n) (d := d) (by omega) h1 hr hw hl (hN.at hi) hd
      refine ⟨w2, ?_, I2, h2, i1.tr i2, fun q hq => (q2 q hq).trans (q1 q hq)⟩
      show m_X7_tellNode_p104 n (t + 1) v b (nI l) (nI ((nds S l).getD i 0)) (nI (cB (fun d => decide (kidN (cdS S l) ((nds S l).getD i 0) d ≠ 200000)) d)) (nI d) = m_X7_tellNode_p104 n t w2 b (nI l) (nI ((nds S l).getD i 0)) (nI (cB (fun d => decide (kidN (cdS S l) ((nds S l).getD i 0) d ≠ 200000)) d + if decide (kidN (cdS S l) ((nds S l).getD i 0) d ≠ 200000) then 1 else 0)) (nI (d + 1))
      rw [m_X7_tellNode_p104, if_neg (show ¬ (4 : Int32) ≤ nI d from nI_ge hd (by decide)), h1.c, Option.bind_some, e2, Option.bind_some]
      by_cases c : kidN (cdS S l) ((nds S l).getD i 0) d = 200000
      · rw [c, if_pos (show kI 200000 = -1 from rfl), decide_eq_false (show ¬ (200000 : Nat) ≠ 200000 from fun z => z rfl), if_neg (by decide), Int32.add_zero, nI_1]
        rfl
      · have hk : kidN (cdS S l) ((nds S l).getD i 0) d < 2 ^ 31 := by
          rcases kid_c hc (d := d) (hN.at hi) with ⟨b1, b2⟩ | ⟨b1, b2, b3, b4⟩ | ⟨b1, b2, b3, b4⟩ <;> omega
        rw [if_neg (show ¬ kI (kidN (cdS S l) ((nds S l).getD i 0) d) = -1 by unfold kI; rw [if_neg c]; exact nI_m1 hk), decide_eq_true c, if_pos rfl, nI_1, nI_1]) (by
      rintro t v ⟨I1, h1, i1, q1⟩
      refine ⟨_, ?_, v, I1, rfl, h1, i1, q1⟩
      show m_X7_tellNode_p104 n (t + 1) v b (nI l) (nI ((nds S l).getD i 0)) (nI (cB (fun d => decide (kidN (cdS S l) ((nds S l).getD i 0) d ≠ 200000)) 4)) (nI 4) = _
      rw [m_X7_tellNode_p104, if_pos (by decide)]
      rfl) 4 0 n w rfl (by omega) ⟨I, h, Iq.rf, fun _ _ => rfl⟩
    exact ⟨w2, I2, e, g2⟩
end TL
