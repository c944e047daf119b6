/-! THE LAW'S START: the constructor, and then the rest as a function -/
theorem dfX6 : ∀ j, j < 5 → defaultValue (tyX6 j) = vp_V [.null, .null, .null, .null, .null] j := by decide +kernel
theorem hI_X6 : yX6_init.cls ≠ "java/lang/invoke/MethodHandle" ∧ yX6_init.cls ≠ "java/lang/invoke/VarHandle" ∧ (parseMethodDescriptor yX6_init.desc).map (fun d => d.parameters.length) = some 0 := by decide +kernel
theorem s_cl6 : Cond.classLink RL 10 RX6 ∈ lw_tbl := by decide +kernel
theorem s_ni6 : Cond.initialized RX6 ∈ lw_tbl := by decide +kernel
theorem s_ml6 : Cond.methodLink RL 150 yX6_init ∈ lw_tbl := by decide +kernel
theorem s_im6 : Cond.instanceMethod yX6_init ∈ lw_tbl := by decide +kernel
def wzL (h : Nat) : List Cel := o_X6_init h (h + 1) :: l_X6_init h (h + 1)
def wz (h : Nat) : Wd := fun q => if q < h then none else (wzL h)[q - h]?
/-- behind a constructor, in the law -/
theorem w_runN {p : Program} {l : Launch} {e : Env} {R : Room} {s : State} {m : MethodId} {args : Array Value} {below : List Frame} {meth : Method} {c : Code} {G : GG} {Q : State → Prop} {ls : Array Slot} {pc b sz k n mc1 ms1 : Nat} {o1 : Cel} {N : List Cel} {H : Heap} {st0 rest : List Value} {a : Array Value} (hb0 : s.heap.size ≤ b) (hbz : b < sz) (hr : va_Run p l e R s m args below meth c H [] k n mc1 ms1 (F0 m pc ls st0) rest (QN G b sz o1 N a) (AN b sz))
    (kk : ∀ H2 : Heap, HN G b sz o1 N H2 → H.size ≤ H2.size → (∀ q : Nat, q < H.size → ¬ AN b sz q → H2[q]? = H[q]?) → W p l e R s m args below meth c H2 [] (k + mc1) (n + ms1) Q (F0 m (pc + 3) ls rest)) : W p l e R s m args below meth c H [] k n Q (F0 m pc ls st0) := by
  intro T hT X
  obtain ⟨v, st₀, t, T', L, h0, X', hL, e1, e2, ⟨⟨hv, hh⟩, hz, hk⟩, stp⟩ := hr T hT X
  cases hv
  rw [h0] at hz hk
  have hk2 := va_forget (s := s) (g := F0 m (pc + 3) ls rest) (locs := [] ++ L) (fun q hq => by
    rcases hL q hq with z | z
    · rw [z]; exact hb0
    · exact Nat.le_trans hb0 (Nat.le_trans (Nat.le_of_lt hbz) z)) (kk T'.heap (by rw [e1]; exact hh) (by rw [e1]; exact hz) (fun q h1 h2 => by rw [e1]; exact hk q h1 h2))
  obtain ⟨t2, a1, b1⟩ := hk2 T' rfl X'
  exact ⟨t2, stp t2 a1, b1⟩
theorem HN.at {G : GG} {b : Nat} {ob : Cel} {L : List Cel} {H : Heap} (h : HN G b (b + 1) ob L H) (i : Nat) (x : Cel) (hx : (ob :: L)[i]? = some x) : va_at G.1 vwCl (b + i, trc G.2.1 x) H := by
  cases i with
  | zero => cases hx; exact h.2.1
  | succ i =>
    have q := h.2.2.2 i x hx
    rw [Nat.add_right_comm] at q
    exact q
theorem wz_hd {G : GG} {H : Heap} {h : Nat} (h1 : ∀ (i : Nat) (x : Cel), (o_X6_init h (h + 1) :: l_X6_init h (h + 1))[i]? = some x → va_at G.1 vwCl (h + i, trc G.2.1 x) H) : hd G (fun q => h ≤ q) (wz h) H := by
  intro a c hc
  unfold wz at hc
  split at hc
  · cases hc
  · rename_i hlt
    obtain ⟨d, rfl⟩ : ∃ d, a = h + d := ⟨a - h, by omega⟩
    rw [Nat.add_sub_cancel_left] at hc
    exact ⟨Nat.le_add_right _ _, h1 d c hc⟩
set_option maxRecDepth 100000 in
set_option maxHeartbeats 8000000 in
theorem whole_law {p : Program} {e : Env} {s : State} {m : MethodId} {below : List Frame} {meth : Method} {c : Code} (l : Launch) (hflags : l.flags = flags0) {b L : Nat} {xs : Nat → Int32} (hL : L ≤ 260) (C0 : lw_At p s m meth c b L xs)
    {n : Nat} (hn : n ≤ 20000) (HB : ∃ z, m_L_law_p8 L xs n (wz s.heap.size) b s.heap.size = some z ∧ z.1 = 1) : W p l e room_1 s m #[Value.ref b] below meth c s.heap [] 0 0 (lw_Z below #[Value.ref b] s) (entryFrame m ([Value.ref b] : List Value).toArray 11) := by
  have hst : l.stackTraces = false := by
    unfold Launch.stackTraces
    rw [hflags]
    decide +kernel
  have hls := lv_entry [.ref b] (n := 11) (Nat.le_of_ble_eq_true rfl)
  rw [lg_entry_eq]
  obtain ⟨G, hE⟩ := law_env C0
  have C1 := C0
  obtain ⟨hx, hb, hr, hml, hown, hts, hX, hbl, hlocks, hgv⟩ := C1
  have hT : ∀ w ∈ wsL_law, w.before #[Value.ref b] s = true := fun w h => hts w (wsL_law_in w h)
  have hEK : EK G s := ⟨hE.1, hE.2.1⟩
  have C : Cx p s m #[Value.ref b] meth c G (fun q => s.heap.size ≤ q) cL_law 11 RL wsL_law ret := ⟨hx, hb, hml, hown, hT, hE, hlocks, hr⟩
  have hK6 := hE.1.1 5 _ (rfl : vwCl[5]? = some (RX6, TX6, 5))
  obtain ⟨z, e1, hz⟩ := HB
  refine W.newcK hx hb hown (hts _ s_cl6) (hts _ e_in5) (hts _ s_ni6) rfl dL_law_0 (Nat.le_of_ble_eq_true rfl) (Nat.le_of_ble_eq_true rfl) hK6.2.1 rfl fun H1 kC hkC e1 z1 o1 => ?_
  have hN1 : HN G s.heap.size (s.heap.size + 1) (.inr (5, [.null, .null, .null, .null, .null])) [] H1 := ⟨Nat.lt_succ_self _, ⟨_, rfl, (u_born tyX6 hts inX6 hK6 hkC e1 tyX6_ok).to dfX6⟩, z1, fun i x hi => by cases hi⟩
  refine lv_dup hx hb dL_law_3 rfl ?_
  refine w_runN (b := s.heap.size) (sz := s.heap.size + 1) (Nat.le_refl _) (Nat.lt_succ_self _) (va_runI (As := []) (rest := [.ref s.heap.size]) (n := 0) ⟨hx, hb, hml, hown, hT⟩ (r_X6_init G s.heap.size (s.heap.size + 1)) (cwI 0 hT gL_law_X6_init rfl rfl rfl (hts _ s_ni6) (hts _ s_ml6) (hts _ s_im6) rfl hI_X6 ⟨(Nat.le_of_ble_eq_true rfl), (Nat.le_of_ble_eq_true rfl)⟩) ⟨PN.blind, fun U hU hWm => ⟨rfl, by rw [hU]; exact hN1, hEK.warm hWm⟩⟩ rfl rfl hls.1 rfl (lv_room (Nat.le_of_ble_eq_true rfl)) dL_law_4 ⟨(Nat.le_of_ble_eq_true rfl), (Nat.le_of_ble_eq_true rfl)⟩) fun H2 hN2 hz2 ho2 => ?_
  refine lv_astore_n hx hb (i := 1) (nL := 11) dL_law_7 rfl hls (by decide) rfl fun ls1 hl1 => ?_
  refine r_L_law_p8 hL hst C0 C n hz (wz s.heap.size) s.heap.size ‹_› _ _ ⟨?_, ?_⟩ H2 [] ls1 (lv_sub hl1 [1, 0] rfl) (wz_hd ?_) ⟨by omega, fun q h1 h2 => ?_, fun _ h => by cases h⟩
  · show 0 + 1 + 86 + (23 * n + 45) ≤ 600104
    omega
  · show 0 + 5 + 1423 + 6 * (23 * n + 45) ≤ 7301314
    omega
  · intro i x hi
    exact hN2.at i x hi
  · rw [ho2 q (by omega) (by unfold AN; omega), o1 q h1]
