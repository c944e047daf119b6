/-! WHAT THE REFERENCE READS OF ITS ROW -/
def Row (A : Rw) (S : Nat → Int32) : Prop := ∀ i, i < 141 → A 0 i = S i
theorem e5 (i : Nat) : (5 : Int32) * nI i = nI (5 * i) := by rw [show (5 : Int32) = nI 5 from rfl, pk_mul]
theorem e5k (i k : Nat) : (5 : Int32) * nI i + nI k = nI (5 * i + k) := by rw [e5, nI_add]
section RD
variable {n : Nat} {w : Wd} {b i l : Nat} {I : Nat → Int32} {J : Nat → Int64} {A : Rw} {S : Nat → Int32}
theorem m_there (h : MoC w b I J A) (hr : Row A S) (hw : WF S) (hi : i < 24) : m_X7_isThere n w b (nI i) = some (S (5 * i)) := by
  rw [m_X7_isThere, h.g0, Option.bind_some, e5, h.r0 (by omega), Option.bind_some, hr _ (by omega)]
  rcases (hw.1 i hi).1 with e | e
  · rw [e, if_neg (by decide)]
  · rw [e, if_pos rfl]
theorem m_on (hn : 8 ≤ n) (h : MoC w b I J A) (hr : Row A S) (hw : WF S) (hi : i < 24) (hl : l < 5) : m_X7_isOn n w b (nI i) (nI l) = some (if i ∈ onS S l then 1 else 0) := by
  have hg := hgt_le i
  rw [m_X7_isOn, h.c, Option.bind_some, m_there h hr hw hi, Option.bind_some]
  by_cases c : S (5 * i) = 0
  · rw [if_pos c, if_neg fun q => (onS_mem.mp q).2.1 c]
  · rw [if_neg c, m_hgt7 hn hi, Option.bind_some]
    by_cases d : l ≤ hgt i
    · rw [if_neg (nI_nlt d (by omega)), if_pos (onS_mem.mpr ⟨hi, c, d⟩)]
    · rw [if_pos (nI_lt (by omega) (by omega)), if_neg fun q => d (onS_mem.mp q).2.2]
theorem m_place7 (hn : 8 ≤ n) (h : MoC w b I J A) (hr : Row A S) (hw : WF S) (hi : i < 24) : m_X7_placeOf n w b (nI i) = some (nI (codeS S i)) := by
  obtain ⟨x, y, hx, hy, ex, ey, ec, -⟩ := codeS_at (hw.1 i hi)
  rw [m_X7_placeOf, h.g0, Option.bind_some, show (5 : Int32) * nI i + 1 = nI (5 * i + 1) from e5k i 1, h.r0 (by omega), Option.bind_some, hr _ (by omega), show (5 : Int32) * nI i + 2 = nI (5 * i + 2) from e5k i 2, Option.bind_some, h.r0 (by omega), Option.bind_some, hr _ (by omega), ex, ey, m_codeOf hn hx hy, Option.bind_some, ec]
end RD
theorem spn_le (c d : Nat) : spn c d ≤ 6 := by
  unfold spn
  repeat' split
  all_goals omega
/-- the square that a pair of different places enters -/
theorem m_sqpair {c d : Nat} (hc : c < 4096) : (8 * (nI c >>> ((2 * nI (spn c d)) &&& 31 : Int32) <<< ((2 * nI (spn c d)) &&& 31 : Int32))) + 6 - nI (spn c d) = nI (sq c (spn c d)) := by
  have hs := spn_le c d
  have h : c / 4 ^ spn c d * 4 ^ spn c d ≤ c := Nat.div_mul_le_self _ _
  unfold sq
  rw [shr2 (lt31 hc) hs, shl2 hs (by omega), show (8 : Int32) = nI 8 from rfl, pk_mul, show (6 : Int32) = nI 6 from rfl, nI_add, pk_sub (by omega), Nat.mul_comm 8]
theorem spn_key {c d : Nat} (hc : c < 4096) (hd : d < 4096) (hne : c ≠ d) : ∃ e, 1 ≤ e ∧ e ≤ 6 ∧ spn c d = e ∧ spl e c d := by
  by_cases a1 : c / 4 = d / 4
  · exact ⟨1, by decide, by decide, by simp [spn, hne, a1], by simpa using a1, by simpa using hne⟩
  by_cases a2 : c / 16 = d / 16
  · exact ⟨2, by decide, by decide, by simp [spn, hne, a1, a2], by simpa using a2, by simpa using a1⟩
  by_cases a3 : c / 64 = d / 64
  · exact ⟨3, by decide, by decide, by simp [spn, hne, a1, a2, a3], by simpa using a3, by simpa using a2⟩
  by_cases a4 : c / 256 = d / 256
  · exact ⟨4, by decide, by decide, by simp [spn, hne, a1, a2, a3, a4], by simpa using a4, by simpa using a3⟩
  by_cases a5 : c / 1024 = d / 1024
  · exact ⟨5, by decide, by decide, by simp [spn, hne, a1, a2, a3, a4, a5], by simpa using a5, by simpa using a4⟩
  · refine ⟨6, by decide, by decide, by simp [spn, hne, a1, a2, a3, a4, a5], ?_, by simpa using a5⟩
    show c / 4096 = d / 4096
    omega
theorem sq_pair_node {cs : List Nat} {c d : Nat} (h1 : c ∈ cs) (h2 : d ∈ cs) (hc : c < 4096) (hd : d < 4096) (hne : c ≠ d) : isNode cs (sq c (spn c d)) := by
  obtain ⟨e, e1, e2, e3, e4⟩ := spn_key hc hd hne
  rw [e3]
  by_cases h6 : e = 6
  · left
    subst h6
    show c / 4096 * 4096 * 8 + 6 - 6 = 0
    omega
  · exact Or.inr ⟨e, c, d, e1, by omega, h1, h2, e4, rfl⟩
