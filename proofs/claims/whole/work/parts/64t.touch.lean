theorem touchCO {mz : MSt} {i j : Nat} (hi : i < 64) (hj : j < 64) {v o : WV} (hv : CO mz i v) (ho : CO mz j o) : ∃ t, sM_touch mz (nI i) (nI j) = some t ∧ (t = 0 ↔ sW_clashes o v = 0) := by
  have okv := hv.1
  have oko := ho.1
  have E1 := isEndCO hj ho v.1 v.2.1
  have E2 := isEndCO hj ho v.2.2.1 v.2.2.2
  have S1 := sideOfCO hi hv oko.1 oko.2.1
  have S2 := sideOfCO hi hv oko.2.2.1 oko.2.2.2
  have S3 := sideOfCO hj ho okv.1 okv.2.1
  have S4 := sideOfCO hj ho okv.2.2.1 okv.2.2.2
  have L1 := liesCO hi hv oko.1 oko.2.1
  have L2 := liesCO hi hv oko.2.2.1 oko.2.2.2
  have L3 := liesCO hj ho okv.1 okv.2.1
  have L4 := liesCO hj ho okv.2.2.1 okv.2.2.2
  have P1 := partsCO v o
  have P2 := partsCO o v
  have vi := vpin_nI hi (show 64 < 2 ^ 31 by decide)
  have vj := vpin_nI hj (show 64 < 2 ^ 31 by decide)
  obtain ⟨-, e2, e3, e4, e5⟩ := hv
  obtain ⟨-, f2, f3, f4, f5⟩ := ho
  unfold sM_touch
  simp only [if_pos vi, if_pos vj, nI_clamp (show i < 2 ^ 31 by omega), nI_clamp (show j < 2 ^ 31 by omega), e2, e3, e4, e5, f2, f3, f4, f5, E1, E2, S1, S2, S3, S4, L1, L2, L3, L4, P1, P2]
  unfold sW_clashes
  generalize sW_hasEnd o v.1 v.2.1 = c1
  generalize sW_hasEnd o v.2.2.1 v.2.2.2 = c2
  generalize sW_parts v o = c3
  generalize sW_parts o v = c4
  generalize sW_hasWithin v o.1 o.2.1 = c5
  generalize sW_hasWithin v o.2.2.1 o.2.2.2 = c6
  generalize sW_hasWithin o v.1 v.2.1 = c7
  generalize sW_hasWithin o v.2.2.1 v.2.2.2 = c8
  by_cases h5 : c5 = 0 <;> (try (first | simp only [if_pos h5] | simp only [if_neg h5])) <;> by_cases h6 : c6 = 0 <;> (try (first | simp only [if_pos h6] | simp only [if_neg h6])) <;> by_cases h7 : c7 = 0 <;> (try (first | simp only [if_pos h7] | simp only [if_neg h7])) <;> by_cases h8 : c8 = 0 <;> (try (first | simp only [if_pos h8] | simp only [if_neg h8])) <;> by_cases h1 : c1 = 0 <;> (try (first | simp only [if_pos h1] | simp only [if_neg h1])) <;> by_cases h2 : c2 = 0 <;> (try (first | simp only [if_pos h2] | simp only [if_neg h2])) <;> by_cases h3 : c3 = 0 <;> (try (first | simp only [if_pos h3] | simp only [if_neg h3])) <;> by_cases h4 : c4 = 0 <;> (try (first | simp only [if_pos h4] | simp only [if_neg h4])) <;> exact ⟨_, rfl, by decide⟩
