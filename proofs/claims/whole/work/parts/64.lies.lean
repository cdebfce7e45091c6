theorem msg (u v : Int) : (u = 0 → u * v = 0) ∧ (v = 0 → u * v = 0) ∧ (0 < u → 0 < v → 0 < u * v) ∧ (u < 0 → v < 0 → 0 < u * v) ∧ (0 < u → v < 0 → u * v < 0) ∧ (u < 0 → 0 < v → u * v < 0) := by
  refine ⟨fun h => by rw [h, Int.zero_mul], fun h => by rw [h, Int.mul_zero], fun a b => Int.mul_pos a b, fun a b => ?_, fun a b => ?_, fun a b => Int.mul_neg_of_neg_of_pos a b⟩
  · have := Int.mul_pos (a := -u) (b := -v) (by omega) (by omega)
    rw [Int.neg_mul, Int.mul_neg, Int.neg_neg] at this
    exact this
  · have := Int.mul_neg_of_neg_of_pos b a
    rw [Int.mul_comm] at this
    exact this
/-- on a wall's line, a place that is no end lies in the wall's box if and only if the ends lie on two sides of it -/
theorem box_dot {p q r s : Int} (hs : p * s = q * r) (n1 : ¬ (p = 0 ∧ r = 0)) (n2 : ¬ (q = 0 ∧ s = 0)) : p * q + r * s < 0 ↔ ((p ≤ 0 ∨ q ≤ 0) ∧ (0 ≤ p ∨ 0 ≤ q) ∧ (r ≤ 0 ∨ s ≤ 0) ∧ (0 ≤ r ∨ 0 ≤ s)) := by
  obtain ⟨a1, a2, a3, a4, a5, a6⟩ := msg p s
  obtain ⟨b1, b2, b3, b4, b5, b6⟩ := msg q r
  obtain ⟨c1, c2, c3, c4, c5, c6⟩ := msg p q
  obtain ⟨d1, d2, d3, d4, d5, d6⟩ := msg r s
  generalize p * s = ps at *
  generalize q * r = qr at *
  generalize p * q = pq at *
  generalize r * s = rs at *
  rcases Int.lt_trichotomy p 0 with x | x | x <;> rcases Int.lt_trichotomy q 0 with y | y | y <;> rcases Int.lt_trichotomy r 0 with z | z | z <;> rcases Int.lt_trichotomy s 0 with w | w | w
  all_goals simp only [x, y, z, w, true_implies, Int.lt_irrefl] at a1 a2 a3 a4 a5 a6 b1 b2 b3 b4 b5 b6 c1 c2 c3 c4 c5 c6 d1 d2 d3 d4 d5 d6
  all_goals omega
/-- the reference's wall j has these coordinates -/
def CO (mz : MSt) (j : Nat) (v : WV) : Prop := okW v ∧ mz.2.1 2 j = v.1 ∧ mz.2.1 3 j = v.2.1 ∧ mz.2.1 4 j = v.2.2.1 ∧ mz.2.1 5 j = v.2.2.2
theorem sideOfCO {mz : MSt} {j : Nat} (hj : j < 64) {v : WV} (h : CO mz j v) {x y : Int32} (hx : okI x) (hy : okI y) : sM_sideOf mz (nI j) x.toInt64 y.toInt64 = some (sW_side v x y) := by
  obtain ⟨ok, e2, e3, e4, e5⟩ := h
  unfold sM_sideOf
  rw [if_pos (vpin_nI hj (by decide)), nI_clamp (by omega), e2, e3, e4, e5, toI64sub hx ok.1, toI64sub hy ok.2.1]
  rfl
theorem isEndCO {mz : MSt} {j : Nat} (hj : j < 64) {v : WV} (h : CO mz j v) (x y : Int32) : sM_isEnd mz (nI j) x y = some (sW_hasEnd v x y) := by
  obtain ⟨ok, e2, e3, e4, e5⟩ := h
  unfold sM_isEnd sW_hasEnd
  rw [if_pos (vpin_nI hj (by decide)), nI_clamp (by omega), e2, e3, e4, e5]
  simp only [@eq_comm _ v.1 x, @eq_comm _ v.2.1 y, @eq_comm _ v.2.2.1 x, @eq_comm _ v.2.2.2 y]
  by_cases a : x = v.1 <;> (try (first | simp only [if_pos a] | simp only [if_neg a])) <;> by_cases b : y = v.2.1 <;> (try (first | simp only [if_pos b] | simp only [if_neg b])) <;> by_cases c : x = v.2.2.1 <;> (try (first | simp only [if_pos c] | simp only [if_neg c])) <;> by_cases d : y = v.2.2.2 <;> (try (first | simp only [if_pos d] | simp only [if_neg d]))
theorem hasEnd_no {v : WV} {x y : Int32} (h : sW_hasEnd v x y = 0) : ¬ (x = v.1 ∧ y = v.2.1) ∧ ¬ (x = v.2.2.1 ∧ y = v.2.2.2) := by
  unfold sW_hasEnd at h
  refine ⟨fun q => ?_, fun q => ?_⟩
  · rw [if_pos q.1, if_pos q.2] at h
    exact absurd h (by decide)
  · by_cases a : x = v.1
    · rw [if_pos a] at h
      by_cases b : y = v.2.1
      · rw [if_pos b] at h
        exact absurd h (by decide)
      · rw [if_neg b, if_pos q.1, if_pos q.2] at h
        exact absurd h (by decide)
    · rw [if_neg a, if_pos q.1, if_pos q.2] at h
      exact absurd h (by decide)
theorem liesCO {mz : MSt} {j : Nat} (hj : j < 64) {v : WV} (h : CO mz j v) {x y : Int32} (hx : okI x) (hy : okI y) : sM_lies mz (nI j) x y = some (sW_hasWithin v x y) := by
  have s1 := sideOfCO hj h hx hy
  have s2 := isEndCO hj h x y
  have sz := sideZ h.1 hx hy
  obtain ⟨ok, e2, e3, e4, e5⟩ := h
  unfold sM_lies sW_hasWithin
  rw [s2, s1, if_pos (vpin_nI hj (by decide)), nI_clamp (by omega), e2, e3, e4, e5]
  dsimp only
  by_cases a : sW_hasEnd v x y = 0
  · rw [if_pos a, if_pos a]
    by_cases b : sW_side v x y = 0
    · rw [if_pos b, if_pos b]
      have b0 : sdZ v x y = 0 := by rw [← sz, b]; rfl
      obtain ⟨n1, n2⟩ := hasEnd_no a
      have d1 := df ok.1 hx
      have d2 := df ok.2.2.1 hx
      have d3 := df ok.2.1 hy
      have d4 := df ok.2.2.2 hy
      obtain ⟨⟨a0, a1⟩, ⟨b0', b1⟩, ⟨c0, c1⟩, ⟨g0, g1⟩⟩ := ok
      obtain ⟨x0, x1⟩ := hx
      obtain ⟨y0, y1⟩ := hy
      have f := mulsg (p := v.1.toInt - x.toInt) (q := v.2.2.1.toInt - x.toInt) (by omega) (by omega) (by omega) (by omega)
      have g := mulsg (p := v.2.1.toInt - y.toInt) (q := v.2.2.2.toInt - y.toInt) (by omega) (by omega) (by omega) (by omega)
      have hs : (v.1.toInt - x.toInt) * (v.2.2.2.toInt - y.toInt) = (v.2.2.1.toInt - x.toInt) * (v.2.1.toInt - y.toInt) := by
        unfold sdZ at b0
        generalize v.1.toInt = A at *
        generalize v.2.1.toInt = B at *
        generalize v.2.2.1.toInt = C at *
        generalize v.2.2.2.toInt = E at *
        generalize x.toInt = X at *
        generalize y.toInt = Y at *
        simp only [Int.mul_sub, Int.sub_mul] at b0 ⊢
        simp only [Int.mul_comm] at b0 ⊢
        omega
      have bd := box_dot hs (fun q => n1 ⟨Int32.toInt_inj.1 (by omega), Int32.toInt_inj.1 (by omega)⟩) (fun q => n2 ⟨Int32.toInt_inj.1 (by omega), Int32.toInt_inj.1 (by omega)⟩)
      have m1 : ((v.1 - x).toInt64 * (v.2.2.1 - x).toInt64).toInt = (v.1.toInt - x.toInt) * (v.2.2.1.toInt - x.toInt) := by
        rw [mul64 (by rw [d1, d2]; omega) (by rw [d1, d2]; omega), d1, d2]
      have m2 : ((v.2.1 - y).toInt64 * (v.2.2.2 - y).toInt64).toInt = (v.2.1.toInt - y.toInt) * (v.2.2.2.toInt - y.toInt) := by
        rw [mul64 (by rw [d3, d4]; omega) (by rw [d3, d4]; omega), d3, d4]
      have m3 : ((v.1 - x).toInt64 * (v.2.2.1 - x).toInt64 + (v.2.1 - y).toInt64 * (v.2.2.2 - y).toInt64).toInt = (v.1.toInt - x.toInt) * (v.2.2.1.toInt - x.toInt) + (v.2.1.toInt - y.toInt) * (v.2.2.2.toInt - y.toInt) := by
        rw [add64 (by rw [m1, m2]; omega) (by rw [m1, m2]; omega), m1, m2]
      have k1 : (if v.2.2.1 < v.1 then v.2.2.1 else v.1).toInt = if v.2.2.1.toInt < v.1.toInt then v.2.2.1.toInt else v.1.toInt := by
        simp only [Int32.lt_iff_toInt_lt]; split <;> rfl
      have k2 : (if v.1 < v.2.2.1 then v.2.2.1 else v.1).toInt = if v.1.toInt < v.2.2.1.toInt then v.2.2.1.toInt else v.1.toInt := by
        simp only [Int32.lt_iff_toInt_lt]; split <;> rfl
      have k3 : (if v.2.2.2 < v.2.1 then v.2.2.2 else v.2.1).toInt = if v.2.2.2.toInt < v.2.1.toInt then v.2.2.2.toInt else v.2.1.toInt := by
        simp only [Int32.lt_iff_toInt_lt]; split <;> rfl
      have k4 : (if v.2.1 < v.2.2.2 then v.2.2.2 else v.2.1).toInt = if v.2.1.toInt < v.2.2.2.toInt then v.2.2.2.toInt else v.2.1.toInt := by
        simp only [Int32.lt_iff_toInt_lt]; split <;> rfl
      clear m1 m2 s1 s2
      generalize (v.1 - x).toInt64 * (v.2.2.1 - x).toInt64 + (v.2.1 - y).toInt64 * (v.2.2.2 - y).toInt64 = S at m3 ⊢
      generalize (if v.2.2.1 < v.1 then v.2.2.1 else v.1) = K1 at k1 ⊢
      generalize (if v.1 < v.2.2.1 then v.2.2.1 else v.1) = K2 at k2 ⊢
      generalize (if v.2.2.2 < v.2.1 then v.2.2.2 else v.2.1) = K3 at k3 ⊢
      generalize (if v.2.1 < v.2.2.2 then v.2.2.2 else v.2.1) = K4 at k4 ⊢
      simp only [Int64.le_iff_toInt_le, m3, Int64.toInt_zero, Int32.lt_iff_toInt_lt]
      generalize (v.1.toInt - x.toInt) * (v.2.2.1.toInt - x.toInt) = M1 at *
      generalize (v.2.1.toInt - y.toInt) * (v.2.2.2.toInt - y.toInt) = M2 at *
      have bx : M1 + M2 < 0 ↔ (¬ x.toInt < K1.toInt ∧ ¬ K2.toInt < x.toInt ∧ ¬ y.toInt < K3.toInt ∧ ¬ K4.toInt < y.toInt) := by
        rw [bd, k1, k2, k3, k4]
        constructor
        · intro q
          refine ⟨?_, ?_, ?_, ?_⟩ <;> split <;> omega
        · intro q
          obtain ⟨q1, q2, q3, q4⟩ := q
          split at q1 <;> split at q2 <;> split at q3 <;> split at q4 <;> omega
      by_cases c : 0 ≤ M1 + M2
      · rw [if_pos c]
        have nb : ¬ (¬ x.toInt < K1.toInt ∧ ¬ K2.toInt < x.toInt ∧ ¬ y.toInt < K3.toInt ∧ ¬ K4.toInt < y.toInt) := fun q => by have := bx.2 q; omega
        repeat' split
        all_goals first | rfl | (exfalso; exact nb ⟨by assumption, by assumption, by assumption, by assumption⟩)
      · rw [if_neg c]
        obtain ⟨q1, q2, q3, q4⟩ := bx.1 (by omega)
        rw [if_neg q1, if_neg q2, if_neg q3, if_neg q4]
    · rw [if_neg b, if_neg b]
  · rw [if_neg a]
    by_cases b : sW_side v x y = 0
    · rw [if_pos b, if_neg a]
    · rw [if_neg b]
theorem partsCO (v u : WV) : sM_areOpposite (sW_side v u.1 u.2.1) (sW_side v u.2.2.1 u.2.2.2) = sW_parts v u := by
  unfold sM_areOpposite sW_parts
  generalize sW_side v u.1 u.2.1 = A
  generalize sW_side v u.2.2.1 u.2.2.2 = B
  simp only [Int64.le_iff_toInt_le, Int64.lt_iff_toInt_lt, Int64.toInt_zero]
  generalize A.toInt = a
  generalize B.toInt = b
  repeat' split
  all_goals first | rfl | (exfalso; omega)
