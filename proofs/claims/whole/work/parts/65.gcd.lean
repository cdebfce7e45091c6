theorem emod2 {b r : Int} (h0 : 0 < r) (h1 : r ≤ b) : 0 ≤ b % r ∧ b % r < r ∧ b % r ≤ b - r := by
  have e := Int.mul_ediv_add_emod b r
  have q : 1 ≤ b / r := (Int.le_ediv_iff_mul_le h0).2 (by omega)
  have m : r * 1 ≤ r * (b / r) := Int.mul_le_mul_of_nonneg_left q (by omega)
  refine ⟨Int.emod_nonneg _ (by omega), Int.emod_lt_of_pos _ h0, by omega⟩
theorem rem64 {a b : Int64} (ha : 0 ≤ a.toInt) (hb : 0 < b.toInt) : (a - a / b * b).toInt = a.toInt % b.toInt := by
  have a1 := a.toInt_lt
  have e := Int.mul_ediv_add_emod a.toInt b.toInt
  have r0 := Int.emod_nonneg a.toInt (show b.toInt ≠ 0 by omega)
  have d : (a / b).toInt = a.toInt / b.toInt := by
    rw [Int64.toInt_div_of_ne_right a b (fun h => by rw [h] at hb; exact absurd hb (by decide))]
    exact Int.tdiv_eq_ediv_of_nonneg ha
  have p0 : 0 ≤ b.toInt * (a.toInt / b.toInt) := Int.mul_nonneg (by omega) (Int.ediv_nonneg ha (by omega))
  have m : (a / b * b).toInt = a.toInt / b.toInt * b.toInt := by
    rw [mul64 (by rw [d, Int.mul_comm]; omega) (by rw [d, Int.mul_comm]; omega), d]
  rw [sub64 (by rw [m, Int.mul_comm]; omega) (by rw [m, Int.mul_comm]; omega), m, Int.mul_comm]
  omega
theorem gcdT : ∀ (m : Nat) (a b : Int64), 0 < a.toInt → 0 ≤ b.toInt → b.toInt < 2 ^ m → ∃ g : Int64, 0 < g.toInt ∧ (∀ n, 2 * m < n → sGcdL n a b = g) ∧ ∀ n, 2 * m < n → sCom n a b = some g := by
  intro m
  induction m with
  | zero =>
    intro a b ha hb h
    have e : b = 0 := Int64.toInt_inj.1 (by rw [Int64.toInt_zero]; have : (2 : Int) ^ 0 = 1 := rfl; omega)
    subst e
    refine ⟨a, ha, fun n hn => ?_, fun n hn => ?_⟩
    · obtain ⟨n, rfl⟩ : ∃ n', n = n' + 1 := ⟨n - 1, by omega⟩
      unfold sGcdL
      rw [if_pos rfl]
    · obtain ⟨n, rfl⟩ : ∃ n', n = n' + 1 := ⟨n - 1, by omega⟩
      unfold sCom
      rw [if_pos (by decide)]
  | succ m ih =>
    intro a b ha hb h
    by_cases e : b = 0
    · subst e
      refine ⟨a, ha, fun n hn => ?_, fun n hn => ?_⟩
      · obtain ⟨n, rfl⟩ : ∃ n', n = n' + 1 := ⟨n - 1, by omega⟩
        unfold sGcdL
        rw [if_pos rfl]
      · obtain ⟨n, rfl⟩ : ∃ n', n = n' + 1 := ⟨n - 1, by omega⟩
        unfold sCom
        rw [if_pos (by decide)]
    · have b0 : 0 < b.toInt := by
        have : b.toInt ≠ 0 := fun q => e (Int64.toInt_inj.1 (by rw [q]; rfl))
        omega
      have nb : ¬ b ≤ 0 := fun q => by have := Int64.le_iff_toInt_le.1 q; rw [Int64.toInt_zero] at this; omega
      have r1 := rem64 (a := a) (b := b) (by omega) b0
      have q0 := Int.emod_nonneg a.toInt (show b.toInt ≠ 0 by omega)
      have q1 := Int.emod_lt_of_pos a.toInt b0
      generalize hc : a - a / b * b = c at r1
      by_cases e2 : c = 0
      · subst e2
        refine ⟨b, b0, fun n hn => ?_, fun n hn => ?_⟩
        · obtain ⟨n, rfl⟩ : ∃ n', n = n' + 2 := ⟨n - 2, by omega⟩
          show (if b = 0 then a else sGcdL (n + 1) b (a - a / b * b)) = b
          rw [if_neg e, hc]
          unfold sGcdL
          rw [if_pos rfl]
        · obtain ⟨n, rfl⟩ : ∃ n', n = n' + 2 := ⟨n - 2, by omega⟩
          show (if b ≤ 0 then some a else sCom (n + 1) b (a - a / b * b)) = some b
          rw [if_neg nb, hc]
          unfold sCom
          rw [if_pos (by decide)]
      · have c0 : 0 < c.toInt := by
          have : c.toInt ≠ 0 := fun q => e2 (Int64.toInt_inj.1 (by rw [q]; rfl))
          omega
        have nc : ¬ c ≤ 0 := fun q => by have := Int64.le_iff_toInt_le.1 q; rw [Int64.toInt_zero] at this; omega
        have r2 := rem64 (a := b) (b := c) (by omega) c0
        obtain ⟨u0, u1, u2⟩ := emod2 (b := b.toInt) (r := c.toInt) c0 (by omega)
        have pw : (2 : Int) ^ (m + 1) = 2 * 2 ^ m := by rw [Int.pow_succ, Int.mul_comm]
        obtain ⟨g, g0, g1, g2⟩ := ih c (b - b / c * c) c0 (by rw [r2]; exact u0) (by rw [r2]; omega)
        refine ⟨g, g0, fun n hn => ?_, fun n hn => ?_⟩
        · obtain ⟨n, rfl⟩ : ∃ n', n = n' + 2 := ⟨n - 2, by omega⟩
          show (if b = 0 then a else if a - a / b * b = 0 then b else sGcdL n (a - a / b * b) (b - b / (a - a / b * b) * (a - a / b * b))) = g
          rw [if_neg e, hc, if_neg e2]
          exact g1 n (by omega)
        · obtain ⟨n, rfl⟩ : ∃ n', n = n' + 2 := ⟨n - 2, by omega⟩
          show (if b ≤ 0 then some a else if a - a / b * b ≤ 0 then some b else sCom n (a - a / b * b) (b - b / (a - a / b * b) * (a - a / b * b))) = some g
          rw [if_neg nb, hc, if_neg nc]
          exact g2 n (by omega)
/-- the class's quotient of a piece's end, by what cut it -/
def clQ (w : WV) (oc : Option WV) (la ab : Int32) : Int64 := match oc with
  | none => if ab = 0 then 1 else if la = 0 then 0 else 1
  | some c => if sT_commonDivisor (ab64 (sW_side c w.1 w.2.1) + ab64 (sW_side c w.2.2.1 w.2.2.2)) (ab64 (sW_side c w.1 w.2.1)) = 0 then -1 else if ab = 0 then (ab64 (sW_side c w.1 w.2.1) + ab64 (sW_side c w.2.2.1 w.2.2.2)) / sT_commonDivisor (ab64 (sW_side c w.1 w.2.1) + ab64 (sW_side c w.2.2.1 w.2.2.2)) (ab64 (sW_side c w.1 w.2.1)) else ab64 (sW_side c w.1 w.2.1) / sT_commonDivisor (ab64 (sW_side c w.1 w.2.1) + ab64 (sW_side c w.2.2.1 w.2.2.2)) (ab64 (sW_side c w.1 w.2.1))
theorem clQ_eq {R : Nat → List Int32} {Wl : Nat → Option WV} {k : Int32} {p : Pc} {w : WV} (e6 : rAt (R 6) k = p.1) (e7 : rAt (R 7) k = p.2.1) (e8 : rAt (R 8) k = p.2.2) (hw : wAt Wl p.1 = some w) (ab : Int32) : sT_quotientOf R Wl k 0 ab = clQ w (wAt Wl p.2.1) 0 ab ∧ sT_quotientOf R Wl k 1 ab = clQ w (wAt Wl p.2.2) 1 ab := by
  unfold sT_quotientOf
  rw [e6, e7, e8, hw]
  constructor
  · dsimp only
    rw [if_pos rfl]
    cases wAt Wl p.2.1 with
    | none => rfl
    | some c => rfl
  · dsimp only
    rw [if_neg (by decide)]
    cases wAt Wl p.2.2 with
    | none => rfl
    | some c => rfl
theorem quotR {w : WV} (hw : okW w) {oc : Option WV} (hc : okC w oc) {N : Nat} (hN : 200 < N) (b : Int32) (hb : b = 0 ∨ b = 1) : ∃ g, sCom N (qE w oc b).1 (qE w oc b).2 = some g ∧ g ≠ 0 ∧ (qE w oc b).1 / g = clQ w oc b 1 ∧ (qE w oc b).2 / g = clQ w oc b 0 := by
  cases oc with
  | none =>
    obtain ⟨N, rfl⟩ : ∃ n', N = n' + 2 := ⟨N - 2, by omega⟩
    have s1 : sCom (N + 2) 0 1 = some 1 := by
      show (if (1 : Int64) ≤ 0 then _ else if (0 : Int64) - 0 / 1 * 1 ≤ 0 then some (1 : Int64) else _) = _
      rw [if_neg (by decide), if_pos (by decide)]
    have s2 : sCom (N + 2) 1 1 = some 1 := by
      show (if (1 : Int64) ≤ 0 then _ else if (1 : Int64) - 1 / 1 * 1 ≤ 0 then some (1 : Int64) else _) = _
      rw [if_neg (by decide), if_pos (by decide)]
    rcases hb with rfl | rfl
    · exact ⟨1, s1, by decide, (show (0 : Int64) / 1 = (if (1 : Int32) = 0 then 1 else if (0 : Int32) = 0 then 0 else 1) by decide), (show (1 : Int64) / 1 = (if (0 : Int32) = 0 then 1 else if (0 : Int32) = 0 then 0 else 1) by decide)⟩
    · exact ⟨1, s2, by decide, (show (1 : Int64) / 1 = (if (1 : Int32) = 0 then 1 else if (1 : Int32) = 0 then 0 else 1) by decide), (show (1 : Int64) / 1 = (if (0 : Int32) = 0 then 1 else if (1 : Int32) = 0 then 0 else 1) by decide)⟩
  | some c =>
    obtain ⟨ok, o⟩ := hc c rfl
    have b1 := sdZ_bd ok hw.1 hw.2.1
    have b2 := sdZ_bd ok hw.2.2.1 hw.2.2.2
    have t1 := sideZ ok hw.1 hw.2.1
    have t2 := sideZ ok hw.2.2.1 hw.2.2.2
    have a1 := ab64Z (x := sW_side c w.1 w.2.1) (by omega)
    have a2 := ab64Z (x := sW_side c w.2.2.1 w.2.2.2) (by omega)
    rw [t1] at a1
    rw [t2] at a2
    have p1 : 0 < abZ (sdZ c w.1 w.2.1) ∧ abZ (sdZ c w.1 w.2.1) ≤ 4294836225 := by
      unfold op at o
      unfold abZ
      split <;> omega
    have p2 : 0 < abZ (sdZ c w.2.2.1 w.2.2.2) ∧ abZ (sdZ c w.2.2.1 w.2.2.2) ≤ 4294836225 := by
      unfold op at o
      unfold abZ
      split <;> omega
    show ∃ g, sCom N (ab64 (sW_side c w.1 w.2.1)) (ab64 (sW_side c w.1 w.2.1) + ab64 (sW_side c w.2.2.1 w.2.2.2)) = some g ∧ g ≠ 0 ∧ ab64 (sW_side c w.1 w.2.1) / g = clQ w (some c) b 1 ∧ (ab64 (sW_side c w.1 w.2.1) + ab64 (sW_side c w.2.2.1 w.2.2.2)) / g = clQ w (some c) b 0
    unfold clQ sT_commonDivisor
    dsimp only
    generalize ab64 (sW_side c w.1 w.2.1) = A at *
    generalize ab64 (sW_side c w.2.2.1 w.2.2.2) = B at *
    have e := add64 (a := A) (b := B) (by omega) (by omega)
    have rm := rem64 (a := A) (b := A + B) (by omega) (by omega)
    have rm2 : A - A / (A + B) * (A + B) = A := Int64.toInt_inj.1 (by rw [rm]; exact Int.emod_eq_of_lt (by omega) (by omega))
    obtain ⟨g, g0, g1, g2⟩ := gcdT 33 (A + B) A (by omega) (by omega) (by have : (2 : Int) ^ 33 = 8589934592 := by decide
                                                                          omega)
    have gne : g ≠ 0 := fun q => by rw [q] at g0; exact absurd g0 (by decide)
    obtain ⟨N, rfl⟩ : ∃ n', N = n' + 1 := ⟨N - 1, by omega⟩
    have np : ¬ A + B ≤ 0 := fun q => by have := Int64.le_iff_toInt_le.1 q; rw [Int64.toInt_zero] at this; omega
    refine ⟨g, ?_, gne, ?_, ?_⟩
    · unfold sCom
      rw [if_neg np, rm2]
      exact g2 N (by omega)
    · rw [g1 128 (by omega), if_neg gne, if_neg (by decide)]
    · rw [g1 128 (by omega), if_neg gne, if_pos rfl]
