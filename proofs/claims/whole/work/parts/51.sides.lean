def okI (v : Int32) : Prop := -32768 ≤ v.toInt ∧ v.toInt ≤ 32767
def okW (v : WV) : Prop := okI v.1 ∧ okI v.2.1 ∧ okI v.2.2.1 ∧ okI v.2.2.2
/-- on which side of the wall's line a place lies, as a number without bounds -/
def sdZ (v : WV) (x y : Int32) : Int := (v.2.2.1.toInt - v.1.toInt) * (y.toInt - v.2.1.toInt) - (v.2.2.2.toInt - v.2.1.toInt) * (x.toInt - v.1.toInt)
theorem mulab {p q : Int} (h0 : 0 ≤ p) (h1 : p ≤ 65535) (h2 : 0 ≤ q) (h3 : q ≤ 65535) : 0 ≤ p * q ∧ p * q ≤ 65535 * q ∧ p * q ≤ 65535 * p :=
  ⟨Int.mul_nonneg h0 h2, Int.mul_le_mul_of_nonneg_right h1 h2, by rw [Int.mul_comm p q]; exact Int.mul_le_mul_of_nonneg_right h3 h0⟩
theorem mulsg {p q : Int} (hp0 : -65535 ≤ p) (hp1 : p ≤ 65535) (hq0 : -65535 ≤ q) (hq1 : q ≤ 65535) : (0 ≤ p ∧ 0 ≤ q ∧ 0 ≤ p * q ∧ p * q ≤ 65535 * q ∧ p * q ≤ 65535 * p) ∨ (0 ≤ p ∧ q ≤ 0 ∧ p * q ≤ 0 ∧ 65535 * q ≤ p * q ∧ -(65535 * p) ≤ p * q) ∨ (p ≤ 0 ∧ 0 ≤ q ∧ p * q ≤ 0 ∧ -(65535 * q) ≤ p * q ∧ 65535 * p ≤ p * q) ∨ (p ≤ 0 ∧ q ≤ 0 ∧ 0 ≤ p * q ∧ p * q ≤ -(65535 * q) ∧ p * q ≤ -(65535 * p)) := by
  rcases Int.le_total 0 p with a | a
  · rcases Int.le_total 0 q with b | b
    · have m := mulab a hp1 b hq1
      exact Or.inl ⟨a, b, m⟩
    · have m := mulab (q := -q) a hp1 (by omega) (by omega)
      rw [Int.mul_neg] at m
      exact Or.inr (Or.inl ⟨a, b, by omega, by omega, by omega⟩)
  · rcases Int.le_total 0 q with b | b
    · have m := mulab (p := -p) (by omega) (by omega) b hq1
      rw [Int.neg_mul] at m
      exact Or.inr (Or.inr (Or.inl ⟨a, b, by omega, by omega, by omega⟩))
    · have m := mulab (p := -p) (q := -q) (by omega) (by omega) (by omega) (by omega)
      rw [Int.neg_mul, Int.mul_neg, Int.neg_neg] at m
      exact Or.inr (Or.inr (Or.inr ⟨a, b, by omega, by omega, by omega⟩))
theorem tri1 {p q r s : Int} (hp0 : -65535 ≤ p) (hp1 : p ≤ 65535) (hq0 : -65535 ≤ q) (hq1 : q ≤ 65535) (hr0 : -65535 ≤ r) (hr1 : r ≤ 65535) (hs0 : -65535 ≤ s) (hs1 : s ≤ 65535) (h1 : p - s ≤ 65535) (h2 : s - p ≤ 65535) (h3 : q - r ≤ 65535) (h4 : r - q ≤ 65535) : -4294836225 ≤ p * q - r * s ∧ p * q - r * s ≤ 4294836225 := by
  have f := mulsg hp0 hp1 hq0 hq1
  have g := mulsg hr0 hr1 hs0 hs1
  generalize p * q = P at *
  generalize r * s = Q at *
  omega
theorem sdZ_bd {v : WV} {x y : Int32} (hv : okW v) (hx : okI x) (hy : okI y) : -4294836225 ≤ sdZ v x y ∧ sdZ v x y ≤ 4294836225 := by
  obtain ⟨⟨a0, a1⟩, ⟨b0, b1⟩, ⟨c0, c1⟩, ⟨d0, d1⟩⟩ := hv
  obtain ⟨x0, x1⟩ := hx
  obtain ⟨y0, y1⟩ := hy
  exact tri1 (by omega) (by omega) (by omega) (by omega) (by omega) (by omega) (by omega) (by omega) (by omega) (by omega) (by omega) (by omega)
theorem df {a b : Int32} (ha : okI a) (hb : okI b) : ((a - b).toInt64).toInt = a.toInt - b.toInt := by
  obtain ⟨a0, a1⟩ := ha
  obtain ⟨b0, b1⟩ := hb
  rw [Int32.toInt_toInt64, sub32 (by omega) (by omega)]
theorem sideZ {v : WV} {x y : Int32} (hv : okW v) (hx : okI x) (hy : okI y) : (sW_side v x y).toInt = sdZ v x y := by
  have bd := sdZ_bd hv hx hy
  have e1 := df hv.2.2.1 hv.1
  have e2 := df hy hv.2.1
  have e3 := df hv.2.2.2 hv.2.1
  have e4 := df hx hv.1
  obtain ⟨⟨a0, a1⟩, ⟨b0, b1⟩, ⟨c0, c1⟩, ⟨d0, d1⟩⟩ := hv
  obtain ⟨x0, x1⟩ := hx
  obtain ⟨y0, y1⟩ := hy
  unfold sdZ at bd ⊢
  unfold sW_side
  rw [← e1, ← e2, ← e3, ← e4] at bd ⊢
  have f := mulsg (p := (v.2.2.1 - v.1).toInt64.toInt) (q := (y - v.2.1).toInt64.toInt) (by omega) (by omega) (by omega) (by omega)
  have g := mulsg (p := (v.2.2.2 - v.2.1).toInt64.toInt) (q := (x - v.1).toInt64.toInt) (by omega) (by omega) (by omega) (by omega)
  have m1 : ((v.2.2.1 - v.1).toInt64 * (y - v.2.1).toInt64).toInt = (v.2.2.1 - v.1).toInt64.toInt * (y - v.2.1).toInt64.toInt := mul64 (by omega) (by omega)
  have m2 : ((v.2.2.2 - v.2.1).toInt64 * (x - v.1).toInt64).toInt = (v.2.2.2 - v.2.1).toInt64.toInt * (x - v.1).toInt64.toInt := mul64 (by omega) (by omega)
  rw [sub64 (by rw [m1, m2]; omega) (by rw [m1, m2]; omega), m1, m2]
/-- the class's walls and the reference's are the same -/
def AG (Wl : Nat → Option WV) (mz : MSt) : Prop := ∀ i, i < 64 → (Wl i = none → mz.2.1 1 i = 0) ∧ ∀ v, Wl i = some v → mz.2.1 1 i = 1 ∧ okW v ∧ mz.2.1 2 i = v.1 ∧ mz.2.1 3 i = v.2.1 ∧ mz.2.1 4 i = v.2.2.1 ∧ mz.2.1 5 i = v.2.2.2
theorem wAt_some {Wl : Nat → Option WV} {i : Int32} {v : WV} (h : wAt Wl i = some v) : ∃ j, j < 64 ∧ i = nI j ∧ Wl j = some v := by
  unfold wAt at h
  split at h
  · cases h
  · rename_i h0
    split at h
    · cases h
    · rename_i h1
      rcases pk_ix i (n := 64) (by decide) with q | q | ⟨j, hj, rfl⟩
      · exact absurd q h0
      · exact absurd q h1
      · rw [nI_clamp (by omega)] at h
        exact ⟨j, hj, rfl, h⟩
theorem wAt_nI {Wl : Nat → Option WV} {j : Nat} (h : j < 64) : wAt Wl (nI j) = Wl j := by
  unfold wAt
  rw [if_neg (nI_pos (by omega)), if_neg (show ¬ (64 : Int32) ≤ nI j from nI_ge h (by decide)), nI_clamp (by omega)]
theorem wAt_neg (Wl : Nat → Option WV) : wAt Wl (-1) = none := by
  unfold wAt
  rw [if_pos (by decide)]
theorem vpin_nI {j n : Nat} (h : j < n) (hn : n < 2 ^ 31) : vpin (nI j) n := by
  have e := nI_toInt (n := j) (by omega)
  exact ⟨by rw [e]; omega, by rw [e]; omega⟩
theorem toI64sub {a b : Int32} (ha : okI a) (hb : okI b) : a.toInt64 - b.toInt64 = (a - b).toInt64 := by
  apply Int64.toInt_inj.1
  have e := df ha hb
  obtain ⟨a0, a1⟩ := ha
  obtain ⟨b0, b1⟩ := hb
  rw [e, sub64 (by rw [Int32.toInt_toInt64, Int32.toInt_toInt64]; omega) (by rw [Int32.toInt_toInt64, Int32.toInt_toInt64]; omega), Int32.toInt_toInt64, Int32.toInt_toInt64]
theorem sideOfR {Wl : Nat → Option WV} {mz : MSt} (h : AG Wl mz) {i : Int32} {v : WV} (hv : wAt Wl i = some v) {x y : Int32} (hx : okI x) (hy : okI y) : sM_sideOf mz i x.toInt64 y.toInt64 = some (sW_side v x y) := by
  obtain ⟨j, hj, rfl, e⟩ := wAt_some hv
  obtain ⟨-, ok, e2, e3, e4, e5⟩ := (h j hj).2 v e
  unfold sM_sideOf
  rw [if_pos (vpin_nI hj (by decide)), nI_clamp (by omega), e2, e3, e4, e5, toI64sub hx ok.1, toI64sub hy ok.2.1]
  rfl
theorem AG.ok {Wl : Nat → Option WV} {mz : MSt} (h : AG Wl mz) {i : Int32} {v : WV} (hv : wAt Wl i = some v) : okW v := by
  obtain ⟨j, hj, rfl, e⟩ := wAt_some hv
  exact ((h j hj).2 v e).2.1
/-- strictly on two sides -/
def op (z w : Int) : Prop := (0 < z ∧ w < 0) ∨ (z < 0 ∧ 0 < w)
def abZ (z : Int) : Int := if 0 < z then z else -z
def ab64 (x : Int64) : Int64 := if 0 < x then x else -x
theorem ab64Z {x : Int64} (h : -4294836225 ≤ x.toInt) : (ab64 x).toInt = abZ x.toInt := by
  unfold ab64 abZ
  simp only [Int64.lt_iff_toInt_lt, Int64.toInt_zero]
  split
  · rfl
  · exact neg64 (by omega)
/-- the weights of a piece's end: off A, off B -/
def eW (w : WV) (oc : Option WV) (b : Int32) : Int × Int := match oc with
  | none => if b = 0 then (0, 1) else (1, 0)
  | some c => (abZ (sdZ c w.1 w.2.1), abZ (sdZ c w.2.2.1 w.2.2.2))
def valE (l w : WV) (oc : Option WV) (b : Int32) : Int := sdZ l w.1 w.2.1 * (eW w oc b).2 + sdZ l w.2.2.1 w.2.2.2 * (eW w oc b).1
/-- the reference's quotient of it -/
def qE (w : WV) (oc : Option WV) (b : Int32) : Int64 × Int64 := match oc with
  | none => if b = 0 then (0, 1) else (1, 1)
  | some c => (ab64 (sW_side c w.1 w.2.1), ab64 (sW_side c w.1 w.2.1) + ab64 (sW_side c w.2.2.1 w.2.2.2))
def okC (w : WV) (oc : Option WV) : Prop := ∀ c, oc = some c → okW c ∧ op (sdZ c w.1 w.2.1) (sdZ c w.2.2.1 w.2.2.2)
theorem eW_bd {w : WV} {oc : Option WV} {b : Int32} (hw : okW w) (hc : okC w oc) : 0 ≤ (eW w oc b).1 ∧ (eW w oc b).1 ≤ 4294836225 ∧ 0 ≤ (eW w oc b).2 ∧ (eW w oc b).2 ≤ 4294836225 ∧ 0 < (eW w oc b).1 + (eW w oc b).2 := by
  cases oc with
  | none =>
    unfold eW
    by_cases h : b = 0
    · simp only [h, if_true]; omega
    · simp only [h, if_false]; omega
  | some c =>
    obtain ⟨ok, o⟩ := hc c rfl
    have b1 := sdZ_bd ok hw.1 hw.2.1
    have b2 := sdZ_bd ok hw.2.2.1 hw.2.2.2
    unfold op at o
    show 0 ≤ abZ (sdZ c w.1 w.2.1) ∧ abZ (sdZ c w.1 w.2.1) ≤ 4294836225 ∧ 0 ≤ abZ (sdZ c w.2.2.1 w.2.2.2) ∧ abZ (sdZ c w.2.2.1 w.2.2.2) ≤ 4294836225 ∧ 0 < abZ (sdZ c w.1 w.2.1) + abZ (sdZ c w.2.2.1 w.2.2.2)
    unfold abZ
    repeat' split
    all_goals omega
theorem qE_Z {w : WV} {oc : Option WV} {b : Int32} (hw : okW w) (hc : okC w oc) : (qE w oc b).1.toInt = (eW w oc b).1 ∧ ((qE w oc b).2 - (qE w oc b).1).toInt = (eW w oc b).2 := by
  cases oc with
  | none =>
    by_cases h : b = 0
    · subst h; exact ⟨(show (0 : Int64).toInt = 0 by decide), (show ((1 : Int64) - 0).toInt = 1 by decide)⟩
    · unfold qE eW
      simp only [h, if_false]
      exact ⟨by decide, by decide⟩
  | some c =>
    obtain ⟨ok, o⟩ := hc c rfl
    have bd := eW_bd (b := b) hw hc
    have b1 := sdZ_bd ok hw.1 hw.2.1
    have b2 := sdZ_bd ok hw.2.2.1 hw.2.2.2
    have s1 := sideZ ok hw.1 hw.2.1
    have s2 := sideZ ok hw.2.2.1 hw.2.2.2
    have a1 := ab64Z (x := sW_side c w.1 w.2.1) (by omega)
    have a2 := ab64Z (x := sW_side c w.2.2.1 w.2.2.2) (by omega)
    rw [s1] at a1
    rw [s2] at a2
    change 0 ≤ abZ (sdZ c w.1 w.2.1) ∧ abZ (sdZ c w.1 w.2.1) ≤ 4294836225 ∧ 0 ≤ abZ (sdZ c w.2.2.1 w.2.2.2) ∧ abZ (sdZ c w.2.2.1 w.2.2.2) ≤ 4294836225 ∧ _ at bd
    show (ab64 (sW_side c w.1 w.2.1)).toInt = abZ (sdZ c w.1 w.2.1) ∧ (ab64 (sW_side c w.1 w.2.1) + ab64 (sW_side c w.2.2.1 w.2.2.2) - ab64 (sW_side c w.1 w.2.1)).toInt = abZ (sdZ c w.2.2.1 w.2.2.2)
    have e := add64 (a := ab64 (sW_side c w.1 w.2.1)) (b := ab64 (sW_side c w.2.2.1 w.2.2.2)) (by omega) (by omega)
    refine ⟨a1, ?_⟩
    rw [sub64 (by omega) (by omega), e]
    omega
/-- the class's side of a piece's end -/
theorem sideOfEndZ {Wl : Nat → Option WV} {Rw : Nat → List Int32} {ln w c b : Int32} {l wv : WV} (hl : wAt Wl ln = some l) (hw : wAt Wl w = some wv) (okl : okW l) (okw : okW wv) (hc : okC wv (wAt Wl c)) : sT_sideOfEnd Rw Wl ln w c b = sg3 (valE l wv (wAt Wl c) b) := by
  have b1 := sdZ_bd okl okw.1 okw.2.1
  have b2 := sdZ_bd okl okw.2.2.1 okw.2.2.2
  have s1 := sideZ okl okw.1 okw.2.1
  have s2 := sideZ okl okw.2.2.1 okw.2.2.2
  unfold sT_sideOfEnd
  rw [hl, hw]
  cases e : wAt Wl c with
  | none =>
    by_cases h : b = 0
    · simp only [h, if_true]
      rw [sideOfZ, s1]
      unfold valE eW
      simp only [if_true, Int.mul_one, Int.mul_zero, Int.add_zero]
    · simp only [h, if_false]
      rw [sideOfZ, s2]
      unfold valE eW
      simp only [h, if_false, Int.mul_one, Int.mul_zero, Int.zero_add]
  | some cv =>
    rw [e] at hc
    obtain ⟨ok, o⟩ := hc cv rfl
    have d1 := sdZ_bd ok okw.1 okw.2.1
    have d2 := sdZ_bd ok okw.2.2.1 okw.2.2.2
    have t1 := sideZ ok okw.1 okw.2.1
    have t2 := sideZ ok okw.2.2.1 okw.2.2.2
    have a1 := ab64Z (x := sW_side cv wv.1 wv.2.1) (by omega)
    have a2 := ab64Z (x := sW_side cv wv.2.2.1 wv.2.2.2) (by omega)
    rw [t1] at a1
    rw [t2] at a2
    have p1 : 0 < abZ (sdZ cv wv.1 wv.2.1) ∧ abZ (sdZ cv wv.1 wv.2.1) ≤ 4294836225 := by
      unfold op at o
      unfold abZ
      split <;> omega
    have p2 : 0 < abZ (sdZ cv wv.2.2.1 wv.2.2.2) ∧ abZ (sdZ cv wv.2.2.1 wv.2.2.2) ≤ 4294836225 := by
      unfold op at o
      unfold abZ
      split <;> omega
    show sT_sideBetween (sW_side l wv.1 wv.2.1) (sW_side l wv.2.2.1 wv.2.2.2) (ab64 (sW_side cv wv.1 wv.2.1)) (ab64 (sW_side cv wv.2.2.1 wv.2.2.2)) = _
    rw [sideBetweenZ _ _ _ _ (by omega) (by omega) (by omega) (by omega) (by omega) (by omega) (by omega) (by omega), a1, a2, s1, s2]
    rfl
/-- the reference's -/
theorem sideAtZ {Wl : Nat → Option WV} {mz : MSt} (h : AG Wl mz) {ln w b : Int32} {oc : Option WV} {l wv : WV} (hl : wAt Wl ln = some l) (hw : wAt Wl w = some wv) (hc : okC wv oc) : sM_sideAt mz ln w (qE wv oc b).1 (qE wv oc b).2 = some (sgm (valE l wv oc b)) := by
  have okl := h.ok hl
  have okw := h.ok hw
  have b1 := sdZ_bd okl okw.1 okw.2.1
  have b2 := sdZ_bd okl okw.2.2.1 okw.2.2.2
  have s1 := sideZ okl okw.1 okw.2.1
  have s2 := sideZ okl okw.2.2.1 okw.2.2.2
  obtain ⟨q1, q2⟩ := qE_Z (b := b) okw hc
  have bd := eW_bd (b := b) okw hc
  have r1 := sideOfR h hl okw.1 okw.2.1
  have r2 := sideOfR h hl okw.2.2.1 okw.2.2.2
  obtain ⟨j, hj, rfl, e⟩ := wAt_some hw
  obtain ⟨-, ok, e2, e3, e4, e5⟩ := (h j hj).2 wv e
  have n2 := neg64 (a := sW_side l wv.2.2.1 wv.2.2.2) (by omega)
  unfold sM_sideAt
  rw [if_pos (vpin_nI hj (by decide)), nI_clamp (by omega), e2, e3, e4, e5, r1, r2]
  show some (sM_order _ _ _ _) = _
  rw [orderZ _ _ _ _ (by omega) (by omega) (by omega) (by omega) (by omega) (by omega) (by omega) (by omega), q1, q2, n2, s1, s2, Int.neg_mul, Int.sub_neg]
  rfl
theorem sg_cases (z : Int) : (0 < z ∧ sg3 z = 1 ∧ sgm z = 1) ∨ (z < 0 ∧ sg3 z = 2 ∧ sgm z = -1) ∨ (z = 0 ∧ sg3 z = 0 ∧ sgm z = 0) := by
  unfold sg3 sgm
  rcases Int.lt_trichotomy z 0 with h | h | h
  · right; left
    rw [if_neg (by omega), if_pos h, if_neg (by omega), if_pos h]
    exact ⟨h, rfl, rfl⟩
  · right; right
    rw [if_neg (by omega), if_neg (by omega), if_neg (by omega), if_neg (by omega)]
    exact ⟨h, rfl, rfl⟩
  · left
    rw [if_pos h, if_pos h]
    exact ⟨h, rfl, rfl⟩
/-- pieces: the wall, what cut its first end, what cut its last -/
abbrev Pc : Type := Int32 × Int32 × Int32
def eF (Wl : Nat → Option WV) (ln : Int32) (p : Pc) : Int32 := sT_sideOfEnd (fun _ => []) Wl ln p.1 p.2.1 0
def eL (Wl : Nat → Option WV) (ln : Int32) (p : Pc) : Int32 := sT_sideOfEnd (fun _ => []) Wl ln p.1 p.2.2 1
def wh (Wl : Nat → Option WV) (ln : Int32) (p : Pc) : Int32 := eF Wl ln p ||| eL Wl ln p
def okP (Wl : Nat → Option WV) (p : Pc) : Prop := ∃ w, wAt Wl p.1 = some w ∧ okC w (wAt Wl p.2.1) ∧ okC w (wAt Wl p.2.2)
/-- the reference's piece j is this one -/
def HP (Wl : Nat → Option WV) (mz : MSt) (j : Nat) (p : Pc) : Prop := mz.2.1 8 j = p.1 ∧ ∃ w, wAt Wl p.1 = some w ∧ mz.2.2 9 j = (qE w (wAt Wl p.2.1) 0).1 ∧ mz.2.2 10 j = (qE w (wAt Wl p.2.1) 0).2 ∧ mz.2.2 11 j = (qE w (wAt Wl p.2.2) 1).1 ∧ mz.2.2 12 j = (qE w (wAt Wl p.2.2) 1).2
/-- the class's word for where a piece lies, in the reference's numbers -/
def tl (x : Int32) : Int32 := if x = 3 then 2 else if x = 2 then -1 else x
def tm (x : Int32) : Int32 := if x = 2 then -1 else x
theorem wh_cases {Wl : Nat → Option WV} {ln : Int32} {p : Pc} {l w : WV} (hl : wAt Wl ln = some l) (okl : okW l) (hw : wAt Wl p.1 = some w) (okw : okW w) (h1 : okC w (wAt Wl p.2.1)) (h2 : okC w (wAt Wl p.2.2)) : eF Wl ln p = sg3 (valE l w (wAt Wl p.2.1) 0) ∧ eL Wl ln p = sg3 (valE l w (wAt Wl p.2.2) 1) :=
  ⟨sideOfEndZ hl hw okl okw h1, sideOfEndZ hl hw okl okw h2⟩
theorem lieOfR {Wl : Nat → Option WV} {mz : MSt} (h : AG Wl mz) {ln : Int32} {l : WV} (hl : wAt Wl ln = some l) {j : Nat} (hj : j < 8300) {p : Pc} (hp : okP Wl p) (hj2 : HP Wl mz j p) : sM_lieOf mz ln (nI j) = some (tl (wh Wl ln p)) := by
  obtain ⟨w, hw, h1, h2⟩ := hp
  obtain ⟨e8, w', hw', e9, e10, e11, e12⟩ := hj2
  obtain rfl : w = w' := Option.some.inj (hw.symm.trans hw')
  obtain ⟨c1, c2⟩ := wh_cases hl (h.ok hl) hw (h.ok hw) h1 h2
  have s1 := sideAtZ (b := 0) h hl hw h1
  have s2 := sideAtZ (b := 1) h hl hw h2
  unfold sM_lieOf
  rw [if_pos (vpin_nI hj (by decide)), nI_clamp (by omega), e8, e9, e10, e11, e12, s1, s2]
  unfold wh
  rw [c1, c2]
  rcases sg_cases (valE l w (wAt Wl p.2.1) 0) with ⟨-, a, b⟩ | ⟨-, a, b⟩ | ⟨-, a, b⟩ <;> rcases sg_cases (valE l w (wAt Wl p.2.2) 1) with ⟨-, c, d⟩ | ⟨-, c, d⟩ | ⟨-, c, d⟩ <;> rw [a, b, c, d] <;> decide
/-- where a line cuts a piece, it parts the wall's ends -/
theorem cut_op {a b a1 b1 a2 b2 : Int} (h1 : 0 ≤ a1) (h2 : 0 ≤ b1) (h3 : 0 ≤ a2) (h4 : 0 ≤ b2) (h : op (a * b1 + b * a1) (a * b2 + b * a2)) : op a b := by
  unfold op at *
  rcases Int.le_total 0 a with x | x
  · rcases Int.le_total 0 b with y | y
    · have := Int.mul_nonneg x h2
      have := Int.mul_nonneg y h1
      have := Int.mul_nonneg x h4
      have := Int.mul_nonneg y h3
      omega
    · by_cases e1 : a = 0
      · subst e1
        have k1 := Int.mul_nonneg (a := -b) (by omega) h1
        have k2 := Int.mul_nonneg (a := -b) (by omega) h3
        rw [Int.neg_mul] at k1 k2
        simp only [Int.zero_mul, Int.zero_add] at h
        omega
      · by_cases e2 : b = 0
        · subst e2
          have := Int.mul_nonneg x h2
          have := Int.mul_nonneg x h4
          simp only [Int.zero_mul, Int.add_zero] at h
          omega
        · omega
  · rcases Int.le_total 0 b with y | y
    · by_cases e1 : a = 0
      · subst e1
        have k1 := Int.mul_nonneg y h1
        have k2 := Int.mul_nonneg y h3
        simp only [Int.zero_mul, Int.zero_add] at h
        omega
      · by_cases e2 : b = 0
        · subst e2
          have k1 := Int.mul_nonneg (a := -a) (by omega) h2
          have k2 := Int.mul_nonneg (a := -a) (by omega) h4
          rw [Int.neg_mul] at k1 k2
          simp only [Int.zero_mul, Int.add_zero] at h
          omega
        · omega
    · have k1 := Int.mul_nonneg (a := -a) (by omega) h2
      have k2 := Int.mul_nonneg (a := -b) (by omega) h1
      have k3 := Int.mul_nonneg (a := -a) (by omega) h4
      have k4 := Int.mul_nonneg (a := -b) (by omega) h3
      rw [Int.neg_mul] at k1 k2 k3 k4
      omega
theorem wh3 {Wl : Nat → Option WV} {ln : Int32} {p : Pc} {l w : WV} (hl : wAt Wl ln = some l) (okl : okW l) (hw : wAt Wl p.1 = some w) (okw : okW w) (h1 : okC w (wAt Wl p.2.1)) (h2 : okC w (wAt Wl p.2.2)) (h : wh Wl ln p = 3) : op (valE l w (wAt Wl p.2.1) 0) (valE l w (wAt Wl p.2.2) 1) ∧ op (sdZ l w.1 w.2.1) (sdZ l w.2.2.1 w.2.2.2) := by
  obtain ⟨c1, c2⟩ := wh_cases hl okl hw okw h1 h2
  have k : op (valE l w (wAt Wl p.2.1) 0) (valE l w (wAt Wl p.2.2) 1) := by
    unfold wh at h
    rw [c1, c2] at h
    unfold op
    rcases sg_cases (valE l w (wAt Wl p.2.1) 0) with ⟨x, a, b⟩ | ⟨x, a, b⟩ | ⟨x, a, b⟩ <;> rcases sg_cases (valE l w (wAt Wl p.2.2) 1) with ⟨y, c, d⟩ | ⟨y, c, d⟩ | ⟨y, c, d⟩ <;> rw [a, c] at h
    all_goals first | (exfalso; revert h; decide) | omega
  have d1 := eW_bd (b := 0) okw h1
  have d2 := eW_bd (b := 1) okw h2
  exact ⟨k, cut_op d1.1 d1.2.2.1 d2.1 d2.2.2.1 k⟩
theorem qE_cut {l w : WV} (okl : okW l) (okw : okW w) (o : op (sdZ l w.1 w.2.1) (sdZ l w.2.2.1 w.2.2.2)) (b : Int32) : (if 0 ≤ sW_side l w.1 w.2.1 - sW_side l w.2.2.1 w.2.2.2 then (sW_side l w.1 w.2.1, sW_side l w.1 w.2.1 - sW_side l w.2.2.1 w.2.2.2) else (-(sW_side l w.1 w.2.1), -(sW_side l w.1 w.2.1 - sW_side l w.2.2.1 w.2.2.2))) = qE w (some l) b := by
  have b1 := sdZ_bd okl okw.1 okw.2.1
  have b2 := sdZ_bd okl okw.2.2.1 okw.2.2.2
  have s1 := sideZ okl okw.1 okw.2.1
  have s2 := sideZ okl okw.2.2.1 okw.2.2.2
  show _ = (ab64 (sW_side l w.1 w.2.1), ab64 (sW_side l w.1 w.2.1) + ab64 (sW_side l w.2.2.1 w.2.2.2))
  generalize sW_side l w.1 w.2.1 = A at *
  generalize sW_side l w.2.2.1 w.2.2.2 = B at *
  generalize sdZ l w.1 w.2.1 = a at *
  generalize sdZ l w.2.2.1 w.2.2.2 = c at *
  have e1 : (A - B).toInt = a - c := by rw [sub64 (by omega) (by omega), s1, s2]
  unfold op at o
  rcases o with ⟨x, y⟩ | ⟨x, y⟩
  · have p1 : 0 ≤ A - B := Int64.le_iff_toInt_le.2 (by rw [e1, Int64.toInt_zero]; omega)
    have p2 : 0 < A := Int64.lt_iff_toInt_lt.2 (by rw [s1, Int64.toInt_zero]; omega)
    have p3 : ¬ 0 < B := fun q => by have := Int64.lt_iff_toInt_lt.1 q; rw [s2, Int64.toInt_zero] at this; omega
    unfold ab64
    rw [if_pos p1, if_pos p2, if_neg p3, Int64.sub_eq_add_neg]
  · have p1 : ¬ 0 ≤ A - B := fun q => by have := Int64.le_iff_toInt_le.1 q; rw [e1, Int64.toInt_zero] at this; omega
    have p2 : ¬ 0 < A := fun q => by have := Int64.lt_iff_toInt_lt.1 q; rw [s1, Int64.toInt_zero] at this; omega
    have p3 : 0 < B := Int64.lt_iff_toInt_lt.2 (by rw [s2, Int64.toInt_zero]; omega)
    unfold ab64
    rw [if_neg p1, if_neg p2, if_pos p3]
    congr 1
    apply Int64.toInt_inj.1
    have n1 := neg64 (a := A) (by omega)
    rw [neg64 (by omega), e1, add64 (by omega) (by omega), n1, s1, s2]
    omega
theorem partR {Wl : Nat → Option WV} {mz : MSt} (h : AG Wl mz) {ln : Int32} {l w : WV} (hl : wAt Wl ln = some l) {j : Nat} (hj : j < 8300) {p : Pc} (hw : wAt Wl p.1 = some w) (h1 : okC w (wAt Wl p.2.1)) (h2 : okC w (wAt Wl p.2.2)) (hj2 : HP Wl mz j p) (hc : wh Wl ln p = 3) (sd : Int32) : sM_part mz (nI j) ln sd = if tm (eF Wl ln p) = sd then sM_piece mz p.1 (qE w (wAt Wl p.2.1) 0).1 (qE w (wAt Wl p.2.1) 0).2 (qE w (some l) 1).1 (qE w (some l) 1).2 else sM_piece mz p.1 (qE w (some l) 0).1 (qE w (some l) 0).2 (qE w (wAt Wl p.2.2) 1).1 (qE w (wAt Wl p.2.2) 1).2 := by
  obtain ⟨e8, w', hw', e9, e10, e11, e12⟩ := hj2
  obtain rfl : w = w' := Option.some.inj (hw.symm.trans hw')
  have okl := h.ok hl
  have okw := h.ok hw
  obtain ⟨c1, c2⟩ := wh_cases hl okl hw okw h1 h2
  obtain ⟨-, o⟩ := wh3 hl okl hw okw h1 h2 hc
  have s1 := sideAtZ (b := 0) h hl hw h1
  have r1 := sideOfR h hl okw.1 okw.2.1
  have r2 := sideOfR h hl okw.2.2.1 okw.2.2.2
  have et : tm (eF Wl ln p) = sgm (valE l w (wAt Wl p.2.1) 0) := by
    rw [c1]
    rcases sg_cases (valE l w (wAt Wl p.2.1) 0) with ⟨-, a, b⟩ | ⟨-, a, b⟩ | ⟨-, a, b⟩ <;> rw [a, b] <;> decide
  have g0 := qE_cut okl okw o 0
  have g1 := qE_cut okl okw o 1
  have mm : ∀ o : Option (MSt × Int32), (match o with | none => none | some r => some (r.1, r.2)) = o := fun o => by cases o <;> rfl
  obtain ⟨i, hi, ei, e⟩ := wAt_some hw
  obtain ⟨-, ok, e2, e3, e4, e5⟩ := (h i hi).2 w e
  unfold sM_part
  rw [if_pos (vpin_nI hj (by decide)), nI_clamp (n := j) (by omega), e8, e9, e10, e11, e12, s1, et]
  rw [ei, if_pos (vpin_nI hi (by decide)), nI_clamp (n := i) (by omega), e2, e3, e4, e5, r1, r2]
  simp only []
  by_cases q : 0 ≤ sW_side l w.1 w.2.1 - sW_side l w.2.2.1 w.2.2.2
  · rw [if_pos q] at g0 g1 ⊢
    rw [← g0, ← g1]
    by_cases q2 : sgm (valE l w (wAt Wl p.2.1) 0) = sd
    · rw [if_pos q2, if_pos q2]; exact mm _
    · rw [if_neg q2, if_neg q2]; exact mm _
  · rw [if_neg q] at g0 g1 ⊢
    rw [← g0, ← g1]
    by_cases q2 : sgm (valE l w (wAt Wl p.2.1) 0) = sd
    · rw [if_pos q2, if_pos q2]; exact mm _
    · rw [if_neg q2, if_neg q2]; exact mm _
