theorem know2 {a b : MSt} {N9 N2 : Nat} (h7 : b.1 7 ≠ 0) : sM_know b N9 N2 = some b := by
  unfold sM_know
  rw [if_neg h7]
theorem onEq {Wl : Nat → Option WV} {s : TSt} {a b : MSt} (h : BT Wl s b) (k i : Int32) {N9 N2 : Nat} (kn : sM_know (mV 0 0 a) N9 N2 = some b) (h7 : b.1 7 ≠ 0) : ∃ r, sM_isOn (mV 0 0 a) k i N9 N2 = some (b, r) ∧ ((r = 0 ∧ sT_pieceAt s.2 Wl k i = -1) ∨ (r = 1 ∧ ∃ j p0 m, k = nI j ∧ j < 4200 ∧ i = nI m ∧ b.2.1 25 j = nI p0 ∧ p0 + m < (pcs Wl 64 (iniL Wl 64 0)).length ∧ sT_pieceAt s.2 Wl k i = nI (p0 + m))) := by
  have hA := h.2.2
  obtain ⟨ND, P, n1, n2, n3, n4, n5, n6, n7, n8, n9, n10, n11, n12⟩ := h.node
  have kn2 : sM_know b N9 N2 = some b := know2 (a := a) h7
  unfold sM_isOn sM_isNode
  rw [kn]
  dsimp only
  rw [n7]
  have noC : sT_hasNode s.2 Wl k = 0 → sT_pieceAt s.2 Wl k i = -1 := by
    intro q
    unfold sT_pieceAt
    by_cases i0 : i < 0
    · rw [if_pos i0]
    · have e : sT_ownPieces s.2 Wl k = 0 := by unfold sT_ownPieces; rw [q, if_pos rfl]
      rw [if_neg i0, e, if_pos]
      rw [Int32.le_iff_toInt_le]
      rw [Int32.lt_iff_toInt_lt] at i0
      omega
  by_cases k0 : k < 0
  · rw [if_pos k0]
    dsimp only
    rw [if_pos rfl]
    exact ⟨_, rfl, Or.inl ⟨rfl, noC (by unfold sT_hasNode; rw [if_pos k0])⟩⟩
  · obtain ⟨j, hj, rfl⟩ := nI_of k0
    rw [if_neg k0]
    have hc := hasNodeC n3 (by omega) Wl hj
    by_cases q : ND.length ≤ j
    · rw [if_pos (nI_le q hj)]
      dsimp only
      rw [if_pos rfl]
      exact ⟨_, rfl, Or.inl ⟨rfl, noC (by rw [hc, if_neg (by omega)])⟩⟩
    · rw [if_neg (nI_ge (by omega) (by omega))]
      dsimp only
      rw [if_neg (by decide)]
      by_cases i0 : i < 0
      · rw [if_pos i0]
        exact ⟨_, rfl, Or.inl ⟨rfl, by unfold sT_pieceAt; rw [if_pos i0]⟩⟩
      · obtain ⟨m, hm, rfl⟩ := nI_of i0
        obtain ⟨D, p, T, p0, l0, sb, ok, lb, pb⟩ := SUB.find (fun i v h => hA.ok h) 64 _ 0 0 0 j n9 n10 (by omega) (by omega)
        obtain ⟨g, sl, sr⟩ := sb.kids
        obtain ⟨o1, o2, o3, o4⟩ := sb.own n3 (by omega) n4
        obtain ⟨r1, r2, r3, r4, r5, r6⟩ := n5 _ (List.mem_of_getElem? g)
        dsimp only at r5 r6
        have gP : pcs Wl (D + 1) (p :: T) = onL Wl (bst Wl (p :: T)) (p :: T) ++ (pcs Wl D (lfL Wl (bst Wl (p :: T)) (p :: T)) ++ pcs Wl D (rgL Wl (bst Wl (p :: T)) (p :: T))) := rfl
        rw [gP, List.length_append, List.length_append] at pb
        rw [if_neg i0, kn2]
        dsimp only
        rw [n7, if_neg k0, if_neg (nI_ge (show j < ND.length by omega) (by omega))]
        dsimp only
        rw [if_neg (by decide), if_pos (vpin_nI (show j < 4200 by omega) (by decide)), nI_clamp (n := j) (by omega), r6]
        unfold sT_pieceAt
        rw [if_neg i0, o1, o2]
        by_cases z : (onL Wl (bst Wl (p :: T)) (p :: T)).length ≤ m
        · rw [if_pos (nI_le z hm), if_pos (nI_le z hm)]
          exact ⟨_, rfl, Or.inl ⟨rfl, rfl⟩⟩
        · rw [if_neg (nI_ge (by omega) (by omega)), if_neg (nI_ge (by omega) (by omega)), nI_add]
          exact ⟨_, rfl, Or.inr ⟨rfl, j, p0, m, rfl, by omega, rfl, r5, by omega, rfl⟩⟩
/-- a piece by its place in the row, on both sides -/
theorem BT.piece {Wl : Nat → Option WV} {s : TSt} {b : MSt} (h : BT Wl s b) {x : Nat} (hx : x < (pcs Wl 64 (iniL Wl 64 0)).length) : ∃ p j, (pcs Wl 64 (iniL Wl 64 0))[x]? = some p ∧ j < 8300 ∧ b.2.1 27 x = nI j ∧ HP Wl b j p ∧ rAt (s.2 6) (nI x) = p.1 ∧ rAt (s.2 7) (nI x) = p.2.1 ∧ rAt (s.2 8) (nI x) = p.2.2 := by
  obtain ⟨⟨F, hF, hC⟩, ⟨⟨n, hn, hq⟩, -⟩, hA⟩ := h
  obtain ⟨a1, a2, a3, a4, a5⟩ := all_le (Wl := Wl) (fun i v h => hA.ok h)
  have e : (pcs Wl 64 (iniL Wl 64 0))[x]? = some (pcs Wl 64 (iniL Wl 64 0))[x] := List.getElem?_eq_getElem hx
  obtain ⟨j, hj, q1, q2⟩ := hq x _ e
  rw [Nat.zero_add] at q1
  obtain ⟨c0, c1, c2⟩ := hC.2.1
  exact ⟨_, j, e, by omega, q1, q2, by rw [c0]; exact rAt_map e (by omega), by rw [c1]; exact rAt_map e (by omega), by rw [c2]; exact rAt_map e (by omega)⟩
theorem rAt_neg (L : List Int32) : rAt L (-1) = -1 := by
  unfold rAt
  rw [if_pos (by decide)]
theorem wallEq {Wl : Nat → Option WV} {s : TSt} {a b : MSt} (h : BT Wl s b) (k i : Int32) {N9 N2 : Nat} (kn : sM_know (mV 0 0 a) N9 N2 = some b) (h7 : b.1 7 ≠ 0) : sM_wall a k i N9 N2 = some (b, sT_wallOfPiece s.2 Wl (sT_pieceAt s.2 Wl k i)) := by
  obtain ⟨r, e1, e2⟩ := onEq h k i kn h7
  obtain ⟨-, -, a3, -, -⟩ := all_le (Wl := Wl) (fun i v h' => h.2.2.ok h')
  unfold sM_wall sT_wallOfPiece
  rw [e1]
  dsimp only
  rcases e2 with ⟨rfl, e2⟩ | ⟨rfl, j, p0, m, rfl, hj, rfl, r5, hb, e2⟩
  · rw [if_pos rfl, e2, rAt_neg]
  · obtain ⟨p, x, q1, q2, q3, q4, q5, q6, q7⟩ := h.piece hb
    rw [if_neg (by decide), if_pos (vpin_nI hj (by decide)), nI_clamp (n := j) (by omega), r5, nI_add, if_pos (vpin_nI (by omega) (by decide)), nI_clamp (n := p0 + m) (by omega), q3, if_pos (vpin_nI q2 (by decide)), nI_clamp (n := x) (by omega), q4.1, e2, q5]
theorem pcs_ok {Wl : Nat → Option WV} (hW : ∀ i v, wAt Wl i = some v → okW v) : ∀ (D : Nat) (L : List Pc), (∀ q, q ∈ L → okP Wl q) → ∀ q, q ∈ pcs Wl D L → okP Wl q := by
  intro D
  induction D with
  | zero => intro L _ q h; cases h
  | succ D ih =>
    intro L hO q h
    cases L with
    | nil => cases h
    | cons p T =>
      obtain ⟨l, hl⟩ := ok_line hO
      obtain ⟨olf, org⟩ := ok_lf2 hW hl hO
      rcases List.mem_append.1 h with h | h
      · obtain ⟨u, hu, hq⟩ := List.mem_flatMap.1 h
        unfold onP at hq
        split at hq
        · rw [List.mem_singleton] at hq
          subst hq
          exact hO _ hu
        · cases hq
      · rcases List.mem_append.1 h with h | h
        · exact ih _ olf q h
        · exact ih _ org q h
theorem quotEq {Wl : Nat → Option WV} {s : TSt} {a b : MSt} (h : BT Wl s b) (k i wh9 : Int32) {N9 N2 : Nat} (hN9 : 9000 < N9) (kn : sM_know (mV 0 0 a) N9 N2 = some b) (h7 : b.1 7 ≠ 0) : sM_quotient a k i wh9 N9 N2 = some (b, if sT_pieceAt s.2 Wl k i = -1 then -1 else if wh9 < 0 then -1 else if wh9 ≤ 3 then (if wh9 < 2 then (if (wh9 - wh9 / 2 * 2) = 0 then sT_quotientOf s.2 Wl (sT_pieceAt s.2 Wl k i) 0 1 else sT_quotientOf s.2 Wl (sT_pieceAt s.2 Wl k i) 0 0) else (if (wh9 - wh9 / 2 * 2) = 0 then sT_quotientOf s.2 Wl (sT_pieceAt s.2 Wl k i) 1 1 else sT_quotientOf s.2 Wl (sT_pieceAt s.2 Wl k i) 1 0)) else -1) := by
  obtain ⟨r, e1, e2⟩ := onEq h k i kn h7
  have hA := h.2.2
  obtain ⟨a1, a2, a3, -, -⟩ := all_le (Wl := Wl) (fun i v h' => hA.ok h')
  unfold sM_quotient
  rw [e1]
  dsimp only
  rcases e2 with ⟨rfl, e2⟩ | ⟨rfl, j, p0, m, rfl, hj, rfl, r5, hb, e2⟩
  · rw [if_pos rfl, if_pos e2]
  · obtain ⟨p, x, q1, q2, q3, q4, q5, q6, q7⟩ := h.piece hb
    have ne : ¬ sT_pieceAt s.2 Wl (nI j) (nI m) = -1 := by
      rw [e2]
      exact fun q => absurd (show nI (p0 + m) < 0 by rw [q]; decide) (nI_pos (by omega))
    rw [if_neg (by decide), if_neg ne, e2]
    by_cases w0 : wh9 < 0
    · rw [if_pos w0, if_pos w0]
    · rw [if_neg w0, if_neg w0]
      by_cases w3 : wh9 ≤ 3
      · obtain ⟨e8, w, hw, e9, e10, e11, e12⟩ := q4
        obtain ⟨w', hw', c1, c2⟩ := pcs_ok (fun i v h' => hA.ok h') 64 _ a2 p (List.mem_of_getElem? q1)
        obtain rfl : w = w' := Option.some.inj (hw.symm.trans hw')
        have okw := hA.ok hw
        obtain ⟨g, g1, g2, g3, g4⟩ := quotR okw c1 (show 200 < N9 by omega) 0 (Or.inl rfl)
        obtain ⟨f, f1, f2, f3, f4⟩ := quotR okw c2 (show 200 < N9 by omega) 1 (Or.inr rfl)
        have k1 := clQ_eq (R := s.2) (Wl := Wl) (k := nI (p0 + m)) q5 q6 q7 hw 1
        have k0 := clQ_eq (R := s.2) (Wl := Wl) (k := nI (p0 + m)) q5 q6 q7 hw 0
        rw [if_pos w3, if_pos w3, if_pos (vpin_nI hj (by decide)), nI_clamp (n := j) (by omega), r5, nI_add, if_pos (vpin_nI (show p0 + m < 8300 by omega) (by decide)), nI_clamp (n := p0 + m) (by omega), q3, if_pos (vpin_nI q2 (by decide)), nI_clamp (n := x) (by omega), e9, e10, e11, e12, g1, f1]
        dsimp only
        rw [if_neg g2, if_neg f2, g3, g4, f3, f4, k1.1, k1.2, k0.1, k0.2]
        by_cases w2 : wh9 < 2
        · rw [if_neg (fun q => by rw [Int32.le_iff_toInt_le] at q; rw [Int32.lt_iff_toInt_lt] at w2; omega), if_pos w2, if_pos (vpin_nI q2 (by decide))]
          by_cases m2 : wh9 - wh9 / 2 * 2 = 0
          · rw [if_pos m2, if_pos m2]
          · rw [if_neg m2, if_neg m2, if_neg g2]
        · rw [if_pos (by rw [Int32.le_iff_toInt_le]; rw [Int32.lt_iff_toInt_lt] at w2; omega), if_neg w2]
          by_cases m2 : wh9 - wh9 / 2 * 2 = 0
          · rw [if_pos m2, if_pos m2]
          · rw [if_neg m2, if_neg m2, if_neg f2]
      · rw [if_neg w3, if_neg w3]
theorem isPlace_eq (x y : Int32) : sN_isPlace x y = if sM_isPlace x = 0 then 0 else sM_isPlace y := by
  unfold sN_isPlace sM_isPlace
  repeat' split
  all_goals first | rfl | (exfalso; simp_all)
theorem isPlace_ok {x : Int32} (h : ¬ sM_isPlace x = 0) : okI x := by
  unfold sM_isPlace at h
  split at h
  · exact absurd rfl h
  · rename_i h1
    split at h
    · exact absurd rfl h
    · rename_i h2
      rw [Int32.lt_iff_toInt_lt, show (-32768 : Int32).toInt = -32768 from by decide] at h1
      rw [Int32.lt_iff_toInt_lt, show (32767 : Int32).toInt = 32767 from by decide] at h2
      exact ⟨by omega, by omega⟩
theorem leafEq {Wl : Nat → Option WV} {s : TSt} {a b : MSt} (h : BT Wl s b) (x y : Int32) {N9 N2 : Nat} (hN9 : 9000 < N9) (kn : sM_know (mV 0 0 a) N9 N2 = some b) (hx : ¬ sM_isPlace x = 0) (hy : ¬ sM_isPlace y = 0) : sM_leaf a x y N9 N2 = some (b, sT_leafAround s.2 Wl x y) := by
  have hA := h.2.2
  obtain ⟨ND, P, n1, n2, n3, n4, n5, n6, n7, n8, n9, n10, n11, n12⟩ := h.node
  have c := leafC n3 (by omega) n4 x y 64 _ 0 0 0 n9
  have r := leafRR hA n5 n1 (isPlace_ok hx) (isPlace_ok hy) 64 _ 0 0 0 N9 n9 n10 (by omega) (by omega)
  have lb := leafT_le Wl x y 64 (iniL Wl 64 0) 0
  unfold sM_leaf
  rw [if_neg hx, if_neg hy, kn]
  dsimp only
  rw [n7]
  have fin : (-1 : Int32) - m1n (leafT Wl x y 64 (iniL Wl 64 0) 0) = nI (leafT Wl x y 64 (iniL Wl 64 0) 0) := by rw [m1n_eq]; exact i32_m _
  have ca : sT_leafAround s.2 Wl x y = nI (leafT Wl x y 64 (iniL Wl 64 0) 0) := by
    unfold sT_leafAround
    by_cases e : nN Wl 64 (iniL Wl 64 0) = 0
    · have e2 := nN0 Wl 64 _ n9.1 e
      have hh : sT_hasNode s.2 Wl 0 = 0 := by
        have := hasNodeC n3 (by omega) Wl (k := 0) (by decide)
        rw [if_neg (by omega)] at this
        exact this
      rw [e2]
      show (if sT_hasNode s.2 Wl 0 = 0 then (0 : Int32) else _) = nI 0
      rw [hh, if_pos rfl]
      rfl
    · have a0 : an (nN Wl 64 (iniL Wl 64 0)) 0 = nI 0 := if_neg e
      rw [a0] at c
      exact c
  rw [ca]
  by_cases e : nN Wl 64 (iniL Wl 64 0) = 0
  · rw [if_pos (by rw [n11, e]; decide)]
    have l0 : lk (nN Wl 64 (iniL Wl 64 0)) 0 0 = m1n 0 := if_pos e
    rw [l0] at r
    rw [show (-1 : Int32) = m1n 0 from by rw [m1n_eq]; decide] at fin ⊢
    rw [r]
    dsimp only
    rw [fin]
  · rw [if_neg (nI_nle (by omega) (by omega))]
    have l0 : lk (nN Wl 64 (iniL Wl 64 0)) 0 0 = nI 0 := if_neg e
    rw [l0, show nI 0 = (0 : Int32) from rfl] at r
    rw [r]
    dsimp only
    rw [fin]
