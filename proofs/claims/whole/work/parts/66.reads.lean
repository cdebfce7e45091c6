theorem SUB.find {Wl : Nat → Option WV} (hW : ∀ i v, wAt Wl i = some v → okW v) {ND : List Nd} {P : Nat} : ∀ (D : Nat) (L : List Pc) (k0 p0 l0 j : Nat), SUB Wl ND P D L k0 p0 l0 → (∀ q, q ∈ L → okP Wl q) → k0 ≤ j → j < k0 + nN Wl D L → ∃ D' p T p0' l0', SUB Wl ND P (D' + 1) (p :: T) j p0' l0' ∧ (∀ q, q ∈ p :: T → okP Wl q) ∧ l0' + nN Wl (D' + 1) (p :: T) ≤ l0 + nN Wl D L ∧ p0' + (pcs Wl (D' + 1) (p :: T)).length ≤ p0 + (pcs Wl D L).length := by
  intro D
  induction D with
  | zero => intro L k0 p0 l0 j _ _ h1 h2; exact absurd h2 (by show ¬ j < k0 + 0; omega)
  | succ D ih =>
    intro L k0 p0 l0 j h hO h1 h2
    cases L with
    | nil => exact absurd h2 (by show ¬ j < k0 + 0; omega)
    | cons p T =>
      by_cases e : j = k0
      · subst e
        exact ⟨D, p, T, p0, l0, h, hO, Nat.le_refl _, Nat.le_refl _⟩
      · obtain ⟨-, h3, h4⟩ := h.kids
        obtain ⟨l, hl⟩ := ok_line hO
        obtain ⟨olf, org⟩ := ok_lf2 hW hl hO
        have gN : nN Wl (D + 1) (p :: T) = nN Wl D (lfL Wl (bst Wl (p :: T)) (p :: T)) + nN Wl D (rgL Wl (bst Wl (p :: T)) (p :: T)) + 1 := rfl
        have gP : pcs Wl (D + 1) (p :: T) = onL Wl (bst Wl (p :: T)) (p :: T) ++ (pcs Wl D (lfL Wl (bst Wl (p :: T)) (p :: T)) ++ pcs Wl D (rgL Wl (bst Wl (p :: T)) (p :: T))) := rfl
        rw [gN] at h2 ⊢
        rw [gP, List.length_append, List.length_append]
        by_cases e2 : j < k0 + (nN Wl D (lfL Wl (bst Wl (p :: T)) (p :: T)) + 1)
        · obtain ⟨D', q, U, a, b, c1, c2, c3, c4⟩ := ih _ _ _ _ j h3 olf (by omega) (by omega)
          exact ⟨D', q, U, a, b, c1, c2, by omega, by omega⟩
        · obtain ⟨D', q, U, a, b, c1, c2, c3, c4⟩ := ih _ _ _ _ j h4 org (by omega) (by omega)
          exact ⟨D', q, U, a, b, c1, c2, by omega, by omega⟩
theorem nds_dep (Wl : Nat → Option WV) : ∀ (D : Nat) (L : List Pc) (k0 p0 l0 : Nat) (x : Nd), D ≤ 64 → x ∈ nds Wl D L k0 p0 l0 → 64 - D ≤ x.2.1 ∧ x.2.1 < 64 := by
  intro D
  induction D with
  | zero => intro L k0 p0 l0 x _ h; cases h
  | succ D ih =>
    intro L k0 p0 l0 x hD h
    cases L with
    | nil => cases h
    | cons p T =>
      rcases List.mem_cons.1 h with rfl | h
      · show 64 - (D + 1) ≤ 63 - D ∧ 63 - D < 64
        omega
      · rcases List.mem_append.1 h with h | h
        · have := ih _ _ _ _ _ (by omega) h
          omega
        · have := ih _ _ _ _ _ (by omega) h
          omega
theorem nds_idx (Wl : Nat → Option WV) : ∀ (D : Nat) (L : List Pc) (k0 p0 l0 i : Nat) (x : Nd), (nds Wl D L k0 p0 l0)[i]? = some x → x.2.2.2.2.2.2.1 = k0 + i := by
  intro D
  induction D with
  | zero => intro L k0 p0 l0 i x h; simp [nds] at h
  | succ D ih =>
    intro L k0 p0 l0 i x h
    cases L with
    | nil => simp [nds] at h
    | cons p T =>
      have gD : nds Wl (D + 1) (p :: T) k0 p0 l0 = (bst Wl (p :: T), 63 - D, p0, (onL Wl (bst Wl (p :: T)) (p :: T)).length, nN Wl D (lfL Wl (bst Wl (p :: T)) (p :: T)), nN Wl D (rgL Wl (bst Wl (p :: T)) (p :: T)), k0, l0) :: (nds Wl D (lfL Wl (bst Wl (p :: T)) (p :: T)) (k0 + 1) (p0 + (onL Wl (bst Wl (p :: T)) (p :: T)).length) l0 ++ nds Wl D (rgL Wl (bst Wl (p :: T)) (p :: T)) (k0 + (nN Wl D (lfL Wl (bst Wl (p :: T)) (p :: T)) + 1)) (p0 + (onL Wl (bst Wl (p :: T)) (p :: T)).length + (pcs Wl D (lfL Wl (bst Wl (p :: T)) (p :: T))).length) (l0 + (nN Wl D (lfL Wl (bst Wl (p :: T)) (p :: T)) + 1))) := rfl
      rw [gD] at h
      cases i with
      | zero =>
        obtain rfl := Option.some.inj h
        rfl
      | succ i =>
        rw [List.getElem?_cons_succ] at h
        by_cases e : i < nN Wl D (lfL Wl (bst Wl (p :: T)) (p :: T))
        · rw [List.getElem?_append_left (by rw [nds_len]; exact e)] at h
          have := ih _ _ _ _ _ _ h
          omega
        · rw [List.getElem?_append_right (by rw [nds_len]; omega), nds_len] at h
          have := ih _ _ _ _ _ _ h
          omega
/-- within: the nodes of a tree stand together, and none behind them is deeper than its root -/
theorem withR {Wl : Nat → Option WV} {ND : List Nd} {P : Nat} {b : MSt} (hN : ∀ z, z ∈ ND → NR b z) (hx : ∀ (i : Nat) (x : Nd), ND[i]? = some x → x.2.2.2.2.2.2.1 = i) (h28 : b.1 28 = nI ND.length) (hl : ND.length < 4200) {D : Nat} {p : Pc} {T : List Pc} {k0 p0 l0 : Nat} (h : SUB Wl ND P (D + 1) (p :: T) k0 p0 l0) : ∀ (m j N : Nat), j + m = k0 + nN Wl (D + 1) (p :: T) → k0 < j → m < N → sWithL b (nI k0) N (nI j) = some (nI (k0 + nN Wl (D + 1) (p :: T))) := by
  obtain ⟨g, -, -⟩ := h.kids
  obtain ⟨-, -, hle⟩ := h.first
  have hi : k0 < ND.length := (List.getElem?_eq_some_iff.1 g).1
  obtain ⟨-, -, -, d0, -, -⟩ := hN _ (List.mem_of_getElem? g)
  dsimp only at d0
  obtain ⟨hL, hD, A, B, e, hA, hB⟩ := h
  have gD : nds Wl (D + 1) (p :: T) k0 p0 l0 = (bst Wl (p :: T), 63 - D, p0, (onL Wl (bst Wl (p :: T)) (p :: T)).length, nN Wl D (lfL Wl (bst Wl (p :: T)) (p :: T)), nN Wl D (rgL Wl (bst Wl (p :: T)) (p :: T)), k0, l0) :: (nds Wl D (lfL Wl (bst Wl (p :: T)) (p :: T)) (k0 + 1) (p0 + (onL Wl (bst Wl (p :: T)) (p :: T)).length) l0 ++ nds Wl D (rgL Wl (bst Wl (p :: T)) (p :: T)) (k0 + (nN Wl D (lfL Wl (bst Wl (p :: T)) (p :: T)) + 1)) (p0 + (onL Wl (bst Wl (p :: T)) (p :: T)).length + (pcs Wl D (lfL Wl (bst Wl (p :: T)) (p :: T))).length) (l0 + (nN Wl D (lfL Wl (bst Wl (p :: T)) (p :: T)) + 1))) := rfl
  have dj : ∀ j y, ND[j]? = some y → b.2.1 24 j = nI y.2.1 := by
    intro j y hy
    obtain ⟨-, -, -, d1, -, -⟩ := hN _ (List.mem_of_getElem? hy)
    rw [hx j y hy] at d1
    exact d1
  intro m
  induction m with
  | zero =>
    intro j N hj hk hN2
    obtain ⟨N, rfl⟩ : ∃ N', N = N' + 1 := ⟨N - 1, by omega⟩
    obtain rfl : j = k0 + nN Wl (D + 1) (p :: T) := hj
    unfold sWithL
    rw [h28]
    by_cases q : ND.length ≤ k0 + nN Wl (D + 1) (p :: T)
    · rw [if_pos (nI_le q (by omega))]
    · rw [if_neg (nI_ge (by omega) (by omega)), if_pos (vpin_nI (by omega) (by decide)), if_pos (vpin_nI (by omega) (by decide)), nI_clamp (by omega), nI_clamp (by omega), d0]
      have ej : (A ++ nds Wl (D + 1) (p :: T) k0 p0 l0).length = k0 + nN Wl (D + 1) (p :: T) := by rw [List.length_append, nds_len, hA]
      cases B with
      | nil =>
        exfalso
        apply q
        rw [e, List.append_nil, ej]
        exact Nat.le_refl _
      | cons y B =>
        have gy : ND[k0 + nN Wl (D + 1) (p :: T)]? = some y := by
          rw [e, ← List.append_assoc, ← ej, List.getElem?_append_right (Nat.le_refl _), Nat.sub_self]
          rfl
        rw [dj _ _ gy, if_pos (nI_le (by have := hB.2; omega) (by omega))]
  | succ m ih =>
    intro j N hj hk hN2
    obtain ⟨N, rfl⟩ : ∃ N', N = N' + 1 := ⟨N - 1, by omega⟩
    have jl : j < ND.length := by omega
    have gj : ∃ y, ND[j]? = some y ∧ 64 - D ≤ y.2.1 ∧ y.2.1 < 64 := by
      have ex : (nds Wl (D + 1) (p :: T) k0 p0 l0)[j - k0]? = ND[j]? := by
        rw [e, List.getElem?_append_right (by omega), hA, List.getElem?_append_left (by rw [nds_len]; omega)]
      rw [← ex]
      have hlt : j - k0 < (nds Wl (D + 1) (p :: T) k0 p0 l0).length := by rw [nds_len]; omega
      refine ⟨_, List.getElem?_eq_getElem hlt, ?_⟩
      obtain ⟨i, hi2⟩ : ∃ i, j - k0 = i + 1 := ⟨j - k0 - 1, by omega⟩
      have hm : (nds Wl (D + 1) (p :: T) k0 p0 l0)[j - k0]? = some (nds Wl (D + 1) (p :: T) k0 p0 l0)[j - k0] := List.getElem?_eq_getElem hlt
      generalize (nds Wl (D + 1) (p :: T) k0 p0 l0)[j - k0] = y at hm
      rw [gD, hi2, List.getElem?_cons_succ] at hm
      have hmem := List.mem_of_getElem? hm
      rcases List.mem_append.1 hmem with q | q
      · exact nds_dep Wl D _ _ _ _ y (by omega) q
      · exact nds_dep Wl D _ _ _ _ y (by omega) q
    obtain ⟨y, gy, dy, dy2⟩ := gj
    unfold sWithL
    rw [h28, if_neg (nI_ge jl (by omega)), if_pos (vpin_nI (by omega) (by decide)), if_pos (vpin_nI (by omega) (by decide)), nI_clamp (n := j) (by omega), nI_clamp (n := k0) (by omega), d0, dj _ _ gy, if_neg (nI_ge (by omega) (by omega)), nI_1]
    exact ih (j + 1) N (by omega) (by omega) (by omega)
/-- both trees -/
def BT (Wl : Nat → Option WV) (s : TSt) (b : MSt) : Prop := CG Wl s ∧ RG Wl b ∧ AG Wl b
/-- what both know of a node -/
theorem BT.node {Wl : Nat → Option WV} {s : TSt} {b : MSt} (h : BT Wl s b) : ∃ ND : List Nd, ∃ P : Nat, ND.length < 4200 ∧ P ≤ 4096 ∧ (∀ j, j < 6 → s.2 j = ND.map (ndF j)) ∧ (s.2 6).length = P ∧ (∀ z, z ∈ ND → NR b z) ∧ (∀ (i : Nat) (x : Nd), ND[i]? = some x → x.2.2.2.2.2.2.1 = i) ∧ b.1 28 = nI ND.length ∧ b.1 30 = nI P ∧ SUB Wl ND P 64 (iniL Wl 64 0) 0 0 0 ∧ (∀ q, q ∈ iniL Wl 64 0 → okP Wl q) ∧ ND.length = nN Wl 64 (iniL Wl 64 0) ∧ (pcs Wl 64 (iniL Wl 64 0)).length = P := by
  obtain ⟨⟨F, hF, hC⟩, ⟨⟨n, hn, hq⟩, e14, e28, e29, e30, e31, hx, hw⟩, hA⟩ := h
  obtain ⟨a1, a2, a3, a4, a5⟩ := all_le (Wl := Wl) (fun i v h => hA.ok h)
  have ln := nds_len Wl 64 (iniL Wl 64 0) 0 0 0
  refine ⟨nds Wl 64 (iniL Wl 64 0) 0 0 0, (pcs Wl 64 (iniL Wl 64 0)).length, by omega, a3, hC.1, by rw [hC.2.1.1, List.length_map], hx, fun i x h => ?_, by rw [ln]; exact e28, e30, SUB.top Wl a1, a2, ln, rfl⟩
  have := nds_idx Wl 64 _ 0 0 0 i x h
  omega
theorem nodeEq {Wl : Nat → Option WV} {s : TSt} {a b : MSt} (h : BT Wl s b) (k what : Int32) {N9 N2 : Nat} (hN9 : 9000 < N9) (kn : sM_know (mV 0 0 a) N9 N2 = some b) : ∃ r, sM_node a k what N9 N2 = some (b, r) ∧ r = (if sT_hasNode s.2 Wl k = 0 then -1 else if what = 0 then sT_lineOf s.2 Wl k else if what = 1 then sT_leftOf s.2 Wl k else if what = 2 then sT_rightOf s.2 Wl k else if what = 3 then sT_ownPieces s.2 Wl k else if what = 4 then sT_nodesIn s.2 Wl k else if what = 5 then sT_depthOf s.2 Wl k else -1) := by
  have hA := h.2.2
  obtain ⟨ND, P, n1, n2, n3, n4, n5, n6, n7, n8, n9, n10, n11, n12⟩ := h.node
  have e28 : b.1 28 = nI ND.length := n7
  unfold sM_node sM_isNode
  rw [kn]
  dsimp only
  rw [e28]
  by_cases k0 : k < 0
  · rw [if_pos k0]
    dsimp only
    rw [if_pos rfl]
    refine ⟨_, rfl, ?_⟩
    have : sT_hasNode s.2 Wl k = 0 := by unfold sT_hasNode; rw [if_pos k0]
    rw [this, if_pos rfl]
  · obtain ⟨j, hj, rfl⟩ := nI_of k0
    rw [if_neg k0]
    have hc := hasNodeC n3 (by omega) Wl hj
    by_cases q : ND.length ≤ j
    · rw [if_pos (nI_le q hj)]
      dsimp only
      rw [if_pos rfl]
      refine ⟨_, rfl, ?_⟩
      rw [show sT_hasNode s.2 Wl (nI j) = 0 by rw [hc, if_neg (by omega)], if_pos rfl]
    · rw [if_neg (nI_ge (by omega) (by omega))]
      dsimp only
      rw [if_neg (show ¬ (1 : Int32) = 0 by decide), show sT_hasNode s.2 Wl (nI j) = 1 by rw [hc, if_pos (by omega)], if_neg (show ¬ (1 : Int32) = 0 by decide)]
      obtain ⟨D, p, T, p0, l0, sb, ok, lb, pb⟩ := SUB.find (fun i v h => hA.ok h) 64 _ 0 0 0 j n9 n10 (by omega) (by omega)
      obtain ⟨g, sl, sr⟩ := sb.kids
      obtain ⟨o1, o2, o3, o4⟩ := sb.own n3 (by omega) n4
      obtain ⟨c1, c2, c3⟩ := sb.cls n3 (by omega) n4
      obtain ⟨r1, r2, r3, r4, r5, r6⟩ := n5 _ (List.mem_of_getElem? g)
      dsimp only at r1 r2 r3 r4 r5 r6
      have gN : nN Wl (D + 1) (p :: T) = nN Wl D (lfL Wl (bst Wl (p :: T)) (p :: T)) + nN Wl D (rgL Wl (bst Wl (p :: T)) (p :: T)) + 1 := rfl
      have an0 : an (nN Wl (D + 1) (p :: T)) j = nI j := if_neg (Nat.succ_ne_zero _)
      rw [an0] at c2
      have f0 : rAt (s.2 0) (nI j) = bst Wl (p :: T) := rowC n3 (by omega) g (by decide)
      have f1 : rAt (s.2 1) (nI j) = an (nN Wl D (lfL Wl (bst Wl (p :: T)) (p :: T))) (j + 1) := rowC n3 (by omega) g (by decide)
      have f2 : rAt (s.2 2) (nI j) = an (nN Wl D (rgL Wl (bst Wl (p :: T)) (p :: T))) (j + (nN Wl D (lfL Wl (bst Wl (p :: T)) (p :: T)) + 1)) := rowC n3 (by omega) g (by decide)
      have f4 : rAt (s.2 4) (nI j) = nI (63 - D) := rowC n3 (by omega) g (by decide)
      have v := vpin_nI (show j < 4200 by omega) (show 4200 < 2 ^ 31 by decide)
      have lkE : ∀ m l k, l < 2 ^ 31 → k < 2 ^ 31 → (if 0 ≤ lk m l k then lk m l k else -1) = an m k := by
        intro m l k hl hk
        unfold lk an
        by_cases e : m = 0
        · rw [if_pos e, if_pos e, if_neg (fun q => by have := m1n_lt hl; rw [Int32.le_iff_toInt_le] at q; rw [Int32.lt_iff_toInt_lt] at this; omega)]
        · rw [if_neg e, if_neg e, if_pos (nI_pos' hk)]
      have wi : sM_within b (nI j) N9 = some (nI (nN Wl (D + 1) (p :: T))) := by
        obtain ⟨-, -, hle⟩ := sb.first
        unfold sM_within
        rw [nI_1, withR n5 n6 e28 n1 sb (nN Wl (D + 1) (p :: T) - 1) (j + 1) N9 (by omega) (by omega) (by omega)]
        dsimp only
        rw [nI_subl]
      unfold sT_lineOf sT_leftOf sT_rightOf sT_depthOf
      rw [if_pos v, if_pos v, if_pos v, if_pos v, if_pos v, nI_clamp (n := j) (by omega), r1, r2, r3, r4, r6, wi, f0, f1, f2, f4, o1, c2]
      dsimp only
      have L1 := lkE (nN Wl D (lfL Wl (bst Wl (p :: T)) (p :: T))) l0 (j + 1) (by omega) (by omega)
      have L2 := lkE (nN Wl D (rgL Wl (bst Wl (p :: T)) (p :: T))) (l0 + (nN Wl D (lfL Wl (bst Wl (p :: T)) (p :: T)) + 1)) (j + (nN Wl D (lfL Wl (bst Wl (p :: T)) (p :: T)) + 1)) (by omega) (by omega)
      rw [← L1, ← L2]
      by_cases w0 : what = 0
      · rw [if_pos w0, if_pos w0]; exact ⟨_, rfl, rfl⟩
      · rw [if_neg w0, if_neg w0]
        by_cases w1 : what = 1
        · rw [if_pos w1, if_pos w1]
          split
          · exact ⟨_, rfl, rfl⟩
          · exact ⟨_, rfl, rfl⟩
        · rw [if_neg w1, if_neg w1]
          by_cases w2 : what = 2
          · rw [if_pos w2, if_pos w2]
            split
            · exact ⟨_, rfl, rfl⟩
            · exact ⟨_, rfl, rfl⟩
          · rw [if_neg w2, if_neg w2]
            by_cases w3 : what = 3
            · rw [if_pos w3, if_pos w3]; exact ⟨_, rfl, rfl⟩
            · rw [if_neg w3, if_neg w3]
              by_cases w4 : what = 4
              · rw [if_pos w4, if_pos w4]; exact ⟨_, rfl, rfl⟩
              · rw [if_neg w4, if_neg w4]
                by_cases w5 : what = 5
                · rw [if_pos w5, if_pos w5]; exact ⟨_, rfl, rfl⟩
                · rw [if_neg w5, if_neg w5]; exact ⟨_, rfl, rfl⟩
