/-- what stands behind a tree in the list of nodes: where its pieces begin, and how deep it is at most -/
def nxt (P : Nat) (B : List Nd) (pe d : Nat) : Prop := match B with
  | [] => pe = P
  | y :: _ => y.2.2.1 = pe ∧ y.2.1 ≤ d
theorem nxt.mono {P : Nat} {B : List Nd} {pe d d' : Nat} (h : nxt P B pe d) (hd : d ≤ d') : nxt P B pe d' := by
  cases B with
  | nil => exact h
  | cons y B => exact ⟨h.1, Nat.le_trans h.2 hd⟩
theorem nN0 (Wl : Nat → Option WV) : ∀ (D : Nat) (L : List Pc), L.length ≤ D → nN Wl D L = 0 → L = [] := by
  intro D L h e
  cases D with
  | zero => exact List.eq_nil_of_length_eq_zero (Nat.le_zero.1 h)
  | succ D =>
    cases L with
    | nil => rfl
    | cons p T => exact absurd e (Nat.succ_ne_zero _)
theorem nds_nil (Wl : Nat → Option WV) (D k0 p0 l0 : Nat) : nds Wl D [] k0 p0 l0 = [] ∧ pcs Wl D [] = [] ∧ nN Wl D [] = 0 := by cases D <;> exact ⟨rfl, rfl, rfl⟩
theorem nxt_app {Wl : Nat → Option WV} {P : Nat} {B : List Nd} {D : Nat} {L : List Pc} {k p0 l d : Nat} (hL : L.length ≤ D) (h : nxt P B (p0 + (pcs Wl D L).length) d) (hd : d ≤ 64 - D) : nxt P (nds Wl D L k p0 l ++ B) p0 (64 - D) := by
  cases L with
  | nil =>
    obtain ⟨e1, e2, -⟩ := nds_nil Wl D k p0 l
    rw [e1, List.nil_append]
    rw [e2] at h
    exact h.mono hd
  | cons p T =>
    cases D with
    | zero => exact absurd hL (by simp)
    | succ D =>
      refine ⟨rfl, ?_⟩
      show 63 - D ≤ 64 - (D + 1)
      omega
/-- a tree within the list of nodes -/
def SUB (Wl : Nat → Option WV) (ND : List Nd) (P D : Nat) (L : List Pc) (k0 p0 l0 : Nat) : Prop := L.length ≤ D ∧ D ≤ 64 ∧ ∃ A B, ND = A ++ (nds Wl D L k0 p0 l0 ++ B) ∧ A.length = k0 ∧ nxt P B (p0 + (pcs Wl D L).length) (64 - D)
theorem SUB.top (Wl : Nat → Option WV) {L : List Pc} (h : L.length ≤ 64) : SUB Wl (nds Wl 64 L 0 0 0) (pcs Wl 64 L).length 64 L 0 0 0 :=
  ⟨h, Nat.le_refl _, [], [], by simp, rfl, Nat.zero_add _⟩
theorem SUB.kids {Wl : Nat → Option WV} {ND : List Nd} {P D : Nat} {p : Pc} {T : List Pc} {k0 p0 l0 : Nat} (h : SUB Wl ND P (D + 1) (p :: T) k0 p0 l0) : ND[k0]? = some (bst Wl (p :: T), 63 - D, p0, (onL Wl (bst Wl (p :: T)) (p :: T)).length, nN Wl D (lfL Wl (bst Wl (p :: T)) (p :: T)), nN Wl D (rgL Wl (bst Wl (p :: T)) (p :: T)), k0, l0) ∧ SUB Wl ND P D (lfL Wl (bst Wl (p :: T)) (p :: T)) (k0 + 1) (p0 + (onL Wl (bst Wl (p :: T)) (p :: T)).length) l0 ∧ SUB Wl ND P D (rgL Wl (bst Wl (p :: T)) (p :: T)) (k0 + (nN Wl D (lfL Wl (bst Wl (p :: T)) (p :: T)) + 1)) (p0 + (onL Wl (bst Wl (p :: T)) (p :: T)).length + (pcs Wl D (lfL Wl (bst Wl (p :: T)) (p :: T))).length) (l0 + (nN Wl D (lfL Wl (bst Wl (p :: T)) (p :: T)) + 1)) := by
  obtain ⟨hL, hD, A, B, e, hA, hB⟩ := h
  have l1 := lf_lt Wl p T
  have l2 := rg_lt Wl p T
  rw [List.length_cons] at hL
  have gP : pcs Wl (D + 1) (p :: T) = onL Wl (bst Wl (p :: T)) (p :: T) ++ (pcs Wl D (lfL Wl (bst Wl (p :: T)) (p :: T)) ++ pcs Wl D (rgL Wl (bst Wl (p :: T)) (p :: T))) := rfl
  have gD : nds Wl (D + 1) (p :: T) k0 p0 l0 = (bst Wl (p :: T), 63 - D, p0, (onL Wl (bst Wl (p :: T)) (p :: T)).length, nN Wl D (lfL Wl (bst Wl (p :: T)) (p :: T)), nN Wl D (rgL Wl (bst Wl (p :: T)) (p :: T)), k0, l0) :: (nds Wl D (lfL Wl (bst Wl (p :: T)) (p :: T)) (k0 + 1) (p0 + (onL Wl (bst Wl (p :: T)) (p :: T)).length) l0 ++ nds Wl D (rgL Wl (bst Wl (p :: T)) (p :: T)) (k0 + (nN Wl D (lfL Wl (bst Wl (p :: T)) (p :: T)) + 1)) (p0 + (onL Wl (bst Wl (p :: T)) (p :: T)).length + (pcs Wl D (lfL Wl (bst Wl (p :: T)) (p :: T))).length) (l0 + (nN Wl D (lfL Wl (bst Wl (p :: T)) (p :: T)) + 1))) := rfl
  rw [gP, List.length_append, List.length_append] at hB
  rw [gD] at e
  have hB2 : nxt P B (p0 + (onL Wl (bst Wl (p :: T)) (p :: T)).length + (pcs Wl D (lfL Wl (bst Wl (p :: T)) (p :: T))).length + (pcs Wl D (rgL Wl (bst Wl (p :: T)) (p :: T))).length) (64 - (D + 1)) := by
    rw [show p0 + (onL Wl (bst Wl (p :: T)) (p :: T)).length + (pcs Wl D (lfL Wl (bst Wl (p :: T)) (p :: T))).length + (pcs Wl D (rgL Wl (bst Wl (p :: T)) (p :: T))).length = p0 + ((onL Wl (bst Wl (p :: T)) (p :: T)).length + ((pcs Wl D (lfL Wl (bst Wl (p :: T)) (p :: T))).length + (pcs Wl D (rgL Wl (bst Wl (p :: T)) (p :: T))).length)) by omega]
    exact hB
  clear gP gD hB
  generalize hx : ((bst Wl (p :: T), 63 - D, p0, (onL Wl (bst Wl (p :: T)) (p :: T)).length, nN Wl D (lfL Wl (bst Wl (p :: T)) (p :: T)), nN Wl D (rgL Wl (bst Wl (p :: T)) (p :: T)), k0, l0) : Nd) = x at e ⊢
  have nx := nxt_app (Wl := Wl) (k := k0 + (nN Wl D (lfL Wl (bst Wl (p :: T)) (p :: T)) + 1)) (l := l0 + (nN Wl D (lfL Wl (bst Wl (p :: T)) (p :: T)) + 1)) (show (rgL Wl (bst Wl (p :: T)) (p :: T)).length ≤ D by omega) hB2 (by omega)
  refine ⟨?_, ⟨by omega, by omega, A ++ [x], nds Wl D (rgL Wl (bst Wl (p :: T)) (p :: T)) (k0 + (nN Wl D (lfL Wl (bst Wl (p :: T)) (p :: T)) + 1)) (p0 + (onL Wl (bst Wl (p :: T)) (p :: T)).length + (pcs Wl D (lfL Wl (bst Wl (p :: T)) (p :: T))).length) (l0 + (nN Wl D (lfL Wl (bst Wl (p :: T)) (p :: T)) + 1)) ++ B, ?_, ?_, nx⟩, ⟨by omega, by omega, A ++ x :: nds Wl D (lfL Wl (bst Wl (p :: T)) (p :: T)) (k0 + 1) (p0 + (onL Wl (bst Wl (p :: T)) (p :: T)).length) l0, B, ?_, ?_, hB2.mono (by omega)⟩⟩
  · rw [e, ← hA, List.getElem?_append_right (Nat.le_refl _), Nat.sub_self]
    rfl
  · rw [e]
    simp only [List.append_assoc, List.cons_append, List.nil_append]
  · rw [List.length_append, hA]; rfl
  · rw [e]
    simp only [List.append_assoc, List.cons_append]
  · rw [List.length_append, List.length_cons, nds_len, hA]
/-- where the pieces of a node, or those behind all nodes, begin -/
def fpf (ND : List Nd) (P k : Nat) : Nat := match ND[k]? with
  | none => P
  | some y => y.2.2.1
theorem fpf_nxt {P : Nat} {A B : List Nd} {pe d : Nat} (h : nxt P B pe d) : fpf (A ++ B) P A.length = pe := by
  unfold fpf
  rw [List.getElem?_append_right (Nat.le_refl _), Nat.sub_self]
  cases B with
  | nil => exact h.symm
  | cons y B => exact h.1
theorem SUB.first {Wl : Nat → Option WV} {ND : List Nd} {P D : Nat} {L : List Pc} {k0 p0 l0 : Nat} (h : SUB Wl ND P D L k0 p0 l0) : fpf ND P k0 = p0 ∧ fpf ND P (k0 + nN Wl D L) = p0 + (pcs Wl D L).length ∧ k0 + nN Wl D L ≤ ND.length := by
  obtain ⟨hL, hD, A, B, e, hA, hB⟩ := h
  refine ⟨?_, ?_, ?_⟩
  · rw [e, ← hA]
    exact fpf_nxt (nxt_app hL hB (Nat.le_refl _))
  · rw [e, ← List.append_assoc, show k0 + nN Wl D L = (A ++ nds Wl D L k0 p0 l0).length by rw [List.length_append, nds_len, hA]]
    exact fpf_nxt hB
  · rw [e, List.length_append, List.length_append, nds_len, hA]
    omega
/-- the class's reads of a node -/
theorem hasNodeC {R : Nat → List Int32} {ND : List Nd} (hR : ∀ j, j < 6 → R j = ND.map (ndF j)) (hl : ND.length < 2 ^ 31) (Wl : Nat → Option WV) {k : Nat} (hk : k < 2 ^ 31) : sT_hasNode R Wl (nI k) = if k < ND.length then 1 else 0 := by
  unfold sT_hasNode
  rw [if_neg (nI_pos hk), hR 0 (by decide), List.length_map]
  by_cases e : k < ND.length
  · rw [if_pos e, if_neg (nI_ge e hl)]
  · rw [if_neg e, if_pos (nI_le (by omega) hk)]
theorem hasNode_neg (R : Nat → List Int32) (Wl : Nat → Option WV) : sT_hasNode R Wl (-1) = 0 := by
  unfold sT_hasNode
  rw [if_pos (by decide)]
theorem rowC {R : Nat → List Int32} {ND : List Nd} (hR : ∀ j, j < 6 → R j = ND.map (ndF j)) (hl : ND.length < 2 ^ 31) {k : Nat} {x : Nd} (h : ND[k]? = some x) {j : Nat} (hj : j < 6) : rAt (R j) (nI k) = ndF j x := by
  have hi : k < ND.length := (List.getElem?_eq_some_iff.1 h).1
  rw [hR j hj]
  unfold rAt
  rw [if_neg (nI_pos (by omega)), List.length_map, if_neg (nI_ge hi hl), nI_clamp (by omega), List.getD_eq_getElem?_getD, List.getElem?_map, h]
  rfl
theorem fpfC {R : Nat → List Int32} {ND : List Nd} {P : Nat} (hR : ∀ j, j < 6 → R j = ND.map (ndF j)) (hl : ND.length < 2 ^ 31) (hP : (R 6).length = P) (Wl : Nat → Option WV) {k : Nat} (hk : k < 2 ^ 31) : sT_firstPieceFrom R Wl (nI k) = nI (fpf ND P k) := by
  unfold sT_firstPieceFrom fpf
  rw [hasNodeC hR hl Wl hk]
  cases h : ND[k]? with
  | none =>
    have := List.getElem?_eq_none_iff.1 h
    rw [show (if k < ND.length then (1 : Int32) else 0) = 0 from if_neg (by omega), if_pos rfl, hP]
  | some x =>
    have hi : k < ND.length := (List.getElem?_eq_some_iff.1 h).1
    rw [show (if k < ND.length then (1 : Int32) else 0) = 1 from if_pos hi, if_neg (by decide), rowC hR hl h (by decide)]
    rfl
/-- a tree's number for the class: none if it is empty -/
def an (m k0 : Nat) : Int32 := if m = 0 then -1 else nI k0
theorem SUB.cls {R : Nat → List Int32} {ND : List Nd} {P : Nat} (hR : ∀ j, j < 6 → R j = ND.map (ndF j)) (hl : ND.length < 2 ^ 31) (hP : (R 6).length = P) {Wl : Nat → Option WV} {D : Nat} {L : List Pc} {k0 p0 l0 : Nat} (h : SUB Wl ND P D L k0 p0 l0) : sT_piecesIn R Wl (an (nN Wl D L) k0) = nI (pcs Wl D L).length ∧ sT_nodesIn R Wl (an (nN Wl D L) k0) = nI (nN Wl D L) ∧ sT_hasNode R Wl (an (nN Wl D L) k0) = if nN Wl D L = 0 then 0 else 1 := by
  obtain ⟨f1, f2, f3⟩ := h.first
  unfold an
  by_cases e : nN Wl D L = 0
  · have eL := nN0 Wl D L h.1 e
    obtain ⟨-, e2, -⟩ := nds_nil Wl D k0 p0 l0
    rw [if_pos e, if_pos e]
    refine ⟨?_, ?_, hasNode_neg R Wl⟩
    · unfold sT_piecesIn
      rw [hasNode_neg, if_pos rfl, eL, e2]
      rfl
    · unfold sT_nodesIn
      rw [hasNode_neg, if_pos rfl, e]
      rfl
  · rw [if_neg e, if_neg e]
    have hh : sT_hasNode R Wl (nI k0) = 1 := by rw [hasNodeC hR hl Wl (by omega), if_pos (by omega)]
    cases D with
    | zero => exact absurd rfl e
    | succ D =>
      cases L with
      | nil => exact absurd rfl e
      | cons p T =>
        obtain ⟨g, -, -⟩ := h.kids
        have r3 : rAt (R 3) (nI k0) = nI (nN Wl (D + 1) (p :: T)) := rowC hR hl g (by decide)
        refine ⟨?_, ?_, hh⟩
        · unfold sT_piecesIn
          rw [hh, if_neg (by decide), r3, nI_add, fpfC hR hl hP Wl (by omega), fpfC hR hl hP Wl (by omega), f1, f2, nI_subl]
        · unfold sT_nodesIn
          rw [hh, if_neg (by decide), r3]
theorem SUB.own {R : Nat → List Int32} {ND : List Nd} {P : Nat} (hR : ∀ j, j < 6 → R j = ND.map (ndF j)) (hl : ND.length < 2 ^ 31) (hP : (R 6).length = P) {Wl : Nat → Option WV} {D : Nat} {p : Pc} {T : List Pc} {k0 p0 l0 : Nat} (h : SUB Wl ND P (D + 1) (p :: T) k0 p0 l0) : sT_ownPieces R Wl (nI k0) = nI (onL Wl (bst Wl (p :: T)) (p :: T)).length ∧ sT_firstPieceFrom R Wl (nI k0) = nI p0 ∧ sT_hasNode R Wl (nI k0) = 1 ∧ k0 < ND.length := by
  obtain ⟨g, hl1, -⟩ := h.kids
  have hi : k0 < ND.length := (List.getElem?_eq_some_iff.1 g).1
  obtain ⟨f1, -, -⟩ := h.first
  obtain ⟨f2, -, -⟩ := hl1.first
  have hh : sT_hasNode R Wl (nI k0) = 1 := by rw [hasNodeC hR hl Wl (by omega), if_pos hi]
  have e1 : sT_firstPieceFrom R Wl (nI k0) = nI p0 := by rw [fpfC hR hl hP Wl (by omega), f1]
  refine ⟨?_, e1, hh, hi⟩
  unfold sT_ownPieces
  rw [hh, if_neg (by decide), e1, nI_1, fpfC hR hl hP Wl (by omega), f2, nI_subl]
/-- whether a place lies left of a line -/
def lftI (Wl : Nat → Option WV) (ln x y : Int32) : Int32 := match wAt Wl ln with
  | none => 0
  | some v => if sW_side v x y ≤ 0 then 0 else 1
def leafT (Wl : Nat → Option WV) (x y : Int32) : Nat → List Pc → Nat → Nat
  | 0, _, l0 => l0
  | _ + 1, [], l0 => l0
  | D + 1, p :: T, l0 => if lftI Wl (bst Wl (p :: T)) x y = 0 then leafT Wl x y D (rgL Wl (bst Wl (p :: T)) (p :: T)) (l0 + (nN Wl D (lfL Wl (bst Wl (p :: T)) (p :: T)) + 1)) else leafT Wl x y D (lfL Wl (bst Wl (p :: T)) (p :: T)) l0
theorem leafT_le (Wl : Nat → Option WV) (x y : Int32) : ∀ (D : Nat) (L : List Pc) (l0 : Nat), leafT Wl x y D L l0 ≤ l0 + nN Wl D L := by
  intro D
  induction D with
  | zero => intro L l0; exact Nat.le_refl _
  | succ D ih =>
    intro L l0
    cases L with
    | nil => exact Nat.le_refl _
    | cons p T =>
      have gN : nN Wl (D + 1) (p :: T) = nN Wl D (lfL Wl (bst Wl (p :: T)) (p :: T)) + nN Wl D (rgL Wl (bst Wl (p :: T)) (p :: T)) + 1 := rfl
      rw [gN]
      show (if _ then _ else _) ≤ _
      have i1 := ih (rgL Wl (bst Wl (p :: T)) (p :: T)) (l0 + (nN Wl D (lfL Wl (bst Wl (p :: T)) (p :: T)) + 1))
      have i2 := ih (lfL Wl (bst Wl (p :: T)) (p :: T)) l0
      split <;> omega
theorem leafC {R : Nat → List Int32} {ND : List Nd} {P : Nat} (hR : ∀ j, j < 6 → R j = ND.map (ndF j)) (hl : ND.length < 2 ^ 31) (hP : (R 6).length = P) {Wl : Nat → Option WV} (x y : Int32) : ∀ (D : Nat) (L : List Pc) (k0 p0 l0 : Nat), SUB Wl ND P D L k0 p0 l0 → sLeafL R Wl x y D (nI l0) (an (nN Wl D L) k0) = nI (leafT Wl x y D L l0) := by
  intro D
  induction D with
  | zero => intro L k0 p0 l0 h; rfl
  | succ D ih =>
    intro L k0 p0 l0 h
    cases L with
    | nil =>
      show (if sT_hasNode R Wl (-1) = 0 then _ else _) = _
      rw [hasNode_neg, if_pos rfl]
      rfl
    | cons p T =>
      obtain ⟨g, h1, h2⟩ := h.kids
      obtain ⟨o1, o2, o3, o4⟩ := h.own hR hl hP
      obtain ⟨-, c2, -⟩ := h1.cls hR hl hP
      have e0 : an (nN Wl (D + 1) (p :: T)) k0 = nI k0 := if_neg (Nat.succ_ne_zero _)
      have r0 : rAt (R 0) (nI k0) = bst Wl (p :: T) := rowC hR hl g (by decide)
      have r1 : rAt (R 1) (nI k0) = an (nN Wl D (lfL Wl (bst Wl (p :: T)) (p :: T))) (k0 + 1) := rowC hR hl g (by decide)
      have r2 : rAt (R 2) (nI k0) = an (nN Wl D (rgL Wl (bst Wl (p :: T)) (p :: T))) (k0 + (nN Wl D (lfL Wl (bst Wl (p :: T)) (p :: T)) + 1)) := rowC hR hl g (by decide)
      have rl : sT_liesLeft R Wl (nI k0) x y = lftI Wl (bst Wl (p :: T)) x y := by
        unfold sT_liesLeft
        rw [r0]
        rfl
      rw [e0]
      unfold sLeafL
      have gT : leafT Wl x y (D + 1) (p :: T) l0 = if lftI Wl (bst Wl (p :: T)) x y = 0 then leafT Wl x y D (rgL Wl (bst Wl (p :: T)) (p :: T)) (l0 + (nN Wl D (lfL Wl (bst Wl (p :: T)) (p :: T)) + 1)) else leafT Wl x y D (lfL Wl (bst Wl (p :: T)) (p :: T)) l0 := rfl
      rw [o3, if_neg (by decide), rl, r1, r2, c2, nI_1, nI_add, ih _ _ _ _ h1, ih _ _ _ _ h2, gT]
      by_cases e : lftI Wl (bst Wl (p :: T)) x y = 0
      · rw [if_pos e, if_pos e]
      · rw [if_neg e, if_neg e]
theorem m1n_neg {l : Nat} (h : l < 2 ^ 31) : (m1n l).toInt = -1 - (l : Int) := by
  rw [m1n_eq]
  have := nI_toInt h
  have e1 : (-1 : Int32).toInt = -1 := by decide
  rw [sub32 (by rw [this, e1]; omega) (by rw [this, e1]; omega), this, e1]
theorem m1n_lt {l : Nat} (h : l < 2 ^ 31) : m1n l < 0 := by
  rw [Int32.lt_iff_toInt_lt, m1n_neg h, Int32.toInt_zero]
  omega
theorem isLeftR {Wl : Nat → Option WV} {mz : MSt} (hA : AG Wl mz) {k : Nat} (hk : k < 4200) {ln x y : Int32} {l : WV} (hl : wAt Wl ln = some l) (e : mz.2.1 21 k = ln) (hx : okI x) (hy : okI y) : sM_isLeft mz (nI k) x y = some (lftI Wl ln x y) := by
  unfold sM_isLeft lftI
  rw [if_pos (vpin_nI hk (by decide)), nI_clamp (by omega), e, sideOfR hA hl hx hy, hl]
  dsimp only
  split <;> rfl
theorem leafRR {Wl : Nat → Option WV} {mz : MSt} (hA : AG Wl mz) {ND : List Nd} {P : Nat} (hN : ∀ z, z ∈ ND → NR mz z) (hl : ND.length < 4200) {x y : Int32} (hx : okI x) (hy : okI y) : ∀ (D : Nat) (L : List Pc) (k0 p0 l0 N : Nat), SUB Wl ND P D L k0 p0 l0 → (∀ q, q ∈ L → okP Wl q) → l0 + nN Wl D L < 2 ^ 31 → D < N → sLfL x y N mz (lk (nN Wl D L) l0 k0) = some (mz, m1n (leafT Wl x y D L l0)) := by
  intro D
  induction D with
  | zero =>
    intro L k0 p0 l0 N h hO hb hD
    obtain ⟨N, rfl⟩ : ∃ N', N = N' + 1 := ⟨N - 1, by omega⟩
    have e : lk (nN Wl 0 L) l0 k0 = m1n l0 := by unfold lk; rw [if_pos (show nN Wl 0 L = 0 from rfl)]
    have gT : leafT Wl x y 0 L l0 = l0 := rfl
    rw [e, gT]
    unfold sLfL
    rw [if_pos (m1n_lt (by omega))]
  | succ D ih =>
    intro L k0 p0 l0 N h hO hb hD
    obtain ⟨N, rfl⟩ : ∃ N', N = N' + 1 := ⟨N - 1, by omega⟩
    cases L with
    | nil =>
      have e : lk (nN Wl (D + 1) []) l0 k0 = m1n l0 := by unfold lk; rw [if_pos (show nN Wl (D + 1) [] = 0 from rfl)]
      have gT : leafT Wl x y (D + 1) [] l0 = l0 := rfl
      rw [e, gT]
      unfold sLfL
      rw [if_pos (m1n_lt (by omega))]
    | cons p T =>
      obtain ⟨g, h1, h2⟩ := h.kids
      obtain ⟨l, hll⟩ := ok_line hO
      obtain ⟨olf, org⟩ := ok_lf hll hA hO
      have hi : k0 < ND.length := (List.getElem?_eq_some_iff.1 g).1
      obtain ⟨n1, n2, n3, -⟩ := hN _ (List.mem_of_getElem? g)
      dsimp only at n1 n2 n3
      have gN : nN Wl (D + 1) (p :: T) = nN Wl D (lfL Wl (bst Wl (p :: T)) (p :: T)) + nN Wl D (rgL Wl (bst Wl (p :: T)) (p :: T)) + 1 := rfl
      have e0 : lk (nN Wl (D + 1) (p :: T)) l0 k0 = nI k0 := by unfold lk; rw [if_neg (show ¬ nN Wl (D + 1) (p :: T) = 0 from Nat.succ_ne_zero _)]
      have il := isLeftR hA (show k0 < 4200 by omega) hll n1 hx hy
      have gT : leafT Wl x y (D + 1) (p :: T) l0 = if lftI Wl (bst Wl (p :: T)) x y = 0 then leafT Wl x y D (rgL Wl (bst Wl (p :: T)) (p :: T)) (l0 + (nN Wl D (lfL Wl (bst Wl (p :: T)) (p :: T)) + 1)) else leafT Wl x y D (lfL Wl (bst Wl (p :: T)) (p :: T)) l0 := rfl
      rw [gN] at hb
      rw [e0]
      unfold sLfL
      rw [if_neg (nI_pos (by omega)), il]
      dsimp only
      rw [if_pos (vpin_nI (show k0 < 4200 by omega) (by decide)), if_pos (vpin_nI (show k0 < 4200 by omega) (by decide)), nI_clamp (n := k0) (by omega), n2, n3, ih _ _ _ _ N h1 olf (by omega) (by omega), ih _ _ _ _ N h2 org (by omega) (by omega), gT]
      by_cases e : lftI Wl (bst Wl (p :: T)) x y = 0
      · rw [if_pos e, if_pos e]
      · rw [if_neg e, if_neg e]
