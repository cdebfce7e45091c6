/-- the pieces in the way's order: node, its first piece, place in the node -/
abbrev Wy : Type := Nat × Nat × Nat
def ownW (m k0 p0 : Nat) : List Wy := (List.range m).map (fun i => (k0, p0, i))
def wayT (Wl : Nat → Option WV) (x y : Int32) : Nat → List Pc → Nat → Nat → List Wy
  | 0, _, _, _ => []
  | _ + 1, [], _, _ => []
  | D + 1, p :: T, k0, p0 => if lftI Wl (bst Wl (p :: T)) x y = 0 then wayT Wl x y D (rgL Wl (bst Wl (p :: T)) (p :: T)) (k0 + (nN Wl D (lfL Wl (bst Wl (p :: T)) (p :: T)) + 1)) (p0 + (onL Wl (bst Wl (p :: T)) (p :: T)).length + (pcs Wl D (lfL Wl (bst Wl (p :: T)) (p :: T))).length) ++ (ownW (onL Wl (bst Wl (p :: T)) (p :: T)).length k0 p0 ++ wayT Wl x y D (lfL Wl (bst Wl (p :: T)) (p :: T)) (k0 + 1) (p0 + (onL Wl (bst Wl (p :: T)) (p :: T)).length)) else wayT Wl x y D (lfL Wl (bst Wl (p :: T)) (p :: T)) (k0 + 1) (p0 + (onL Wl (bst Wl (p :: T)) (p :: T)).length) ++ (ownW (onL Wl (bst Wl (p :: T)) (p :: T)).length k0 p0 ++ wayT Wl x y D (rgL Wl (bst Wl (p :: T)) (p :: T)) (k0 + (nN Wl D (lfL Wl (bst Wl (p :: T)) (p :: T)) + 1)) (p0 + (onL Wl (bst Wl (p :: T)) (p :: T)).length + (pcs Wl D (lfL Wl (bst Wl (p :: T)) (p :: T))).length))
theorem ownW_len (m k0 p0 : Nat) : (ownW m k0 p0).length = m := by unfold ownW; rw [List.length_map, List.length_range]
theorem ownW_get {m k0 p0 i : Nat} (h : i < m) : (ownW m k0 p0)[i]? = some (k0, p0, i) := by
  unfold ownW
  rw [List.getElem?_map, List.getElem?_range h]
  rfl
theorem wayT_len (Wl : Nat → Option WV) (x y : Int32) : ∀ (D : Nat) (L : List Pc) (k0 p0 : Nat), (wayT Wl x y D L k0 p0).length = (pcs Wl D L).length := by
  intro D
  induction D with
  | zero => intro L k0 p0; rfl
  | succ D ih =>
    intro L k0 p0
    cases L with
    | nil => rfl
    | cons p T =>
      show (if _ then _ else _ : List Wy).length = List.length (_ ++ (_ ++ _))
      rw [List.length_append, List.length_append]
      split
      · rw [List.length_append, List.length_append, ownW_len, ih, ih]; omega
      · rw [List.length_append, List.length_append, ownW_len, ih, ih]; omega
/-- the class's answer for a row's place -/
def wyC (o : Option Wy) : Int32 := match o with
  | none => -1
  | some z => nI (z.2.1 + z.2.2)
theorem wayC {R : Nat → List Int32} {ND : List Nd} {P : Nat} (hR : ∀ j, j < 6 → R j = ND.map (ndF j)) (hl : ND.length < 2 ^ 31) (hP : (R 6).length = P) {Wl : Nat → Option WV} (x y : Int32) : ∀ (D : Nat) (L : List Pc) (k0 p0 l0 r : Nat), SUB Wl ND P D L k0 p0 l0 → r < 2 ^ 31 → (pcs Wl D L).length < 2 ^ 31 → sWayL R Wl x y D (nI r) (an (nN Wl D L) k0) = wyC (wayT Wl x y D L k0 p0)[r]? := by
  intro D
  induction D with
  | zero => intro L k0 p0 l0 r h _ _; rfl
  | succ D ih =>
    intro L k0 p0 l0 r h hr hp
    cases L with
    | nil =>
      show (if sT_hasNode R Wl (-1) = 0 then _ else _) = _
      rw [hasNode_neg, if_pos rfl]
      rfl
    | cons p T =>
      obtain ⟨g, h1, h2⟩ := h.kids
      obtain ⟨o1, o2, o3, o4⟩ := h.own hR hl hP
      obtain ⟨c1, -, -⟩ := h1.cls hR hl hP
      obtain ⟨d1, -, -⟩ := h2.cls hR hl hP
      have gP : pcs Wl (D + 1) (p :: T) = onL Wl (bst Wl (p :: T)) (p :: T) ++ (pcs Wl D (lfL Wl (bst Wl (p :: T)) (p :: T)) ++ pcs Wl D (rgL Wl (bst Wl (p :: T)) (p :: T))) := rfl
      rw [gP, List.length_append, List.length_append] at hp
      have e0 : an (nN Wl (D + 1) (p :: T)) k0 = nI k0 := if_neg (Nat.succ_ne_zero _)
      have r0 : rAt (R 0) (nI k0) = bst Wl (p :: T) := rowC hR hl g (by decide)
      have r1 : rAt (R 1) (nI k0) = an (nN Wl D (lfL Wl (bst Wl (p :: T)) (p :: T))) (k0 + 1) := rowC hR hl g (by decide)
      have r2 : rAt (R 2) (nI k0) = an (nN Wl D (rgL Wl (bst Wl (p :: T)) (p :: T))) (k0 + (nN Wl D (lfL Wl (bst Wl (p :: T)) (p :: T)) + 1)) := rowC hR hl g (by decide)
      have rl : sT_liesLeft R Wl (nI k0) x y = lftI Wl (bst Wl (p :: T)) x y := by
        unfold sT_liesLeft
        rw [r0]
        rfl
      have i1 := fun r hr => ih (lfL Wl (bst Wl (p :: T)) (p :: T)) _ _ _ r h1 hr (by omega)
      have i2 := fun r hr => ih (rgL Wl (bst Wl (p :: T)) (p :: T)) _ _ _ r h2 hr (by omega)
      have w1 := wayT_len Wl x y D (lfL Wl (bst Wl (p :: T)) (p :: T)) (k0 + 1) (p0 + (onL Wl (bst Wl (p :: T)) (p :: T)).length)
      have w2 := wayT_len Wl x y D (rgL Wl (bst Wl (p :: T)) (p :: T)) (k0 + (nN Wl D (lfL Wl (bst Wl (p :: T)) (p :: T)) + 1)) (p0 + (onL Wl (bst Wl (p :: T)) (p :: T)).length + (pcs Wl D (lfL Wl (bst Wl (p :: T)) (p :: T))).length)
      have gen : ∀ (pn pf : List Pc) (Wn Wf : List Wy) (kn kf : Int32), (pcs Wl D pn).length < 2 ^ 31 → Wn.length = (pcs Wl D pn).length → sT_piecesIn R Wl kn = nI (pcs Wl D pn).length → (∀ r, r < 2 ^ 31 → sWayL R Wl x y D (nI r) kn = wyC Wn[r]?) → (∀ r, r < 2 ^ 31 → sWayL R Wl x y D (nI r) kf = wyC Wf[r]?) → (if sT_piecesIn R Wl kn ≤ nI r then (if sT_ownPieces R Wl (nI k0) ≤ nI r - sT_piecesIn R Wl kn then sWayL R Wl x y D (nI r - sT_piecesIn R Wl kn - sT_ownPieces R Wl (nI k0)) kf else sT_firstPieceFrom R Wl (nI k0) + (nI r - sT_piecesIn R Wl kn)) else sWayL R Wl x y D (nI r) kn) = wyC (Wn ++ (ownW (onL Wl (bst Wl (p :: T)) (p :: T)).length k0 p0 ++ Wf))[r]? := by
        intro pn pf Wn Wf kn kf q1 q2 q3 q4 q5
        rw [q3, o1, o2]
        by_cases a : (pcs Wl D pn).length ≤ r
        · obtain ⟨s, rfl⟩ : ∃ s, r = (pcs Wl D pn).length + s := ⟨r - (pcs Wl D pn).length, by omega⟩
          rw [if_pos (nI_le a hr), nI_subl, List.getElem?_append_right (by omega), show (pcs Wl D pn).length + s - Wn.length = s by omega]
          by_cases b : (onL Wl (bst Wl (p :: T)) (p :: T)).length ≤ s
          · obtain ⟨t, rfl⟩ : ∃ t, s = (onL Wl (bst Wl (p :: T)) (p :: T)).length + t := ⟨s - (onL Wl (bst Wl (p :: T)) (p :: T)).length, by omega⟩
            rw [if_pos (nI_le b (by omega)), nI_subl, List.getElem?_append_right (by rw [ownW_len]; omega), ownW_len, Nat.add_sub_cancel_left]
            exact q5 t (by omega)
          · rw [if_neg (nI_ge (by omega) (by omega)), List.getElem?_append_left (by rw [ownW_len]; omega), ownW_get (by omega), nI_add]
            rfl
        · rw [if_neg (nI_ge (by omega) q1), List.getElem?_append_left (by omega)]
          exact q4 r hr
      rw [e0]
      show (if sT_hasNode R Wl (nI k0) = 0 then _ else _) = wyC (if _ then _ else _ : List Wy)[r]?
      rw [o3, if_neg (by decide)]
      unfold sNear sFar
      rw [rl, r1, r2]
      by_cases e : lftI Wl (bst Wl (p :: T)) x y = 0
      · rw [if_pos e, if_pos e, if_pos e]
        exact gen _ (lfL Wl (bst Wl (p :: T)) (p :: T)) _ _ _ _ (by omega) w2 d1 i2 i1
      · rw [if_neg e, if_neg e, if_neg e]
        exact gen _ (rgL Wl (bst Wl (p :: T)) (p :: T)) _ _ _ _ (by omega) w1 c1 i1 i2
/-- the places of a node stand together, in their order -/
theorem wayT_k (Wl : Nat → Option WV) (x y : Int32) : ∀ (D : Nat) (L : List Pc) (k0 p0 : Nat) (z : Wy), z ∈ wayT Wl x y D L k0 p0 → k0 ≤ z.1 ∧ z.1 < k0 + nN Wl D L := by
  intro D
  induction D with
  | zero => intro L k0 p0 z h; cases h
  | succ D ih =>
    intro L k0 p0 z h
    cases L with
    | nil => cases h
    | cons p T =>
      have gN : nN Wl (D + 1) (p :: T) = nN Wl D (lfL Wl (bst Wl (p :: T)) (p :: T)) + nN Wl D (rgL Wl (bst Wl (p :: T)) (p :: T)) + 1 := rfl
      rw [gN]
      have ow : ∀ m, z ∈ ownW m k0 p0 → z.1 = k0 := by
        intro m hz
        obtain ⟨i, -, rfl⟩ := List.mem_map.1 hz
        rfl
      have h' : z ∈ (if lftI Wl (bst Wl (p :: T)) x y = 0 then _ else _ : List Wy) := h
      split at h'
      · rcases List.mem_append.1 h' with q | q
        · have := ih _ _ _ _ q; omega
        · rcases List.mem_append.1 q with q | q
          · have := ow _ q; omega
          · have := ih _ _ _ _ q; omega
      · rcases List.mem_append.1 h' with q | q
        · have := ih _ _ _ _ q; omega
        · rcases List.mem_append.1 q with q | q
          · have := ow _ q; omega
          · have := ih _ _ _ _ q; omega
/-- z at r is the place z.2.2 of its node, and the node's places begin at r - z.2.2 -/
def ahd (W : List Wy) : Prop := ∀ (r : Nat) (z : Wy), W[r]? = some z → z.2.2 ≤ r ∧ W[r - z.2.2]? = some (z.1, z.2.1, 0) ∧ ∀ (q : Nat) (u : Wy), q < r - z.2.2 → W[q]? = some u → u.1 ≠ z.1
theorem ahd_own (m k0 p0 : Nat) : ahd (ownW m k0 p0) := by
  intro r z h
  have hr : r < m := by
    have := (List.getElem?_eq_some_iff.1 h).1
    rw [ownW_len] at this
    exact this
  rw [ownW_get hr] at h
  obtain rfl := Option.some.inj h
  refine ⟨Nat.le_refl _, ?_, fun q u hq => ?_⟩
  · show (ownW m k0 p0)[r - r]? = _
    rw [Nat.sub_self]
    exact ownW_get (by omega)
  · exact absurd hq (by show ¬ q < r - r; omega)
theorem ahd_app {A B : List Wy} (hA : ahd A) (hB : ahd B) (hd : ∀ u z, u ∈ A → z ∈ B → u.1 ≠ z.1) : ahd (A ++ B) := by
  intro r z h
  by_cases hr : r < A.length
  · rw [List.getElem?_append_left hr] at h
    obtain ⟨a, b, c⟩ := hA r z h
    refine ⟨a, by rw [List.getElem?_append_left (by omega)]; exact b, fun q u hq hu => ?_⟩
    rw [List.getElem?_append_left (by omega)] at hu
    exact c q u hq hu
  · rw [List.getElem?_append_right (by omega)] at h
    obtain ⟨a, b, c⟩ := hB _ z h
    refine ⟨by omega, ?_, fun q u hq hu => ?_⟩
    · rw [List.getElem?_append_right (by omega), show r - z.2.2 - A.length = r - A.length - z.2.2 by omega]
      exact b
    · by_cases hqa : q < A.length
      · rw [List.getElem?_append_left hqa] at hu
        exact hd u z (List.mem_of_getElem? hu) (List.mem_of_getElem? h)
      · rw [List.getElem?_append_right (by omega)] at hu
        exact c _ u (by omega) hu
theorem ahd_way (Wl : Nat → Option WV) (x y : Int32) : ∀ (D : Nat) (L : List Pc) (k0 p0 : Nat), ahd (wayT Wl x y D L k0 p0) := by
  intro D
  induction D with
  | zero => intro L k0 p0 r z h; simp [wayT] at h
  | succ D ih =>
    intro L k0 p0
    cases L with
    | nil => intro r z h; simp [wayT] at h
    | cons p T =>
      have ow : ∀ m z, z ∈ ownW m k0 p0 → z.1 = k0 := by
        intro m z hz
        obtain ⟨i, -, rfl⟩ := List.mem_map.1 hz
        rfl
      have kl := wayT_k Wl x y D (lfL Wl (bst Wl (p :: T)) (p :: T)) (k0 + 1) (p0 + (onL Wl (bst Wl (p :: T)) (p :: T)).length)
      have kr := wayT_k Wl x y D (rgL Wl (bst Wl (p :: T)) (p :: T)) (k0 + (nN Wl D (lfL Wl (bst Wl (p :: T)) (p :: T)) + 1)) (p0 + (onL Wl (bst Wl (p :: T)) (p :: T)).length + (pcs Wl D (lfL Wl (bst Wl (p :: T)) (p :: T))).length)
      show ahd (if lftI Wl (bst Wl (p :: T)) x y = 0 then _ else _ : List Wy)
      split
      · refine ahd_app (ih _ _ _) (ahd_app (ahd_own _ _ _) (ih _ _ _) ?_) ?_
        · intro u z hu hz e
          have := ow _ u hu
          have := kl z hz
          omega
        · intro u z hu hz e
          have := kr u hu
          rcases List.mem_append.1 hz with q | q
          · have := ow _ z q; omega
          · have := kl z q; omega
      · refine ahd_app (ih _ _ _) (ahd_app (ahd_own _ _ _) (ih _ _ _) ?_) ?_
        · intro u z hu hz e
          have := ow _ u hu
          have := kr z hz
          omega
        · intro u z hu hz e
          have := kl u hu
          rcases List.mem_append.1 hz with q | q
          · have := ow _ z q; omega
          · have := kr z q; omega
