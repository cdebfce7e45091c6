/-- the two parts of a piece, and what stays on the line -/
def lfP (Wl : Nat → Option WV) (ln : Int32) (p : Pc) : List Pc := if wh Wl ln p &&& 1 = 0 then [] else [if wh Wl ln p = 3 then (if eF Wl ln p = 1 then (p.1, p.2.1, ln) else (p.1, ln, p.2.2)) else p]
def rgP (Wl : Nat → Option WV) (ln : Int32) (p : Pc) : List Pc := if wh Wl ln p &&& 2 = 0 then [] else [if wh Wl ln p = 3 then (if eF Wl ln p = 1 then (p.1, ln, p.2.2) else (p.1, p.2.1, ln)) else p]
def onP (Wl : Nat → Option WV) (ln : Int32) (p : Pc) : List Pc := if wh Wl ln p = 0 then [p] else []
abbrev lfL (Wl : Nat → Option WV) (ln : Int32) (L : List Pc) : List Pc := L.flatMap (lfP Wl ln)
abbrev rgL (Wl : Nat → Option WV) (ln : Int32) (L : List Pc) : List Pc := L.flatMap (rgP Wl ln)
abbrev onL (Wl : Nat → Option WV) (ln : Int32) (L : List Pc) : List Pc := L.flatMap (onP Wl ln)
/-- the cuts and the balance of a line -/
def cs (Wl : Nat → Option WV) (ln : Int32) : List Pc → Int32 → Int32 → Int32 × Int32
  | [], c, b => (c, b)
  | p :: T, c, b => cs Wl ln T (c + if wh Wl ln p = 3 then 1 else 0) ((b + if wh Wl ln p &&& 1 = 0 then 0 else 1) - if wh Wl ln p &&& 2 = 0 then 0 else 1)
def pr (Wl : Nat → Option WV) (ln : Int32) (L : List Pc) : Int32 := sBlP (cs Wl ln L 0 0)
def bs (Wl : Nat → Option WV) (L : List Pc) : List Pc → Int32 → Int32 → Int32
  | [], be, _ => be
  | p :: T, be, le => if be = -1 then bs Wl L T p.1 (pr Wl p.1 L) else if le ≤ pr Wl p.1 L then bs Wl L T be le else bs Wl L T p.1 (pr Wl p.1 L)
def bst (Wl : Nat → Option WV) (L : List Pc) : Int32 := bs Wl L (L.take (min 16 L.length)) (-1) 0
/-- the tree of a list with D levels left: how many nodes, the pieces in order, the height -/
def nN (Wl : Nat → Option WV) : Nat → List Pc → Nat
  | 0, _ => 0
  | _ + 1, [] => 0
  | D + 1, p :: T => nN Wl D (lfL Wl (bst Wl (p :: T)) (p :: T)) + nN Wl D (rgL Wl (bst Wl (p :: T)) (p :: T)) + 1
def pcs (Wl : Nat → Option WV) : Nat → List Pc → List Pc
  | 0, _ => []
  | _ + 1, [] => []
  | D + 1, p :: T => onL Wl (bst Wl (p :: T)) (p :: T) ++ (pcs Wl D (lfL Wl (bst Wl (p :: T)) (p :: T)) ++ pcs Wl D (rgL Wl (bst Wl (p :: T)) (p :: T)))
def hgt (Wl : Nat → Option WV) : Nat → List Pc → Int32 → Int32
  | 0, _, h => h
  | _ + 1, [], h => h
  | D + 1, p :: T, h => hgt Wl D (rgL Wl (bst Wl (p :: T)) (p :: T)) (hgt Wl D (lfL Wl (bst Wl (p :: T)) (p :: T)) (plH (63 - D) h))
/-- the pieces' nodes -/
def hms (Wl : Nat → Option WV) : Nat → List Pc → Nat → List Int32
  | 0, _, _ => []
  | _ + 1, [], _ => []
  | D + 1, p :: T, k0 => List.replicate (onL Wl (bst Wl (p :: T)) (p :: T)).length (nI k0) ++ (hms Wl D (lfL Wl (bst Wl (p :: T)) (p :: T)) (k0 + 1) ++ hms Wl D (rgL Wl (bst Wl (p :: T)) (p :: T)) (k0 + (nN Wl D (lfL Wl (bst Wl (p :: T)) (p :: T)) + 1)))
/-- a node: line, depth, first piece, own pieces, nodes in the left and the right tree, number, leaves before -/
abbrev Nd : Type := Int32 × Nat × Nat × Nat × Nat × Nat × Nat × Nat
def nds (Wl : Nat → Option WV) : Nat → List Pc → Nat → Nat → Nat → List Nd
  | 0, _, _, _, _ => []
  | _ + 1, [], _, _, _ => []
  | D + 1, p :: T, k0, p0, l0 => (bst Wl (p :: T), 63 - D, p0, (onL Wl (bst Wl (p :: T)) (p :: T)).length, nN Wl D (lfL Wl (bst Wl (p :: T)) (p :: T)), nN Wl D (rgL Wl (bst Wl (p :: T)) (p :: T)), k0, l0) :: (nds Wl D (lfL Wl (bst Wl (p :: T)) (p :: T)) (k0 + 1) (p0 + (onL Wl (bst Wl (p :: T)) (p :: T)).length) l0 ++ nds Wl D (rgL Wl (bst Wl (p :: T)) (p :: T)) (k0 + (nN Wl D (lfL Wl (bst Wl (p :: T)) (p :: T)) + 1)) (p0 + (onL Wl (bst Wl (p :: T)) (p :: T)).length + (pcs Wl D (lfL Wl (bst Wl (p :: T)) (p :: T))).length) (l0 + (nN Wl D (lfL Wl (bst Wl (p :: T)) (p :: T)) + 1)))
theorem nds_len (Wl : Nat → Option WV) : ∀ (D : Nat) (L : List Pc) (k0 p0 l0 : Nat), (nds Wl D L k0 p0 l0).length = nN Wl D L := by
  intro D
  induction D with
  | zero => intro L k0 p0 l0; rfl
  | succ D ih =>
    intro L k0 p0 l0
    cases L with
    | nil => rfl
    | cons p T =>
      show (_ :: (_ ++ _)).length = _ + _ + 1
      rw [List.length_cons, List.length_append, ih, ih]
theorem hms_len (Wl : Nat → Option WV) : ∀ (D : Nat) (L : List Pc) (k0 : Nat), (hms Wl D L k0).length = (pcs Wl D L).length := by
  intro D
  induction D with
  | zero => intro L k0; rfl
  | succ D ih =>
    intro L k0
    cases L with
    | nil => rfl
    | cons p T =>
      show List.length (_ ++ (_ ++ _)) = List.length (_ ++ (_ ++ _))
      rw [List.length_append, List.length_append, List.length_append, List.length_append, List.length_replicate, ih, ih]
/-- a node's fields in the class's rows 0 .. 5 -/
def nf (ln a b c dep q : Int32) (k : Nat) : Int32 := if k = 0 then ln else if k = 1 then a else if k = 2 then b else if k = 3 then c else if k = 4 then dep else q
def ndF (k : Nat) (x : Nd) : Int32 := nf x.1 (if x.2.2.2.2.1 = 0 then -1 else nI (x.2.2.2.2.2.2.1 + 1)) (if x.2.2.2.2.2.1 = 0 then -1 else nI (x.2.2.2.2.2.2.1 + (x.2.2.2.2.1 + 1))) (nI (x.2.2.2.2.1 + x.2.2.2.2.2.1 + 1)) (nI x.2.1) (nI x.2.2.1) k
/-- lists of pieces are no longer behind a line than before it -/
theorem lfP_le (Wl : Nat → Option WV) (ln : Int32) (p : Pc) : (lfP Wl ln p).length ≤ 1 := by unfold lfP; split <;> simp
theorem rgP_le (Wl : Nat → Option WV) (ln : Int32) (p : Pc) : (rgP Wl ln p).length ≤ 1 := by unfold rgP; split <;> simp
theorem onP_le (Wl : Nat → Option WV) (ln : Int32) (p : Pc) : (onP Wl ln p).length ≤ 1 := by unfold onP; split <;> simp
theorem fm_le {f : Pc → List Pc} (hf : ∀ p, (f p).length ≤ 1) : ∀ L : List Pc, (L.flatMap f).length ≤ L.length := by
  intro L
  induction L with
  | nil => exact Nat.le_refl _
  | cons p T ih =>
    rw [List.flatMap_cons, List.length_append, List.length_cons]
    have := hf p
    omega
theorem fm_lt {f : Pc → List Pc} (hf : ∀ p, (f p).length ≤ 1) : ∀ L : List Pc, (∃ p, p ∈ L ∧ f p = []) → (L.flatMap f).length < L.length := by
  intro L
  induction L with
  | nil => intro h; obtain ⟨p, h, _⟩ := h; cases h
  | cons q T ih =>
    intro h
    obtain ⟨p, hp, e⟩ := h
    rw [List.flatMap_cons, List.length_append, List.length_cons]
    rcases List.mem_cons.1 hp with rfl | hp
    · rw [e]
      have := fm_le hf T
      simp only [List.length_nil]
      omega
    · have := ih ⟨p, hp, e⟩
      have := hf q
      omega
theorem side_own1 (v : WV) : sW_side v v.1 v.2.1 = 0 := by
  unfold sW_side
  rw [Int32.sub_self, Int32.sub_self, show (0 : Int32).toInt64 = 0 from by decide, Int64.mul_zero, Int64.mul_zero, Int64.sub_self]
theorem side_own2 (v : WV) : sW_side v v.2.2.1 v.2.2.2 = 0 := by
  unfold sW_side
  rw [Int64.mul_comm, Int64.sub_self]
theorem between00 (u v : Int64) : sT_sideBetween 0 0 u v = 0 := by
  unfold sT_sideBetween
  rw [if_neg (by decide), if_neg (by decide), if_neg (by decide), if_pos (by decide)]
theorem end_own (Wl : Nat → Option WV) (w c b : Int32) : sT_sideOfEnd (fun _ => []) Wl w w c b = 0 := by
  unfold sT_sideOfEnd
  cases h : wAt Wl w with
  | none => rfl
  | some v =>
    simp only [side_own1, side_own2]
    cases h2 : wAt Wl c with
    | none => simp only [ite_self]; rfl
    | some cv => exact between00 _ _
theorem wh_own (Wl : Nat → Option WV) (p : Pc) : wh Wl p.1 p = 0 := by
  unfold wh eF eL
  rw [end_own, end_own]
  rfl
theorem bs_mem (Wl : Nat → Option WV) (L : List Pc) : ∀ (C : List Pc) (be le : Int32), bs Wl L C be le = be ∨ ∃ p, p ∈ C ∧ bs Wl L C be le = p.1 := by
  intro C
  induction C with
  | nil => intro be le; exact Or.inl rfl
  | cons p T ih =>
    intro be le
    have k : ∀ le', bs Wl L T p.1 le' = be ∨ ∃ q, q ∈ p :: T ∧ bs Wl L T p.1 le' = q.1 := by
      intro le'
      rcases ih p.1 le' with h | ⟨q, hq, h⟩
      · exact Or.inr ⟨p, List.mem_cons_self, h⟩
      · exact Or.inr ⟨q, List.mem_cons_of_mem _ hq, h⟩
    show (if be = -1 then _ else _) = be ∨ ∃ q, q ∈ p :: T ∧ (if be = -1 then _ else _) = q.1
    split
    · exact k _
    · split
      · rcases ih be le with h | ⟨q, hq, h⟩
        · exact Or.inl h
        · exact Or.inr ⟨q, List.mem_cons_of_mem _ hq, h⟩
      · exact k _
theorem bst_mem (Wl : Nat → Option WV) (p : Pc) (T : List Pc) : ∃ q, q ∈ p :: T ∧ bst Wl (p :: T) = q.1 := by
  unfold bst
  have e : (p :: T).take (min 16 (p :: T).length) = p :: T.take (min 16 (p :: T).length - 1) := by
    rw [List.length_cons]
    obtain ⟨m, hm⟩ : ∃ m, min 16 (T.length + 1) = m + 1 := ⟨min 16 (T.length + 1) - 1, by omega⟩
    rw [hm]
    rfl
  rw [e]
  show ∃ q, q ∈ p :: T ∧ (if (-1 : Int32) = -1 then _ else _) = q.1
  rw [if_pos rfl]
  rcases bs_mem Wl (p :: T) (T.take (min 16 (p :: T).length - 1)) p.1 (pr Wl p.1 (p :: T)) with h | ⟨q, hq, h⟩
  · exact ⟨p, List.mem_cons_self, h⟩
  · exact ⟨q, List.mem_cons_of_mem _ (List.mem_of_mem_take hq), h⟩
theorem own_nil {Wl : Nat → Option WV} {p : Pc} : lfP Wl p.1 p = [] ∧ rgP Wl p.1 p = [] ∧ onP Wl p.1 p = [p] := by
  unfold lfP rgP onP
  rw [wh_own]
  exact ⟨rfl, rfl, rfl⟩
theorem lf_lt (Wl : Nat → Option WV) (p : Pc) (T : List Pc) : (lfL Wl (bst Wl (p :: T)) (p :: T)).length ≤ T.length := by
  obtain ⟨q, hq, e⟩ := bst_mem Wl p T
  have := fm_lt (lfP_le Wl (bst Wl (p :: T))) (p :: T) ⟨q, hq, by rw [e]; exact own_nil.1⟩
  rw [List.length_cons] at this
  exact Nat.le_of_lt_succ this
theorem rg_lt (Wl : Nat → Option WV) (p : Pc) (T : List Pc) : (rgL Wl (bst Wl (p :: T)) (p :: T)).length ≤ T.length := by
  obtain ⟨q, hq, e⟩ := bst_mem Wl p T
  have := fm_lt (rgP_le Wl (bst Wl (p :: T))) (p :: T) ⟨q, hq, by rw [e]; exact own_nil.2.1⟩
  rw [List.length_cons] at this
  exact Nat.le_of_lt_succ this
/-- the class's rows as lists -/
def cols (K : Nat) (W : List Pc) (R : Nat → List Int32) : Prop := R K = W.map (fun p => p.1) ∧ R (K + 1) = W.map (fun p => p.2.1) ∧ R (K + 2) = W.map (fun p => p.2.2)
def CS (s : TSt) (N : Nat → List Int32) (Q : List Pc) (hm : List Int32) (W F : List Pc) : Prop := (∀ k, k < 6 → s.2 k = N k) ∧ cols 6 Q s.2 ∧ s.2 9 = hm ∧ cols 10 W s.2 ∧ cols 13 F s.2
theorem CS.congr {s : TSt} {N N' : Nat → List Int32} {Q : List Pc} {hm : List Int32} {W F : List Pc} (h : CS s N Q hm W F) (e : ∀ k, k < 6 → N k = N' k) : CS s N' Q hm W F := ⟨fun k hk => (h.1 k hk).trans (e k hk), h.2⟩
theorem rAdd_lt {L : List Int32} (v : Int32) (h : L.length < 4096) : rAdd L v = L ++ [v] := by unfold rAdd; rw [if_neg (by omega)]
theorem rSet_lt {L : List Int32} {i : Nat} (v : Int32) (h : i < L.length) (h2 : L.length < 2 ^ 31) : rSet L (nI i) v = L.set i v := by
  unfold rSet
  rw [if_neg (nI_pos (by omega)), if_neg (nI_ge h h2), nI_clamp (by omega)]
theorem rCut_le {L : List Int32} {i : Nat} (h : i ≤ L.length) (h2 : L.length < 2 ^ 31) : rCut L (nI i) = L.take i := by
  unfold rCut
  rw [if_neg (nI_pos (by omega))]
  by_cases e : i = L.length
  · subst e
    rw [if_pos (nI_le (Nat.le_refl _) h2), List.take_length]
  · rw [if_neg (nI_ge (by omega) h2), nI_clamp (by omega)]
theorem rAt_map {W : List Pc} {f : Pc → Int32} {i : Nat} {p : Pc} (h : W[i]? = some p) (h2 : W.length < 2 ^ 31) : rAt (W.map f) (nI i) = f p := by
  have hi : i < W.length := (List.getElem?_eq_some_iff.1 h).1
  unfold rAt
  rw [if_neg (nI_pos (by omega)), List.length_map, if_neg (nI_ge hi h2), nI_clamp (by omega), List.getD_eq_getElem?_getD, List.getElem?_map, h]
  rfl
theorem CS.pAdd6 {s : TSt} {N : Nat → List Int32} {Q : List Pc} {hm : List Int32} {W F : List Pc} (h : CS s N Q hm W F) (a b c k : Int32) (h1 : Q.length < 4096) (h2 : hm.length < 4096) : CS (oAdd 9 k (pAdd 6 a b c s)) N (Q ++ [(a, b, c)]) (hm ++ [k]) W F := by
  obtain ⟨hN, ⟨a6, a7, a8⟩, h9, ⟨b0, b1, b2⟩, ⟨c0, c1, c2⟩⟩ := h
  unfold oAdd pAdd
  refine ⟨fun j hj => ?_, ⟨?_, ?_, ?_⟩, ?_, ⟨?_, ?_, ?_⟩, ⟨?_, ?_, ?_⟩⟩
  · show va_up (va_up (va_up (va_up _ _ _) _ _) _ _) _ _ j = _
    rw [va_up_ne _ _ (by omega), va_up_ne _ _ (by omega), va_up_ne _ _ (by omega), va_up_ne _ _ (by omega)]
    exact hN j hj
  · show rAdd (s.2 6) a = _
    rw [a6, rAdd_lt _ (by rw [List.length_map]; exact h1), List.map_append]; rfl
  · show rAdd (s.2 7) b = _
    rw [a7, rAdd_lt _ (by rw [List.length_map]; exact h1), List.map_append]; rfl
  · show rAdd (s.2 8) c = _
    rw [a8, rAdd_lt _ (by rw [List.length_map]; exact h1), List.map_append]; rfl
  · show rAdd (s.2 9) k = _
    rw [h9, rAdd_lt _ h2]
  · exact b0
  · exact b1
  · exact b2
  · exact c0
  · exact c1
  · exact c2
theorem CS.pAdd13 {s : TSt} {N : Nat → List Int32} {Q : List Pc} {hm : List Int32} {W F : List Pc} (h : CS s N Q hm W F) (a b c : Int32) (h1 : F.length < 4096) : CS (pAdd 13 a b c s) N Q hm W (F ++ [(a, b, c)]) := by
  obtain ⟨hN, ⟨a6, a7, a8⟩, h9, ⟨b0, b1, b2⟩, ⟨c0, c1, c2⟩⟩ := h
  unfold pAdd
  refine ⟨fun j hj => ?_, ⟨a6, a7, a8⟩, h9, ⟨b0, b1, b2⟩, ⟨?_, ?_, ?_⟩⟩
  · show va_up (va_up (va_up _ _ _) _ _) _ _ j = _
    rw [va_up_ne _ _ (by omega), va_up_ne _ _ (by omega), va_up_ne _ _ (by omega)]
    exact hN j hj
  · show rAdd (s.2 13) a = _
    rw [c0, rAdd_lt _ (by rw [List.length_map]; exact h1), List.map_append]; rfl
  · show rAdd (s.2 14) b = _
    rw [c1, rAdd_lt _ (by rw [List.length_map]; exact h1), List.map_append]; rfl
  · show rAdd (s.2 15) c = _
    rw [c2, rAdd_lt _ (by rw [List.length_map]; exact h1), List.map_append]; rfl
theorem CS.pAdd10 {s : TSt} {N : Nat → List Int32} {Q : List Pc} {hm : List Int32} {W F : List Pc} (h : CS s N Q hm W F) (a b c : Int32) (h1 : W.length < 4096) : CS (pAdd 10 a b c s) N Q hm (W ++ [(a, b, c)]) F := by
  obtain ⟨hN, ⟨a6, a7, a8⟩, h9, ⟨b0, b1, b2⟩, ⟨c0, c1, c2⟩⟩ := h
  unfold pAdd
  refine ⟨fun j hj => ?_, ⟨a6, a7, a8⟩, h9, ⟨?_, ?_, ?_⟩, ⟨c0, c1, c2⟩⟩
  · show va_up (va_up (va_up _ _ _) _ _) _ _ j = _
    rw [va_up_ne _ _ (by omega), va_up_ne _ _ (by omega), va_up_ne _ _ (by omega)]
    exact hN j hj
  · show rAdd (s.2 10) a = _
    rw [b0, rAdd_lt _ (by rw [List.length_map]; exact h1), List.map_append]; rfl
  · show rAdd (s.2 11) b = _
    rw [b1, rAdd_lt _ (by rw [List.length_map]; exact h1), List.map_append]; rfl
  · show rAdd (s.2 12) c = _
    rw [b2, rAdd_lt _ (by rw [List.length_map]; exact h1), List.map_append]; rfl
theorem CS.pSet10 {s : TSt} {N : Nat → List Int32} {Q : List Pc} {hm : List Int32} {W F : List Pc} (h : CS s N Q hm W F) (i : Nat) (a b c : Int32) (h1 : i < W.length) (h2 : W.length < 2 ^ 31) : CS (pSet 10 (nI i) a b c s) N Q hm (W.set i (a, b, c)) F := by
  obtain ⟨hN, ⟨a6, a7, a8⟩, h9, ⟨b0, b1, b2⟩, ⟨c0, c1, c2⟩⟩ := h
  unfold pSet
  refine ⟨fun j hj => ?_, ⟨a6, a7, a8⟩, h9, ⟨?_, ?_, ?_⟩, ⟨c0, c1, c2⟩⟩
  · show va_up (va_up (va_up _ _ _) _ _) _ _ j = _
    rw [va_up_ne _ _ (by omega), va_up_ne _ _ (by omega), va_up_ne _ _ (by omega)]
    exact hN j hj
  · show rSet (s.2 10) (nI i) a = _
    rw [b0, rSet_lt _ (by rw [List.length_map]; exact h1) (by rw [List.length_map]; exact h2), List.map_set]
  · show rSet (s.2 11) (nI i) b = _
    rw [b1, rSet_lt _ (by rw [List.length_map]; exact h1) (by rw [List.length_map]; exact h2), List.map_set]
  · show rSet (s.2 12) (nI i) c = _
    rw [b2, rSet_lt _ (by rw [List.length_map]; exact h1) (by rw [List.length_map]; exact h2), List.map_set]
theorem CS.pCut10 {s : TSt} {N : Nat → List Int32} {Q : List Pc} {hm : List Int32} {W F : List Pc} (h : CS s N Q hm W F) (i : Nat) (h1 : i ≤ W.length) (h2 : W.length < 2 ^ 31) : CS (pCut 10 (nI i) s) N Q hm (W.take i) F := by
  obtain ⟨hN, ⟨a6, a7, a8⟩, h9, ⟨b0, b1, b2⟩, ⟨c0, c1, c2⟩⟩ := h
  unfold pCut
  refine ⟨fun j hj => ?_, ⟨a6, a7, a8⟩, h9, ⟨?_, ?_, ?_⟩, ⟨c0, c1, c2⟩⟩
  · show va_up (va_up (va_up _ _ _) _ _) _ _ j = _
    rw [va_up_ne _ _ (by omega), va_up_ne _ _ (by omega), va_up_ne _ _ (by omega)]
    exact hN j hj
  · show rCut (s.2 10) (nI i) = _
    rw [b0, rCut_le (by rw [List.length_map]; exact h1) (by rw [List.length_map]; exact h2), List.map_take]
  · show rCut (s.2 11) (nI i) = _
    rw [b1, rCut_le (by rw [List.length_map]; exact h1) (by rw [List.length_map]; exact h2), List.map_take]
  · show rCut (s.2 12) (nI i) = _
    rw [b2, rCut_le (by rw [List.length_map]; exact h1) (by rw [List.length_map]; exact h2), List.map_take]
theorem CS.pCut13 {s : TSt} {N : Nat → List Int32} {Q : List Pc} {hm : List Int32} {W F : List Pc} (h : CS s N Q hm W F) (h2 : F.length < 2 ^ 31) : CS (pCut 13 0 s) N Q hm W [] := by
  obtain ⟨hN, ⟨a6, a7, a8⟩, h9, ⟨b0, b1, b2⟩, ⟨c0, c1, c2⟩⟩ := h
  unfold pCut
  refine ⟨fun j hj => ?_, ⟨a6, a7, a8⟩, h9, ⟨b0, b1, b2⟩, ⟨?_, ?_, ?_⟩⟩
  · show va_up (va_up (va_up _ _ _) _ _) _ _ j = _
    rw [va_up_ne _ _ (by omega), va_up_ne _ _ (by omega), va_up_ne _ _ (by omega)]
    exact hN j hj
  · show rCut (s.2 13) (nI 0) = _
    rw [c0, rCut_le (Nat.zero_le _) (by rw [List.length_map]; exact h2)]; rfl
  · show rCut (s.2 14) (nI 0) = _
    rw [c1, rCut_le (Nat.zero_le _) (by rw [List.length_map]; exact h2)]; rfl
  · show rCut (s.2 15) (nI 0) = _
    rw [c2, rCut_le (Nat.zero_le _) (by rw [List.length_map]; exact h2)]; rfl
theorem CS.oAdd6 {s : TSt} {N : Nat → List Int32} {Q : List Pc} {hm : List Int32} {W F : List Pc} (h : CS s N Q hm W F) (K : Nat) (v : Int32) (hK : K < 6) (h1 : (N K).length < 4096) : CS (oAdd K v s) (va_up N K (N K ++ [v])) Q hm W F := by
  obtain ⟨hN, ⟨a6, a7, a8⟩, h9, ⟨b0, b1, b2⟩, ⟨c0, c1, c2⟩⟩ := h
  have o : ∀ j, 6 ≤ j → (oAdd K v s).2 j = s.2 j := fun j hj => va_up_ne _ _ (by omega)
  refine ⟨fun j hj => ?_, ⟨(o _ (by decide)).trans a6, (o _ (by decide)).trans a7, (o _ (by decide)).trans a8⟩, (o _ (by decide)).trans h9, ⟨(o _ (by decide)).trans b0, (o _ (by decide)).trans b1, (o _ (by decide)).trans b2⟩, ⟨(o _ (by decide)).trans c0, (o _ (by decide)).trans c1, (o _ (by decide)).trans c2⟩⟩
  show va_up s.2 K (rAdd (s.2 K) v) j = _
  by_cases e : j = K
  · subst e
    rw [va_up_self, va_up_self, hN j hj, rAdd_lt _ h1]
  · rw [va_up_ne _ _ e, va_up_ne _ _ e]
    exact hN j hj
theorem CS.oSet6 {s : TSt} {N : Nat → List Int32} {Q : List Pc} {hm : List Int32} {W F : List Pc} (h : CS s N Q hm W F) (K i : Nat) (v : Int32) (hK : K < 6) (h1 : i < (N K).length) (h2 : (N K).length < 2 ^ 31) : CS (oSet K (nI i) v s) (va_up N K ((N K).set i v)) Q hm W F := by
  obtain ⟨hN, ⟨a6, a7, a8⟩, h9, ⟨b0, b1, b2⟩, ⟨c0, c1, c2⟩⟩ := h
  have o : ∀ j, 6 ≤ j → (oSet K (nI i) v s).2 j = s.2 j := fun j hj => va_up_ne _ _ (by omega)
  refine ⟨fun j hj => ?_, ⟨(o _ (by decide)).trans a6, (o _ (by decide)).trans a7, (o _ (by decide)).trans a8⟩, (o _ (by decide)).trans h9, ⟨(o _ (by decide)).trans b0, (o _ (by decide)).trans b1, (o _ (by decide)).trans b2⟩, ⟨(o _ (by decide)).trans c0, (o _ (by decide)).trans c1, (o _ (by decide)).trans c2⟩⟩
  show va_up s.2 K (rSet (s.2 K) (nI i) v) j = _
  by_cases e : j = K
  · subst e
    rw [va_up_self, va_up_self, hN j hj, rSet_lt _ h1 h2]
  · rw [va_up_ne _ _ e, va_up_ne _ _ e]
    exact hN j hj
