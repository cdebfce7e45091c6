theorem drop_cons {W T : List Pc} {j : Nat} {p : Pc} (h : W.drop j = p :: T) : W[j]? = some p ∧ W.drop (j + 1) = T := by
  constructor
  · have e : (W.drop j)[0]? = some p := by rw [h]; rfl
    rw [List.getElem?_drop] at e
    exact e
  · rw [← List.drop_drop, h]; rfl
theorem CS.rd {s : TSt} {N : Nat → List Int32} {Q : List Pc} {hm : List Int32} {W F : List Pc} (h : CS s N Q hm W F) (h2 : W.length < 2 ^ 31) {i : Nat} {p : Pc} (e : W[i]? = some p) : rAt (s.2 10) (nI i) = p.1 ∧ rAt (s.2 11) (nI i) = p.2.1 ∧ rAt (s.2 12) (nI i) = p.2.2 := by
  obtain ⟨b0, b1, b2⟩ := h.2.2.2.1
  exact ⟨by rw [b0]; exact rAt_map e h2, by rw [b1]; exact rAt_map e h2, by rw [b2]; exact rAt_map e h2⟩
theorem CS.lie {s : TSt} {N : Nat → List Int32} {Q : List Pc} {hm : List Int32} {W F : List Pc} (h : CS s N Q hm W F) (h2 : W.length < 2 ^ 31) {i : Nat} {p : Pc} (e : W[i]? = some p) (Wl : Nat → Option WV) (ln : Int32) : sT_whereLies s.2 Wl ln (nI i) = wh Wl ln p := by
  obtain ⟨r0, r1, r2⟩ := h.rd h2 e
  unfold sT_whereLies
  rw [r0, r1, r2]
  rfl
theorem csC {s : TSt} {N : Nat → List Int32} {Q : List Pc} {hm : List Int32} {W F : List Pc} (h : CS s N Q hm W F) (h2 : W.length < 2 ^ 31) (Wl : Nat → Option WV) (ln : Int32) : ∀ (T : List Pc) (j : Nat) (c b : Int32), W.drop j = T → sBlIn s.2 Wl ln T.length (nI j) c b = cs Wl ln T c b := by
  intro T
  induction T with
  | nil => intro j c b _; rfl
  | cons p T ih =>
    intro j c b e
    obtain ⟨e1, e2⟩ := drop_cons e
    have w := h.lie h2 e1 Wl ln
    show sBlIn s.2 Wl ln T.length (nI j + 1) _ _ = cs Wl ln T _ _
    rw [w, nI_1, ih (j + 1) _ _ e2]
theorem bsC {s : TSt} {N : Nat → List Int32} {Q : List Pc} {hm : List Int32} {B L F : List Pc} (h : CS s N Q hm (B ++ L) F) (h2 : (B ++ L).length < 2 ^ 31) (Wl : Nat → Option WV) : ∀ (n j : Nat) (T : List Pc) (be le : Int32), (B ++ L).drop j = T → n ≤ T.length → sBlOut s.2 Wl B.length n (nI j) be le = bs Wl L (T.take n) be le := by
  have hp : ∀ ln : Int32, sBlP (sBlIn s.2 Wl ln ((s.2 10).length - B.length) (nI B.length) 0 0) = pr Wl ln L := by
    intro ln
    have e : (s.2 10).length - B.length = L.length := by rw [h.2.2.2.1.1, List.length_map, List.length_append]; omega
    rw [e, csC h h2 Wl ln L B.length 0 0 (List.drop_left)]
    rfl
  intro n
  induction n with
  | zero => intro j T be le _ _; rfl
  | succ n ih =>
    intro j T be le e hn
    cases T with
    | nil => exact absurd hn (by simp)
    | cons p T =>
      obtain ⟨e1, e2⟩ := drop_cons e
      obtain ⟨r0, -, -⟩ := h.rd h2 e1
      have hn2 : n ≤ T.length := Nat.le_of_succ_le_succ hn
      unfold sBlOut
      rw [r0, hp, nI_1, ih (j + 1) T _ _ e2 hn2, ih (j + 1) T _ _ e2 hn2]
      rfl
theorem bstC {s : TSt} {N : Nat → List Int32} {Q : List Pc} {hm : List Int32} {B L F : List Pc} (h : CS s N Q hm (B ++ L) F) (h2 : (B ++ L).length < 2 ^ 31) (Wl : Nat → Option WV) : sT_bestLine s.2 Wl B.length = bst Wl L := by
  have e : (s.2 10).length - B.length = L.length := by rw [h.2.2.2.1.1, List.length_map, List.length_append]; omega
  unfold sT_bestLine bst
  rw [e]
  exact bsC h h2 Wl _ _ L _ _ (List.drop_left) (Nat.min_le_right _ _)
/-- the RIGHT list overwrites what has been read -/
theorem ts {α : Type} : ∀ (Y : List α) (r : Nat) (v : α), r < Y.length → (Y.set r v).take (r + 1) = Y.take r ++ [v] := by
  intro Y
  induction Y with
  | nil => intro r v h; exact absurd h (by simp)
  | cons y Y ih =>
    intro r v h
    cases r with
    | zero => rfl
    | succ r =>
      show y :: (Y.set r v).take (r + 1) = y :: (Y.take r ++ [v])
      rw [ih r v (Nat.lt_of_succ_lt_succ h)]
theorem setmid {α : Type} {B X T : List α} {p v : α} {r : Nat} (hr : r ≤ X.length) : (B ++ X ++ p :: T).set (B.length + r) v = B ++ (X ++ [p]).set r v ++ T := by
  have e : B ++ X ++ p :: T = B ++ ((X ++ [p]) ++ T) := by simp
  rw [e, List.set_append, if_neg (by omega), Nat.add_sub_cancel_left, List.set_append, if_pos (by rw [List.length_append]; exact Nat.lt_succ_of_le hr), List.append_assoc]
theorem settake {α : Type} {X : List α} {p v : α} {r : Nat} (hr : r ≤ X.length) : ((X ++ [p]).set r v).take (r + 1) = X.take r ++ [v] := by
  rw [ts _ _ _ (by rw [List.length_append]; exact Nat.lt_succ_of_le hr), List.take_append_of_le_length hr]
theorem mid1 {α : Type} {B X T : List α} {p : α} : B ++ X ++ p :: T = B ++ (X ++ [p]) ++ T := by simp
theorem dvStepC {Wl : Nat → Option WV} {ln k : Int32} {s : TSt} {N : Nat → List Int32} {Q : List Pc} {hm : List Int32} {B X T F : List Pc} {p : Pc} {r : Nat} (h : CS s N Q hm (B ++ X ++ p :: T) F) (hr : r ≤ X.length) (h2 : (B ++ X ++ p :: T).length < 2 ^ 31) (hF : F.length < 4096) (hQ : wh Wl ln p = 0 → Q.length < 4096) (hh : hm.length = Q.length) : ∃ X', X'.length = X.length + 1 ∧ X'.take (r + (rgP Wl ln p).length) = X.take r ++ rgP Wl ln p ∧ CS (dvStep Wl ln k s (nI (B.length + X.length)) (nI (B.length + r))).1 N (Q ++ onP Wl ln p) (hm ++ List.replicate (onP Wl ln p).length k) (B ++ X' ++ T) (F ++ lfP Wl ln p) ∧ (dvStep Wl ln k s (nI (B.length + X.length)) (nI (B.length + r))).2 = nI (B.length + (r + (rgP Wl ln p).length)) := by
  have e : (B ++ X ++ p :: T)[B.length + X.length]? = some p := by
    rw [← List.length_append, List.getElem?_append_right (Nat.le_refl _), Nat.sub_self]
    rfl
  obtain ⟨r0, r1, r2⟩ := h.rd h2 e
  have w := h.lie h2 e Wl ln
  have ef : sT_sideOfEnd s.2 Wl ln p.1 p.2.1 0 = eF Wl ln p := rfl
  have tk : (X ++ [p]).take r = X.take r := List.take_append_of_le_length hr
  have hs : B.length + r < (B ++ X ++ p :: T).length := by
    rw [List.length_append, List.length_append, List.length_cons]; omega
  have lx : ∀ v, ((X ++ [p]).set r v).length = X.length + 1 := fun v => by rw [List.length_set, List.length_append]; rfl
  have ly : (X ++ [p]).length = X.length + 1 := by rw [List.length_append]; rfl
  have e1 : nI (B.length + r) + 1 = nI (B.length + (r + 1)) := nI_1 _
  have pp : (p.1, p.2.1, p.2.2) = p := rfl
  unfold dvStep
  rw [w, r0, r1, r2, ef]
  unfold lfP rgP onP
  by_cases h0 : wh Wl ln p = 0
  · have a1 : wh Wl ln p &&& 1 = 0 := by rw [h0]; decide
    have a2 : wh Wl ln p &&& 2 = 0 := by rw [h0]; decide
    simp only [h0, a1, a2, if_true]
    refine ⟨X ++ [p], ly, ?_, ?_, rfl⟩
    · simpa using tk
    · rw [mid1] at h
      have := h.pAdd6 p.1 p.2.1 p.2.2 k (hQ h0) (by rw [hh]; exact hQ h0)
      simpa using this
  · by_cases h3 : wh Wl ln p = 3
    · have b0 : ¬ (3 : Int32) = 0 := by decide
      have b1 : ¬ (3 : Int32) &&& 1 = 0 := by decide
      have b2 : ¬ (3 : Int32) &&& 2 = 0 := by decide
      by_cases e5 : eF Wl ln p = 1
      · simp only [h3, b0, b1, b2, e5, if_true, if_false]
        have c1 := (h.pAdd13 p.1 p.2.1 ln hF).pSet10 (B.length + r) p.1 ln p.2.2 hs h2
        rw [setmid hr] at c1
        exact ⟨_, lx _, settake hr, by simpa using c1, e1⟩
      · simp only [h3, b0, b1, b2, e5, if_true, if_false]
        have c1 := (h.pAdd13 p.1 ln p.2.2 hF).pSet10 (B.length + r) p.1 p.2.1 ln hs h2
        rw [setmid hr] at c1
        exact ⟨_, lx _, settake hr, by simpa using c1, e1⟩
    · by_cases a1 : wh Wl ln p &&& 1 = 0
      · by_cases a2 : wh Wl ln p &&& 2 = 0
        · simp only [h0, h3, a1, a2, if_true, if_false]
          refine ⟨X ++ [p], ly, ?_, ?_, rfl⟩
          · simpa using tk
          · rw [mid1] at h
            simpa using h
        · simp only [h0, h3, a1, a2, if_true, if_false]
          have c1 := h.pSet10 (B.length + r) p.1 p.2.1 p.2.2 hs h2
          rw [setmid hr] at c1
          exact ⟨_, lx _, settake hr, by simpa using c1, e1⟩
      · by_cases a2 : wh Wl ln p &&& 2 = 0
        · simp only [h0, h3, a1, a2, if_true, if_false]
          refine ⟨X ++ [p], ly, ?_, ?_, rfl⟩
          · simpa using tk
          · rw [mid1] at h
            have := h.pAdd13 p.1 p.2.1 p.2.2 hF
            simpa using this
        · simp only [h0, h3, a1, a2, if_true, if_false]
          have c1 := (h.pAdd13 p.1 p.2.1 p.2.2 hF).pSet10 (B.length + r) p.1 p.2.1 p.2.2 hs h2
          rw [setmid hr] at c1
          exact ⟨_, lx _, settake hr, by simpa using c1, e1⟩
theorem dvLC {Wl : Nat → Option WV} {ln k : Int32} {N : Nat → List Int32} {B : List Pc} : ∀ (T X F Q : List Pc) (hm : List Int32) (s : TSt) (r : Nat), CS s N Q hm (B ++ X ++ T) F → r ≤ X.length → (B ++ X ++ T).length < 2 ^ 31 → F.length + T.length ≤ 4096 → Q.length + (onL Wl ln T).length ≤ 4096 → hm.length = Q.length → ∃ X', X'.length = X.length + T.length ∧ X'.take (r + (rgL Wl ln T).length) = X.take r ++ rgL Wl ln T ∧ CS (dvL Wl ln k T.length s (nI (B.length + X.length)) (nI (B.length + r))).1 N (Q ++ onL Wl ln T) (hm ++ List.replicate (onL Wl ln T).length k) (B ++ X') (F ++ lfL Wl ln T) ∧ (dvL Wl ln k T.length s (nI (B.length + X.length)) (nI (B.length + r))).2 = nI (B.length + (r + (rgL Wl ln T).length)) := by
  intro T
  induction T with
  | nil =>
    intro X F Q hm s r h hr h2 hF hQ hh
    refine ⟨X, rfl, ?_, ?_, rfl⟩
    · simp
    · show CS s N (Q ++ []) (hm ++ []) (B ++ X) (F ++ [])
      simpa using h
  | cons p T ih =>
    intro X F Q hm s r h hr h2 hF hQ hh
    rw [List.length_cons] at hF
    have ho : onL Wl ln (p :: T) = onP Wl ln p ++ onL Wl ln T := List.flatMap_cons
    have hlf : lfL Wl ln (p :: T) = lfP Wl ln p ++ lfL Wl ln T := List.flatMap_cons
    have hrg : rgL Wl ln (p :: T) = rgP Wl ln p ++ rgL Wl ln T := List.flatMap_cons
    rw [ho, List.length_append] at hQ
    obtain ⟨X1, l1, t1, c1, z1⟩ := dvStepC (k := k) h hr h2 (by omega) (by
      intro h0
      have : (onP Wl ln p).length = 1 := by unfold onP; rw [if_pos h0]; rfl
      omega) hh
    have g1 := lfP_le Wl ln p
    have g2 := rgP_le Wl ln p
    have len : (B ++ X1 ++ T).length = (B ++ X ++ p :: T).length := by
      simp only [List.length_append, List.length_cons, l1]; omega
    obtain ⟨X2, l2, t2, c2, z2⟩ := ih X1 _ _ _ _ (r + (rgP Wl ln p).length) c1 (by omega) (by rw [len]; exact h2) (by rw [List.length_append]; omega) (by rw [List.length_append]; omega) (by rw [List.length_append, List.length_append, List.length_replicate, hh])
    have ei : nI (B.length + X.length) + 1 = nI (B.length + X1.length) := by rw [l1]; exact nI_1 _
    refine ⟨X2, ?_, ?_, ?_, ?_⟩
    · rw [l2, l1, List.length_cons]; omega
    · rw [hrg, List.length_append, ← Nat.add_assoc, t2, t1, List.append_assoc]
    · show CS (dvL Wl ln k T.length (dvStep Wl ln k s _ _).1 (nI (B.length + X.length) + 1) (dvStep Wl ln k s _ _).2).1 _ _ _ _ _
      rw [ei, z1]
      rw [ho, hlf, List.length_append, ← List.replicate_append_replicate, ← List.append_assoc, ← List.append_assoc, ← List.append_assoc]
      exact c2
    · show (dvL Wl ln k T.length (dvStep Wl ln k s _ _).1 (nI (B.length + X.length) + 1) (dvStep Wl ln k s _ _).2).2 = _
      rw [ei, z1, z2, hrg, List.length_append, Nat.add_assoc]
theorem dvMC {N : Nat → List Int32} {Q : List Pc} {hm : List Int32} {F : List Pc} (h2 : F.length < 2 ^ 31) : ∀ (T W : List Pc) (s : TSt) (i : Nat), CS s N Q hm W F → F.drop i = T → W.length + T.length ≤ 4096 → CS (dvM T.length s (nI i)) N Q hm (W ++ T) F := by
  intro T
  induction T with
  | nil => intro W s i h _ _; rw [List.append_nil]; exact h
  | cons p T ih =>
    intro W s i h e hl
    rw [List.length_cons] at hl
    obtain ⟨e1, e2⟩ := drop_cons e
    obtain ⟨c0, c1, c2⟩ := h.2.2.2.2
    have q0 : rAt (s.2 13) (nI i) = p.1 := by rw [c0]; exact rAt_map e1 h2
    have q1 : rAt (s.2 14) (nI i) = p.2.1 := by rw [c1]; exact rAt_map e1 h2
    have q2 : rAt (s.2 15) (nI i) = p.2.2 := by rw [c2]; exact rAt_map e1 h2
    show CS (dvM T.length (pAdd 10 (rAt (s.2 13) (nI i)) (rAt (s.2 14) (nI i)) (rAt (s.2 15) (nI i)) s) (nI i + 1)) _ _ _ _ _
    rw [q0, q1, q2, nI_1]
    have c := ih _ _ (i + 1) (h.pAdd10 p.1 p.2.1 p.2.2 (by omega)) e2 (by rw [List.length_append]; simp only [List.length_cons, List.length_nil]; omega)
    rw [List.append_assoc] at c
    exact c
theorem divC {Wl : Nat → Option WV} {ln k : Int32} {N : Nat → List Int32} {B L F Q : List Pc} {hm : List Int32} {s : TSt} (h : CS s N Q hm (B ++ L) F) (hB : B.length + 2 * L.length ≤ 4096) (hF : F.length < 2 ^ 31) (hQ : Q.length + (onL Wl ln L).length ≤ 4096) (hh : hm.length = Q.length) : CS (sT_divide Wl B.length ln k s).1 N (Q ++ onL Wl ln L) (hm ++ List.replicate (onL Wl ln L).length k) (B ++ rgL Wl ln L ++ lfL Wl ln L) (lfL Wl ln L) ∧ (sT_divide Wl B.length ln k s).2 = nI (B.length + (rgL Wl ln L).length) := by
  have g1 : (lfL Wl ln L).length ≤ L.length := fm_le (lfP_le Wl ln) L
  have g2 : (rgL Wl ln L).length ≤ L.length := fm_le (rgP_le Wl ln) L
  have e : (s.2 10).length - B.length = L.length := by rw [h.2.2.2.1.1, List.length_map, List.length_append]; omega
  have h1 := h.pCut13 hF
  have ll : (B ++ L).length < 2 ^ 31 := by rw [List.length_append]; omega
  obtain ⟨X, l1, t1, c1, z1⟩ := dvLC (Wl := Wl) (ln := ln) (k := k) L [] [] Q hm (pCut 13 0 s) 0 (by rw [List.append_nil]; exact h1) (Nat.zero_le _) (by rw [List.append_nil]; exact ll) (by rw [List.length_nil]; omega) hQ hh
  simp only [List.length_nil, Nat.add_zero, Nat.zero_add, List.nil_append, List.take_nil] at l1 t1 c1 z1
  unfold sT_divide
  rw [e]
  generalize dvL Wl ln k L.length (pCut 13 0 s) (nI B.length) (nI B.length) = d at c1 z1 ⊢
  rw [z1]
  have el : (d.1.2 13).length = (lfL Wl ln L).length := by rw [c1.2.2.2.2.1, List.length_map]
  have c2 := c1.pCut10 (B.length + (rgL Wl ln L).length) (by rw [List.length_append, l1]; omega) (by rw [List.length_append, l1]; omega)
  have et : (B ++ X).take (B.length + (rgL Wl ln L).length) = B ++ rgL Wl ln L := by
    rw [List.take_append, List.take_of_length_le (by omega), Nat.add_sub_cancel_left, t1]
  rw [et] at c2
  refine ⟨?_, rfl⟩
  show CS (dvM (d.1.2 13).length _ (nI 0)) _ _ _ _ _
  rw [el]
  exact dvMC (by omega) _ _ _ 0 c2 rfl (by rw [List.length_append]; omega)
def tri : Nat → Nat
  | 0 => 0
  | D + 1 => tri D + (D + 1)
theorem set_at {α : Type} {A M : List α} {x v : α} {k : Nat} (h : A.length = k) : (A ++ x :: M).set k v = A ++ v :: M := by
  rw [List.set_append, if_neg (by omega), h, Nat.sub_self]
  rfl
theorem nI_subl (a b : Nat) : nI (a + b) - nI a = nI b := by
  rw [← nI_add, Int32.add_comm, Int32.add_sub_cancel]
theorem six {k : Nat} (h : k < 6) : k = 0 ∨ k = 1 ∨ k = 2 ∨ k = 3 ∨ k = 4 ∨ k = 5 := by omega
theorem newC {Wl : Nat → Option WV} {N : Nat → List Int32} {B L F Q : List Pc} {hm : List Int32} {s : TSt} (h : CS s N Q hm (B ++ L) F) (h2 : (B ++ L).length < 2 ^ 31) (hl : ∀ k, k < 6 → (N k).length = (N 0).length) (hn : (N 0).length < 4096) (dep : Int32) : CS (plNew Wl B.length dep s) (fun k => N k ++ [nf (bst Wl L) (-1) (-1) 1 dep (nI Q.length) k]) Q hm (B ++ L) F := by
  have eb := bstC h h2 Wl
  have eq : (s.2 6).length = Q.length := by rw [h.2.1.1, List.length_map]
  unfold plNew
  rw [eb, eq]
  have c0 := h.oAdd6 0 (bst Wl L) (by decide) hn
  have c1 := c0.oAdd6 4 dep (by decide) (by rw [va_up_ne _ _ (by decide), hl 4 (by decide)]; exact hn)
  have c2 := c1.oAdd6 5 (nI Q.length) (by decide) (by rw [va_up_ne _ _ (by decide), va_up_ne _ _ (by decide), hl 5 (by decide)]; exact hn)
  have c3 := c2.oAdd6 1 (-1) (by decide) (by rw [va_up_ne _ _ (by decide), va_up_ne _ _ (by decide), va_up_ne _ _ (by decide), hl 1 (by decide)]; exact hn)
  have c4 := c3.oAdd6 2 (-1) (by decide) (by rw [va_up_ne _ _ (by decide), va_up_ne _ _ (by decide), va_up_ne _ _ (by decide), va_up_ne _ _ (by decide), hl 2 (by decide)]; exact hn)
  have c5 := c4.oAdd6 3 1 (by decide) (by rw [va_up_ne _ _ (by decide), va_up_ne _ _ (by decide), va_up_ne _ _ (by decide), va_up_ne _ _ (by decide), va_up_ne _ _ (by decide), hl 3 (by decide)]; exact hn)
  refine c5.congr (fun k hk => ?_)
  rcases six hk with rfl | rfl | rfl | rfl | rfl | rfl <;> simp [va_up, nf]
/-- a parent's link to its tree, if the tree has a node -/
def lkN (L : List Pc) (pr sd v : Int32) (N : Nat → List Int32) : Nat → List Int32 := if L = [] then N else if sd = 1 then va_up N 1 (rSet (N 1) pr v) else va_up N 2 (rSet (N 2) pr v)
theorem lk_len (L : List Pc) (pr sd v : Int32) (N : Nat → List Int32) (k : Nat) : (lkN L pr sd v N k).length = (N k).length := by
  unfold lkN
  split
  · rfl
  · split
    · by_cases e : k = 1
      · subst e; rw [va_up_self, rSet_len]
      · rw [va_up_ne _ _ e]
    · by_cases e : k = 2
      · subst e; rw [va_up_self, rSet_len]
      · rw [va_up_ne _ _ e]
/-- a list's place among those that wait -/
def pd (L : List Pc) (v : Int32) : List Int32 := if L = [] then [] else [v]
theorem pd_nil (v : Int32) : pd [] v = [] := rfl
theorem pd_cons (p : Pc) (T : List Pc) (v : Int32) : pd (p :: T) v = [v] := rfl
theorem pd_len (L : List Pc) (u v : Int32) : (pd L u).length = (pd L v).length := by unfold pd; split <;> rfl
theorem pd_le (L : List Pc) (v : Int32) : (pd L v).length ≤ 1 := by unfold pd; split <;> simp
theorem CS.oSetR {s : TSt} {N : Nat → List Int32} {Q : List Pc} {hm : List Int32} {W F : List Pc} (h : CS s N Q hm W F) (K : Nat) (i v : Int32) (hK : K < 6) : CS (oSet K i v s) (va_up N K (rSet (N K) i v)) Q hm W F := by
  obtain ⟨hN, ⟨a6, a7, a8⟩, h9, ⟨b0, b1, b2⟩, ⟨c0, c1, c2⟩⟩ := h
  have o : ∀ j, 6 ≤ j → (oSet K i v s).2 j = s.2 j := fun j hj => va_up_ne _ _ (by omega)
  refine ⟨fun j hj => ?_, ⟨(o _ (by decide)).trans a6, (o _ (by decide)).trans a7, (o _ (by decide)).trans a8⟩, (o _ (by decide)).trans h9, ⟨(o _ (by decide)).trans b0, (o _ (by decide)).trans b1, (o _ (by decide)).trans b2⟩, ⟨(o _ (by decide)).trans c0, (o _ (by decide)).trans c1, (o _ (by decide)).trans c2⟩⟩
  show va_up s.2 K (rSet (s.2 K) i v) j = _
  by_cases e : j = K
  · subst e
    rw [va_up_self, va_up_self, hN j hj]
  · rw [va_up_ne _ _ e, va_up_ne _ _ e]
    exact hN j hj
theorem CS.up {s : TSt} {N : Nat → List Int32} {Q : List Pc} {hm : List Int32} {W F : List Pc} (h : CS s N Q hm W F) {s' : TSt} (e : ∀ k, k < 16 → s'.2 k = s.2 k) : CS s' N Q hm W F := by
  obtain ⟨hN, ⟨a6, a7, a8⟩, h9, ⟨b0, b1, b2⟩, ⟨c0, c1, c2⟩⟩ := h
  exact ⟨fun j hj => (e j (by omega)).trans (hN j hj), ⟨(e _ (by decide)).trans a6, (e _ (by decide)).trans a7, (e _ (by decide)).trans a8⟩, (e _ (by decide)).trans h9, ⟨(e _ (by decide)).trans b0, (e _ (by decide)).trans b1, (e _ (by decide)).trans b2⟩, ⟨(e _ (by decide)).trans c0, (e _ (by decide)).trans c1, (e _ (by decide)).trans c2⟩⟩
theorem awt_lo (a b c : Int32) (s : TSt) : ∀ k, k < 16 → (awt a b c s).2 k = s.2 k := by
  intro k hk
  show va_up (va_up (va_up s.2 16 _) 17 _) 18 _ k = _
  rw [va_up_ne _ _ (by omega), va_up_ne _ _ (by omega), va_up_ne _ _ (by omega)]
theorem pnCut_lo (t : Nat) (s : TSt) : ∀ k, k < 16 → (pnCut t s).2 k = (pnSet t s).2 k := by
  intro k hk
  show va_up (va_up (va_up (pnSet t s).2 16 _) 17 _) 18 _ k = _
  rw [va_up_ne _ _ (by omega), va_up_ne _ _ (by omega), va_up_ne _ _ (by omega)]
theorem rAt_end {A : List Int32} {v : Int32} {t : Nat} (h : A.length = t) (ht : t < 4096) : rAt (A ++ [v]) (nI t) = v := by
  have hl : (A ++ [v]).length = t + 1 := by rw [List.length_append, h]; rfl
  unfold rAt
  rw [if_neg (nI_pos (by omega)), hl, if_neg (nI_ge (by omega) (by omega)), nI_clamp (by omega), List.getD_eq_getElem?_getD, List.getElem?_append_right (by omega), h, Nat.sub_self]
  rfl
theorem rCut_end {A : List Int32} {v : Int32} {t : Nat} (h : A.length = t) (ht : t < 4096) : rCut (A ++ [v]) (nI t) = A := by
  rw [rCut_tk (by rw [List.length_append]; omega) (by rw [List.length_append]; simp only [List.length_cons, List.length_nil]; omega), ← h, List.take_append_of_le_length (Nat.le_refl _), List.take_length]
theorem pnDep_eq {R R' : Nat → List Int32} (Wl : Nat → Option WV) (pr : Int32) (h0 : (R 0).length = (R' 0).length) (h4 : R 4 = R' 4) : pnDep R Wl pr = pnDep R' Wl pr := by
  unfold pnDep sT_hasNode
  rw [h0, h4]
/-- one turn -/
theorem stepC {Wl : Nat → Option WV} {N : Nat → List Int32} {B F Q T : List Pc} {p : Pc} {hm : List Int32} {s : TSt} {t : Nat} {X Y Z : List Int32} {pr sd : Int32} (hC : CS s N Q hm (B ++ p :: T) F) (hl : ∀ k, k < 6 → (N k).length = (N 0).length) (hn : (N 0).length < 4096) (hh : hm.length = Q.length) (hQ : Q.length + (onL Wl (bst Wl (p :: T)) (p :: T)).length ≤ 4096) (hB : B.length + 2 * (p :: T).length ≤ 4096) (hF : F.length < 2 ^ 31) (ht : t + 1 < 4096) (hX : X.length = t) (hY : Y.length = t) (hZ : Z.length = t) (e16 : s.2 16 = X ++ [nI B.length]) (e17 : s.2 17 = Y ++ [pr]) (e18 : s.2 18 = Z ++ [sd]) (h : Int32) :
    CS (sPN Wl t B.length s h).1 (fun k => lkN (p :: T) pr sd (nI (N 0).length) N k ++ [nf (bst Wl (p :: T)) (-1) (-1) 1 (pnDep N Wl pr) (nI Q.length) k]) (Q ++ onL Wl (bst Wl (p :: T)) (p :: T)) (hm ++ List.replicate (onL Wl (bst Wl (p :: T)) (p :: T)).length (nI (N 0).length)) (B ++ rgL Wl (bst Wl (p :: T)) (p :: T) ++ lfL Wl (bst Wl (p :: T)) (p :: T)) (lfL Wl (bst Wl (p :: T)) (p :: T))
    ∧ (sPN Wl t B.length s h).1.2 16 = X ++ pd (rgL Wl (bst Wl (p :: T)) (p :: T)) (nI B.length) ++ pd (lfL Wl (bst Wl (p :: T)) (p :: T)) (nI (B.length + (rgL Wl (bst Wl (p :: T)) (p :: T)).length))
    ∧ (sPN Wl t B.length s h).1.2 17 = Y ++ pd (rgL Wl (bst Wl (p :: T)) (p :: T)) (nI (N 0).length) ++ pd (lfL Wl (bst Wl (p :: T)) (p :: T)) (nI (N 0).length)
    ∧ (sPN Wl t B.length s h).1.2 18 = Z ++ pd (rgL Wl (bst Wl (p :: T)) (p :: T)) 2 ++ pd (lfL Wl (bst Wl (p :: T)) (p :: T)) 1
    ∧ (sPN Wl t B.length s h).2 = plHI (pnDep N Wl pr) h := by
  have g1 : (lfL Wl (bst Wl (p :: T)) (p :: T)).length ≤ (p :: T).length := fm_le (lfP_le Wl _) _
  have g2 : (rgL Wl (bst Wl (p :: T)) (p :: T)).length ≤ (p :: T).length := fm_le (rgP_le Wl _) _
  have r17 : rAt (s.2 17) (nI t) = pr := by rw [e17]; exact rAt_end hY (by omega)
  have r18 : rAt (s.2 18) (nI t) = sd := by rw [e18]; exact rAt_end hZ (by omega)
  have e0 : (s.2 0).length = (N 0).length := by rw [hC.1 0 (by decide)]
  have c1 : CS (pnSet t s) (lkN (p :: T) pr sd (nI (N 0).length) N) Q hm (B ++ p :: T) F := by
    unfold pnSet lkN
    rw [r17, r18, e0, if_neg (List.cons_ne_nil p T)]
    split
    · exact hC.oSetR 1 pr _ (by decide)
    · exact hC.oSetR 2 pr _ (by decide)
  have c2 : CS (pnCut t s) (lkN (p :: T) pr sd (nI (N 0).length) N) Q hm (B ++ p :: T) F := c1.up (pnCut_lo t s)
  have l4 : lkN (p :: T) pr sd (nI (N 0).length) N 4 = N 4 := by
    unfold lkN
    rw [if_neg (List.cons_ne_nil p T)]
    split <;> rfl
  have ed : pnDep (pnCut t s).2 Wl pr = pnDep N Wl pr := pnDep_eq Wl pr (by rw [c2.1 0 (by decide), lk_len]) (by rw [c2.1 4 (by decide), l4])
  have hll : (B ++ p :: T).length < 2 ^ 31 := by rw [List.length_append]; omega
  have c3 := newC (Wl := Wl) c2 hll (fun k hk => by rw [lk_len, lk_len]; exact hl k hk) (by rw [lk_len]; exact hn) (pnDep N Wl pr)
  obtain ⟨c4, z4⟩ := divC (Wl := Wl) (ln := bst Wl (p :: T)) (k := nI (N 0).length) c3 hB hF hQ hh
  have eb := bstC c2 hll Wl
  have hd : pnDiv Wl t B.length s = sT_divide Wl B.length (bst Wl (p :: T)) (nI (N 0).length) (plNew Wl B.length (pnDep N Wl pr) (pnCut t s)) := by
    unfold pnDiv plDiv
    rw [r17, ed, eb, e0]
  have d3 := pnDiv_S3 Wl t B.length s
  rw [← hd] at c4 z4
  have q16 : (pnDiv Wl t B.length s).1.2 16 = X := (congrArg (fun x => x.1) d3).trans (by rw [e16]; exact rCut_end hX (by omega))
  have q17 : (pnDiv Wl t B.length s).1.2 17 = Y := (congrArg (fun x => x.2.1) d3).trans (by rw [e17]; exact rCut_end hY (by omega))
  have q18 : (pnDiv Wl t B.length s).1.2 18 = Z := (congrArg (fun x => x.2.2) d3).trans (by rw [e18]; exact rCut_end hZ (by omega))
  unfold sPN
  rw [r17, ed, e0]
  generalize pnDiv Wl t B.length s = d at c4 z4 q16 q17 q18 ⊢
  generalize hln : bst Wl (p :: T) = ln at *
  generalize hlf : lfL Wl ln (p :: T) = lf at *
  generalize hrg : rgL Wl ln (p :: T) = rg at *
  -- the RIGHT list
  have a5 : CS (pnR B.length (nI (N 0).length) d) (fun k => lkN (p :: T) pr sd (nI (N 0).length) N k ++ [nf ln (-1) (-1) 1 (pnDep N Wl pr) (nI Q.length) k]) (Q ++ onL Wl ln (p :: T)) (hm ++ List.replicate (onL Wl ln (p :: T)).length (nI (N 0).length)) (B ++ rg ++ lf) lf ∧ (pnR B.length (nI (N 0).length) d).2 16 = X ++ pd rg (nI B.length) ∧ (pnR B.length (nI (N 0).length) d).2 17 = Y ++ pd rg (nI (N 0).length) ∧ (pnR B.length (nI (N 0).length) d).2 18 = Z ++ pd rg 2 := by
    unfold pnR
    rw [z4]
    cases rg with
    | nil =>
      rw [if_pos (nI_le (by simp) (by omega))]
      exact ⟨c4, by rw [q16, pd_nil, List.append_nil], by rw [q17, pd_nil, List.append_nil], by rw [q18, pd_nil, List.append_nil]⟩
    | cons r R =>
      rw [if_neg (nI_ge (by rw [List.length_cons]; omega) (by omega))]
      refine ⟨c4.up (awt_lo _ _ _ _), ?_, ?_, ?_⟩
      · show rAdd (d.1.2 16) _ = _
        rw [q16, pd_cons, rAdd_lt _ (by omega)]
      · show rAdd (d.1.2 17) _ = _
        rw [q17, pd_cons, rAdd_lt _ (by omega)]
      · show rAdd (d.1.2 18) _ = _
        rw [q18, pd_cons, rAdd_lt _ (by omega)]
  obtain ⟨c5, q16, q17, q18⟩ := a5
  generalize pnR B.length (nI (N 0).length) d = s5 at c5 q16 q17 q18 ⊢
  have w5 : (s5.2 10).length = B.length + rg.length + lf.length := by rw [c5.2.2.2.1.1, List.length_map, List.length_append, List.length_append]
  have x1 := pd_le rg (nI B.length)
  have x2 := pd_le rg (nI (N 0).length)
  have x3 := pd_le rg 2
  show CS (pnL (nI (N 0).length) d.2 s5) _ _ _ _ _ ∧ (pnL (nI (N 0).length) d.2 s5).2 16 = _ ∧ (pnL (nI (N 0).length) d.2 s5).2 17 = _ ∧ (pnL (nI (N 0).length) d.2 s5).2 18 = _ ∧ _
  unfold pnL
  rw [z4, w5]
  cases lf with
  | nil =>
    rw [if_pos (nI_le (by simp) (by omega))]
    exact ⟨c5, by rw [q16, pd_nil, List.append_nil], by rw [q17, pd_nil, List.append_nil], by rw [q18, pd_nil, List.append_nil], rfl⟩
  | cons r R =>
    rw [if_neg (nI_ge (by rw [List.length_cons]; omega) (by omega))]
    refine ⟨c5.up (awt_lo _ _ _ _), ?_, ?_, ?_, rfl⟩
    · show rAdd (s5.2 16) _ = _
      rw [q16, pd_cons, rAdd_lt _ (by rw [List.length_append]; omega)]
    · show rAdd (s5.2 17) _ = _
      rw [q17, pd_cons, rAdd_lt _ (by rw [List.length_append]; omega)]
    · show rAdd (s5.2 18) _ = _
      rw [q18, pd_cons, rAdd_lt _ (by rw [List.length_append]; omega)]
theorem nN_nil (Wl : Nat → Option WV) (D : Nat) : nN Wl D [] = 0 := by cases D <;> rfl
theorem nN_pos (Wl : Nat → Option WV) {D : Nat} {L : List Pc} (h : L.length ≤ D) (hL : L ≠ []) : 0 < nN Wl D L := by
  cases L with
  | nil => exact absurd rfl hL
  | cons p T =>
    cases D with
    | zero => rw [List.length_cons] at h; omega
    | succ D => exact Nat.succ_pos _
/-- the link of the last node but M -/
theorem lk1 {N M : Nat → List Int32} {kk : Nat} {ln b c d q v : Int32} (hl : ∀ k, k < 6 → (N k).length = kk) (hk : kk + 1 + (M 1).length ≤ 4096) (L : List Pc) : ∀ k, k < 6 → lkN L (nI kk) 1 v (fun k => N k ++ nf ln (-1) b c d q k :: M k) k = N k ++ nf ln (if L = [] then -1 else v) b c d q k :: M k := by
  intro k hk6
  unfold lkN
  by_cases e : L = []
  · rw [if_pos e, if_pos e]
  · rw [if_neg e, if_neg e, if_pos rfl]
    have e1 := hl 1 (by decide)
    rcases six hk6 with rfl | rfl | rfl | rfl | rfl | rfl
    · rfl
    · rw [va_up_self, rSet_lt _ (by rw [List.length_append, List.length_cons]; omega) (by rw [List.length_append, List.length_cons]; omega)]
      exact set_at e1
    · rfl
    · rfl
    · rfl
    · rfl
theorem lk2 {N M : Nat → List Int32} {kk : Nat} {ln a c d q v : Int32} (hl : ∀ k, k < 6 → (N k).length = kk) (hk : kk + 1 + (M 2).length ≤ 4096) (L : List Pc) : ∀ k, k < 6 → lkN L (nI kk) 2 v (fun k => N k ++ nf ln a (-1) c d q k :: M k) k = N k ++ nf ln a (if L = [] then -1 else v) c d q k :: M k := by
  intro k hk6
  unfold lkN
  by_cases e : L = []
  · rw [if_pos e, if_pos e]
  · rw [if_neg e, if_neg e, if_neg (by decide)]
    have e1 := hl 2 (by decide)
    rcases six hk6 with rfl | rfl | rfl | rfl | rfl | rfl
    · rfl
    · rfl
    · rw [va_up_self, rSet_lt _ (by rw [List.length_append, List.length_cons]; omega) (by rw [List.length_append, List.length_cons]; omega)]
      exact set_at e1
    · rfl
    · rfl
    · rfl
/-- a node's fields before the sizes are counted -/
def ndG (k : Nat) (x : Nd) : Int32 := if k = 3 then 1 else ndF k x
theorem dep_of {N M : Nat → List Int32} {kk : Nat} {ln a b c q : Int32} {dep : Nat} (Wl : Nat → Option WV) (hl : ∀ k, k < 6 → (N k).length = kk) (hk : kk + 1 + (M 4).length ≤ 4096) (hk0 : kk + 1 + (M 0).length ≤ 4096) : pnDep (fun k => N k ++ nf ln a b c (nI dep) q k :: M k) Wl (nI kk) = nI (dep + 1) := by
  unfold pnDep sT_hasNode
  try dsimp only
  have e0 := hl 0 (by decide)
  have e4 := hl 4 (by decide)
  rw [if_neg (nI_pos (by omega)), List.length_append, List.length_cons, if_neg (nI_ge (by omega) (by omega)), if_neg (by decide)]
  unfold rAt
  rw [if_neg (nI_pos (by omega)), List.length_append, List.length_cons, if_neg (nI_ge (by omega) (by omega)), nI_clamp (by omega), List.getD_eq_getElem?_getD, List.getElem?_append_right (by omega), e4, Nat.sub_self]
  exact nI_1 dep
theorem plL (Wl : Nat → Option WV) : ∀ (D : Nat) (L B F Q : List Pc) (hm : List Int32) (N : Nat → List Int32) (s : TSt) (h : Int32) (l0 n t : Nat) (X Y Z : List Int32) (pr sd : Int32), D ≤ 64 → L.length ≤ D → B.length + tri D + D ≤ 4096 → (∀ k, k < 6 → (N k).length = (N 0).length) → (N 0).length + nN Wl D L ≤ 4096 → hm.length = Q.length → Q.length + (pcs Wl D L).length ≤ 4096 → F.length < 2 ^ 31 → t + D ≤ 4000 → X.length = t → Y.length = t → Z.length = t → (L ≠ [] → pnDep N Wl pr = nI (64 - D)) → CS s N Q hm (B ++ L) F → s.2 16 = X ++ pd L (nI B.length) → s.2 17 = Y ++ pd L pr → s.2 18 = Z ++ pd L sd →
    ∃ (s' : TSt) (F' : List Pc), sGL Wl (n + nN Wl D L) s h = sGL Wl n s' (hgt Wl D L h) ∧ F'.length < 2 ^ 31 ∧ CS s' (fun k => lkN L pr sd (nI (N 0).length) N k ++ (nds Wl D L (N 0).length Q.length l0).map (ndG k)) (Q ++ pcs Wl D L) (hm ++ hms Wl D L (N 0).length) B F' ∧ s'.2 16 = X ∧ s'.2 17 = Y ∧ s'.2 18 = Z := by
  intro D
  induction D with
  | zero =>
    intro L B F Q hm N s h l0 n t X Y Z pr sd hD hL hB hl hn hh hQ hF ht hX hY hZ hdp hC e16 e17 e18
    obtain rfl : L = [] := List.eq_nil_of_length_eq_zero (Nat.le_zero.1 hL)
    rw [List.append_nil] at hC
    rw [pd_nil, List.append_nil] at e16 e17 e18
    refine ⟨s, F, rfl, hF, ?_, e16, e17, e18⟩
    show CS s (fun k => N k ++ []) (Q ++ []) (hm ++ []) B F
    simp only [List.append_nil]
    exact hC
  | succ D ih =>
    intro L B F Q hm N s h l0 n t X Y Z pr sd hD hL hB hl hn hh hQ hF ht hX hY hZ hdp hC e16 e17 e18
    have htr : tri (D + 1) = tri D + (D + 1) := rfl
    cases L with
    | nil =>
      rw [List.append_nil] at hC
      rw [pd_nil, List.append_nil] at e16 e17 e18
      refine ⟨s, F, rfl, hF, ?_, e16, e17, e18⟩
      show CS s (fun k => N k ++ []) (Q ++ []) (hm ++ []) B F
      simp only [List.append_nil]
      exact hC
    | cons p T =>
      rw [pd_cons] at e16 e17 e18
      have hdp2 : pnDep N Wl pr = nI (63 - D) := by
        rw [hdp (by simp)]
        congr 1
        omega
      clear hdp
      have l1 := lf_lt Wl p T
      have l2 := rg_lt Wl p T
      have hL2 : T.length + 1 ≤ D + 1 := hL
      have hn2 : (N 0).length + (nN Wl D (lfL Wl (bst Wl (p :: T)) (p :: T)) + nN Wl D (rgL Wl (bst Wl (p :: T)) (p :: T)) + 1) ≤ 4096 := hn
      have hQ2 : Q.length + (onL Wl (bst Wl (p :: T)) (p :: T) ++ (pcs Wl D (lfL Wl (bst Wl (p :: T)) (p :: T)) ++ pcs Wl D (rgL Wl (bst Wl (p :: T)) (p :: T)))).length ≤ 4096 := hQ
      rw [List.length_append, List.length_append] at hQ2
      obtain ⟨c1, u16, u17, u18, u2⟩ := stepC (Wl := Wl) hC hl (by omega) hh (by omega) (by rw [List.length_cons]; omega) hF (by omega) hX hY hZ e16 e17 e18 h
      have len16 : (s.2 16).length = t + 1 := by rw [e16, List.length_append, hX]; rfl
      have eT : pnT s = t := by unfold pnT; rw [len16]; rfl
      have eF : pnF s = B.length := by
        unfold pnF
        rw [eT, e16, rAt_end hX (by omega), nI_clamp (by omega)]
      have gG : ∀ m, sGL Wl (m + 1) s h = sGL Wl m (sPN Wl t B.length s h).1 (sPN Wl t B.length s h).2 := by
        intro m
        show (if (s.2 16).length = 0 then _ else _) = _
        rw [if_neg (by rw [len16]; omega), eT, eF]
      have gN : nN Wl (D + 1) (p :: T) = nN Wl D (lfL Wl (bst Wl (p :: T)) (p :: T)) + nN Wl D (rgL Wl (bst Wl (p :: T)) (p :: T)) + 1 := rfl
      have gP : pcs Wl (D + 1) (p :: T) = onL Wl (bst Wl (p :: T)) (p :: T) ++ (pcs Wl D (lfL Wl (bst Wl (p :: T)) (p :: T)) ++ pcs Wl D (rgL Wl (bst Wl (p :: T)) (p :: T))) := rfl
      have gH : hgt Wl (D + 1) (p :: T) h = hgt Wl D (rgL Wl (bst Wl (p :: T)) (p :: T)) (hgt Wl D (lfL Wl (bst Wl (p :: T)) (p :: T)) (plH (63 - D) h)) := rfl
      have gM : hms Wl (D + 1) (p :: T) (N 0).length = List.replicate (onL Wl (bst Wl (p :: T)) (p :: T)).length (nI (N 0).length) ++ (hms Wl D (lfL Wl (bst Wl (p :: T)) (p :: T)) ((N 0).length + 1) ++ hms Wl D (rgL Wl (bst Wl (p :: T)) (p :: T)) ((N 0).length + (nN Wl D (lfL Wl (bst Wl (p :: T)) (p :: T)) + 1))) := rfl
      have gD : nds Wl (D + 1) (p :: T) (N 0).length Q.length l0 = (bst Wl (p :: T), 63 - D, Q.length, (onL Wl (bst Wl (p :: T)) (p :: T)).length, nN Wl D (lfL Wl (bst Wl (p :: T)) (p :: T)), nN Wl D (rgL Wl (bst Wl (p :: T)) (p :: T)), (N 0).length, l0) :: (nds Wl D (lfL Wl (bst Wl (p :: T)) (p :: T)) ((N 0).length + 1) (Q.length + (onL Wl (bst Wl (p :: T)) (p :: T)).length) l0 ++ nds Wl D (rgL Wl (bst Wl (p :: T)) (p :: T)) ((N 0).length + (nN Wl D (lfL Wl (bst Wl (p :: T)) (p :: T)) + 1)) (Q.length + (onL Wl (bst Wl (p :: T)) (p :: T)).length + (pcs Wl D (lfL Wl (bst Wl (p :: T)) (p :: T))).length) (l0 + (nN Wl D (lfL Wl (bst Wl (p :: T)) (p :: T)) + 1))) := rfl
      rw [gN, gP, gH, gM, gD]
      clear gN gP gH gM gD hn hQ
      rw [hdp2] at c1 u2
      generalize sPN Wl t B.length s h = s1 at c1 u16 u17 u18 u2 gG
      generalize bst Wl (p :: T) = ln at *
      generalize hlf : lfL Wl ln (p :: T) = lf at *
      generalize hrg : rgL Wl ln (p :: T) = rg at *
      generalize onL Wl ln (p :: T) = on at *
      generalize hN1 : lkN (p :: T) pr sd (nI (N 0).length) N = N1 at *
      have len1 : ∀ k, k < 6 → (N1 k).length = (N 0).length := fun k hk => by rw [← hN1, lk_len]; exact hl k hk
      have a1 : ∀ k, k < 6 → (N1 k ++ [nf ln (-1) (-1) 1 (nI (63 - D)) (nI Q.length) k]).length = (N 0).length + 1 := fun k hk => by rw [List.length_append, len1 k hk]; rfl
      have k1 : (N1 0 ++ [nf ln (-1) (-1) 1 (nI (63 - D)) (nI Q.length) 0]).length = (N 0).length + 1 := a1 0 (by decide)
      have rl := pd_le rg (nI B.length)
      obtain ⟨s2, F2, v1, v2, v3, v16, v17, v18⟩ := ih lf (B ++ rg) lf (Q ++ on) (hm ++ List.replicate on.length (nI (N 0).length)) (fun k => N1 k ++ [nf ln (-1) (-1) 1 (nI (63 - D)) (nI Q.length) k]) s1.1 (plH (63 - D) h) l0 (n + nN Wl D rg) (t + (pd rg (nI B.length)).length) (X ++ pd rg (nI B.length)) (Y ++ pd rg (nI (N 0).length)) (Z ++ pd rg 2) (nI (N 0).length) 1 (by omega) (by omega) (by rw [List.length_append]; omega) (fun k hk => (a1 k hk).trans k1.symm) (by rw [k1]; omega) (by rw [List.length_append, List.length_append, List.length_replicate, hh]) (by rw [List.length_append]; omega) (by omega) (by omega) (by rw [List.length_append, hX]) (by rw [List.length_append, hY, pd_len rg (nI (N 0).length) (nI B.length)]) (by rw [List.length_append, hZ, pd_len rg 2 (nI B.length)]) (fun _ => (dep_of (M := fun _ => []) Wl len1 (by simp only [List.length_nil]; omega) (by simp only [List.length_nil]; omega)).trans (by congr 1; omega)) c1 (by rw [List.length_append]; exact u16) u17 u18
      simp only [k1, List.length_append (as := Q)] at v3
      have m1 : ∀ k, ((nds Wl D lf ((N 0).length + 1) (Q.length + on.length) l0).map (ndG k)).length = nN Wl D lf := fun k => by rw [List.length_map, nds_len]
      have c3 : CS s2 (fun k => N1 k ++ nf ln (if lf = [] then -1 else nI ((N 0).length + 1)) (-1) 1 (nI (63 - D)) (nI Q.length) k :: (nds Wl D lf ((N 0).length + 1) (Q.length + on.length) l0).map (ndG k)) (Q ++ on ++ pcs Wl D lf) (hm ++ List.replicate on.length (nI (N 0).length) ++ hms Wl D lf ((N 0).length + 1)) (B ++ rg) F2 := by
        refine v3.congr (fun k hk => ?_)
        rw [lk1 (M := fun _ => []) (v := nI ((N 0).length + 1)) len1 (by simp only [List.length_nil]; omega) lf k hk, List.append_assoc]
        rfl
      have b1 : ∀ k, k < 6 → (N1 k ++ nf ln (if lf = [] then -1 else nI ((N 0).length + 1)) (-1) 1 (nI (63 - D)) (nI Q.length) k :: (nds Wl D lf ((N 0).length + 1) (Q.length + on.length) l0).map (ndG k)).length = (N 0).length + (nN Wl D lf + 1) := fun k hk => by rw [List.length_append, List.length_cons, m1, len1 k hk]
      have k2 := b1 0 (by decide)
      have k3 : (Q ++ on ++ pcs Wl D lf).length = Q.length + on.length + (pcs Wl D lf).length := by rw [List.length_append, List.length_append]
      obtain ⟨s3, F3, w1, w2, w3, w16, w17, w18⟩ := ih rg B F2 (Q ++ on ++ pcs Wl D lf) (hm ++ List.replicate on.length (nI (N 0).length) ++ hms Wl D lf ((N 0).length + 1)) (fun k => N1 k ++ nf ln (if lf = [] then -1 else nI ((N 0).length + 1)) (-1) 1 (nI (63 - D)) (nI Q.length) k :: (nds Wl D lf ((N 0).length + 1) (Q.length + on.length) l0).map (ndG k)) s2 (hgt Wl D lf (plH (63 - D) h)) (l0 + (nN Wl D lf + 1)) n t X Y Z (nI (N 0).length) 2 (by omega) (by omega) (by omega) (fun k hk => (b1 k hk).trans k2.symm) (by rw [k2]; omega) (by rw [k3, List.length_append, List.length_append, List.length_replicate, hms_len, hh]) (by rw [k3]; omega) v2 (by omega) hX hY hZ (fun _ => (dep_of Wl len1 (by rw [m1]; omega) (by rw [m1]; omega)).trans (by congr 1; omega)) c3 v16 v17 v18
      rw [k3] at w3
      simp only [k2] at w3
      have m2 : ∀ k, ((nds Wl D rg ((N 0).length + (nN Wl D lf + 1)) (Q.length + on.length + (pcs Wl D lf).length) (l0 + (nN Wl D lf + 1))).map (ndG k)).length = nN Wl D rg := fun k => by rw [List.length_map, nds_len]
      have p1 : (if lf = [] then (-1 : Int32) else nI ((N 0).length + 1)) = if nN Wl D lf = 0 then -1 else nI ((N 0).length + 1) := by
        by_cases e : lf = []
        · rw [if_pos e, if_pos (by rw [e]; exact nN_nil Wl D)]
        · rw [if_neg e, if_neg (by have := nN_pos Wl (show lf.length ≤ D by omega) e; omega)]
      have p2 : (if rg = [] then (-1 : Int32) else nI ((N 0).length + (nN Wl D lf + 1))) = if nN Wl D rg = 0 then -1 else nI ((N 0).length + (nN Wl D lf + 1)) := by
        by_cases e : rg = []
        · rw [if_pos e, if_pos (by rw [e]; exact nN_nil Wl D)]
        · rw [if_neg e, if_neg (by have := nN_pos Wl (show rg.length ≤ D by omega) e; omega)]
      refine ⟨s3, F3, ?_, w2, ?_, w16, w17, w18⟩
      · rw [show n + (nN Wl D lf + nN Wl D rg + 1) = (n + nN Wl D rg + nN Wl D lf) + 1 by omega, gG, show s1.2 = plH (63 - D) h from u2, v1, w1]
      · have eQ : Q ++ (on ++ (pcs Wl D lf ++ pcs Wl D rg)) = Q ++ on ++ pcs Wl D lf ++ pcs Wl D rg := by simp only [List.append_assoc]
        have eM : hm ++ (List.replicate on.length (nI (N 0).length) ++ (hms Wl D lf ((N 0).length + 1) ++ hms Wl D rg ((N 0).length + (nN Wl D lf + 1)))) = hm ++ List.replicate on.length (nI (N 0).length) ++ hms Wl D lf ((N 0).length + 1) ++ hms Wl D rg ((N 0).length + (nN Wl D lf + 1)) := by simp only [List.append_assoc]
        rw [eQ, eM]
        refine w3.congr (fun k hk => ?_)
        rw [lk2 (v := nI ((N 0).length + (nN Wl D lf + 1))) len1 (by rw [m1]; omega) rg k hk, List.map_cons, List.map_append, p1, p2, List.append_assoc, List.cons_append]
        have en : ndG k (ln, 63 - D, Q.length, on.length, nN Wl D lf, nN Wl D rg, (N 0).length, l0) = nf ln (if nN Wl D lf = 0 then -1 else nI ((N 0).length + 1)) (if nN Wl D rg = 0 then -1 else nI ((N 0).length + (nN Wl D lf + 1))) 1 (nI (63 - D)) (nI Q.length) k := by
          rcases six hk with rfl | rfl | rfl | rfl | rfl | rfl <;> rfl
        rw [en]
