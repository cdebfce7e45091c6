theorem drop_cons {W T : List Pc} {j : Nat} {p : Pc} (h : W.drop j = p :: T) : W[j]? = some p ∧ W.drop (j + 1) = T := by
  constructor
  · have e : (W.drop j)[0]? = some p := by rw [h]; rfl
    rw [List.getElem?_drop] at e
    exact e
  · rw [← List.drop_drop, h]; rfl
theorem CS.rd {s : TSt} {N : Nat → List Int32} {Q : List Pc} {hm : List Int32} {W F : List Pc} (h : CS s N Q hm W F) (h2 : W.length < 2 ^ 31) {i : Nat} {p : Pc} (e : W[i]? = some p) : rAt (s.2 10) (nI i) = p.1 ∧ rAt (s.2 11) (nI i) = p.2.1 ∧ rAt (s.2 12) (nI i) = p.2.2 := by
  obtain ⟨b0, b1, b2⟩ := h.2.2.2.1
  exact ⟨by rw [b0]; exact rAt_map e h2, by rw [b1]; exact rAt_map e h2, by rw [b2]; exact rAt_map e h2⟩
theorem CS.lie {s : TSt} {N : Nat → List Int32} {Q : List Pc} {hm : List Int32} {W F : List Pc} (h : CS s N Q hm W F) (h2 : W.length < 2 ^ 31) {i : Nat} {p : Pc} (e : W[i]? = some p) (Wl : Nat → Option WV) (ln : Int32) : sT_whereLies s.2 Wl ln (nI i) = wh Wl ln p := by
  obtain ⟨r0, r1, r2⟩ := h.rd h2 e
  unfold sT_whereLies
  rw [r0, r1, r2]
  rfl
theorem csC {s : TSt} {N : Nat → List Int32} {Q : List Pc} {hm : List Int32} {W F : List Pc} (h : CS s N Q hm W F) (h2 : W.length < 2 ^ 31) (Wl : Nat → Option WV) (ln : Int32) : ∀ (T : List Pc) (j : Nat) (c b : Int32), W.drop j = T → sBlIn s.2 Wl ln T.length (nI j) c b = cs Wl ln T c b := by
  intro T
  induction T with
  | nil => intro j c b _; rfl
  | cons p T ih =>
    intro j c b e
    obtain ⟨e1, e2⟩ := drop_cons e
    have w := h.lie h2 e1 Wl ln
    show sBlIn s.2 Wl ln T.length (nI j + 1) _ _ = cs Wl ln T _ _
    rw [w, nI_1, ih (j + 1) _ _ e2]
theorem bsC {s : TSt} {N : Nat → List Int32} {Q : List Pc} {hm : List Int32} {B L F : List Pc} (h : CS s N Q hm (B ++ L) F) (h2 : (B ++ L).length < 2 ^ 31) (Wl : Nat → Option WV) : ∀ (n j : Nat) (T : List Pc) (be le : Int32), (B ++ L).drop j = T → n ≤ T.length → sBlOut s.2 Wl B.length n (nI j) be le = bs Wl L (T.take n) be le := by
  have hp : ∀ ln : Int32, sBlP (sBlIn s.2 Wl ln ((s.2 10).length - B.length) (nI B.length) 0 0) = pr Wl ln L := by
    intro ln
    have e : (s.2 10).length - B.length = L.length := by rw [h.2.2.2.1.1, List.length_map, List.length_append]; omega
    rw [e, csC h h2 Wl ln L B.length 0 0 (List.drop_left)]
    rfl
  intro n
  induction n with
  | zero => intro j T be le _ _; rfl
  | succ n ih =>
    intro j T be le e hn
    cases T with
    | nil => exact absurd hn (by simp)
    | cons p T =>
      obtain ⟨e1, e2⟩ := drop_cons e
      obtain ⟨r0, -, -⟩ := h.rd h2 e1
      have hn2 : n ≤ T.length := Nat.le_of_succ_le_succ hn
      unfold sBlOut
      rw [r0, hp, nI_1, ih (j + 1) T _ _ e2 hn2, ih (j + 1) T _ _ e2 hn2]
      rfl
theorem bstC {s : TSt} {N : Nat → List Int32} {Q : List Pc} {hm : List Int32} {B L F : List Pc} (h : CS s N Q hm (B ++ L) F) (h2 : (B ++ L).length < 2 ^ 31) (Wl : Nat → Option WV) : sT_bestLine s.2 Wl B.length = bst Wl L := by
  have e : (s.2 10).length - B.length = L.length := by rw [h.2.2.2.1.1, List.length_map, List.length_append]; omega
  unfold sT_bestLine bst
  rw [e]
  exact bsC h h2 Wl _ _ L _ _ (List.drop_left) (Nat.min_le_right _ _)
/-- the RIGHT list overwrites what has been read -/
theorem ts {α : Type} : ∀ (Y : List α) (r : Nat) (v : α), r < Y.length → (Y.set r v).take (r + 1) = Y.take r ++ [v] := by
  intro Y
  induction Y with
  | nil => intro r v h; exact absurd h (by simp)
  | cons y Y ih =>
    intro r v h
    cases r with
    | zero => rfl
    | succ r =>
      show y :: (Y.set r v).take (r + 1) = y :: (Y.take r ++ [v])
      rw [ih r v (Nat.lt_of_succ_lt_succ h)]
theorem setmid {α : Type} {B X T : List α} {p v : α} {r : Nat} (hr : r ≤ X.length) : (B ++ X ++ p :: T).set (B.length + r) v = B ++ (X ++ [p]).set r v ++ T := by
  have e : B ++ X ++ p :: T = B ++ ((X ++ [p]) ++ T) := by simp
  rw [e, List.set_append, if_neg (by omega), Nat.add_sub_cancel_left, List.set_append, if_pos (by rw [List.length_append]; exact Nat.lt_succ_of_le hr), List.append_assoc]
theorem settake {α : Type} {X : List α} {p v : α} {r : Nat} (hr : r ≤ X.length) : ((X ++ [p]).set r v).take (r + 1) = X.take r ++ [v] := by
  rw [ts _ _ _ (by rw [List.length_append]; exact Nat.lt_succ_of_le hr), List.take_append_of_le_length hr]
theorem mid1 {α : Type} {B X T : List α} {p : α} : B ++ X ++ p :: T = B ++ (X ++ [p]) ++ T := by simp
theorem dvStepC {Wl : Nat → Option WV} {ln k : Int32} {s : TSt} {N : Nat → List Int32} {Q : List Pc} {hm : List Int32} {B X T F : List Pc} {p : Pc} {r : Nat} (h : CS s N Q hm (B ++ X ++ p :: T) F) (hr : r ≤ X.length) (h2 : (B ++ X ++ p :: T).length < 2 ^ 31) (hF : F.length < 4096) (hQ : wh Wl ln p = 0 → Q.length < 4096) (hh : hm.length = Q.length) : ∃ X', X'.length = X.length + 1 ∧ X'.take (r + (rgP Wl ln p).length) = X.take r ++ rgP Wl ln p ∧ CS (dvStep Wl ln k s (nI (B.length + X.length)) (nI (B.length + r))).1 N (Q ++ onP Wl ln p) (hm ++ List.replicate (onP Wl ln p).length k) (B ++ X' ++ T) (F ++ lfP Wl ln p) ∧ (dvStep Wl ln k s (nI (B.length + X.length)) (nI (B.length + r))).2 = nI (B.length + (r + (rgP Wl ln p).length)) := by
  have e : (B ++ X ++ p :: T)[B.length + X.length]? = some p := by
    rw [← List.length_append, List.getElem?_append_right (Nat.le_refl _), Nat.sub_self]
    rfl
  obtain ⟨r0, r1, r2⟩ := h.rd h2 e
  have w := h.lie h2 e Wl ln
  have ef : sT_sideOfEnd s.2 Wl ln p.1 p.2.1 0 = eF Wl ln p := rfl
  have tk : (X ++ [p]).take r = X.take r := List.take_append_of_le_length hr
  have hs : B.length + r < (B ++ X ++ p :: T).length := by
    rw [List.length_append, List.length_append, List.length_cons]; omega
  have lx : ∀ v, ((X ++ [p]).set r v).length = X.length + 1 := fun v => by rw [List.length_set, List.length_append]; rfl
  have ly : (X ++ [p]).length = X.length + 1 := by rw [List.length_append]; rfl
  have e1 : nI (B.length + r) + 1 = nI (B.length + (r + 1)) := nI_1 _
  have pp : (p.1, p.2.1, p.2.2) = p := rfl
  unfold dvStep
  rw [w, r0, r1, r2, ef]
  unfold lfP rgP onP
  by_cases h0 : wh Wl ln p = 0
  · have a1 : wh Wl ln p &&& 1 = 0 := by rw [h0]; decide
    have a2 : wh Wl ln p &&& 2 = 0 := by rw [h0]; decide
    simp only [h0, a1, a2, if_true]
    refine ⟨X ++ [p], ly, ?_, ?_, rfl⟩
    · simpa using tk
    · rw [mid1] at h
      have := h.pAdd6 p.1 p.2.1 p.2.2 k (hQ h0) (by rw [hh]; exact hQ h0)
      simpa using this
  · by_cases h3 : wh Wl ln p = 3
    · have b0 : ¬ (3 : Int32) = 0 := by decide
      have b1 : ¬ (3 : Int32) &&& 1 = 0 := by decide
      have b2 : ¬ (3 : Int32) &&& 2 = 0 := by decide
      by_cases e5 : eF Wl ln p = 1
      · simp only [h3, b0, b1, b2, e5, if_true, if_false]
        have c1 := (h.pAdd13 p.1 p.2.1 ln hF).pSet10 (B.length + r) p.1 ln p.2.2 hs h2
        rw [setmid hr] at c1
        exact ⟨_, lx _, settake hr, by simpa using c1, e1⟩
      · simp only [h3, b0, b1, b2, e5, if_true, if_false]
        have c1 := (h.pAdd13 p.1 ln p.2.2 hF).pSet10 (B.length + r) p.1 p.2.1 ln hs h2
        rw [setmid hr] at c1
        exact ⟨_, lx _, settake hr, by simpa using c1, e1⟩
    · by_cases a1 : wh Wl ln p &&& 1 = 0
      · by_cases a2 : wh Wl ln p &&& 2 = 0
        · simp only [h0, h3, a1, a2, if_true, if_false]
          refine ⟨X ++ [p], ly, ?_, ?_, rfl⟩
          · simpa using tk
          · rw [mid1] at h
            simpa using h
        · simp only [h0, h3, a1, a2, if_true, if_false]
          have c1 := h.pSet10 (B.length + r) p.1 p.2.1 p.2.2 hs h2
          rw [setmid hr] at c1
          exact ⟨_, lx _, settake hr, by simpa using c1, e1⟩
      · by_cases a2 : wh Wl ln p &&& 2 = 0
        · simp only [h0, h3, a1, a2, if_true, if_false]
          refine ⟨X ++ [p], ly, ?_, ?_, rfl⟩
          · simpa using tk
          · rw [mid1] at h
            have := h.pAdd13 p.1 p.2.1 p.2.2 hF
            simpa using this
        · simp only [h0, h3, a1, a2, if_true, if_false]
          have c1 := (h.pAdd13 p.1 p.2.1 p.2.2 hF).pSet10 (B.length + r) p.1 p.2.1 p.2.2 hs h2
          rw [setmid hr] at c1
          exact ⟨_, lx _, settake hr, by simpa using c1, e1⟩
theorem dvLC {Wl : Nat → Option WV} {ln k : Int32} {N : Nat → List Int32} {B : List Pc} : ∀ (T X F Q : List Pc) (hm : List Int32) (s : TSt) (r : Nat), CS s N Q hm (B ++ X ++ T) F → r ≤ X.length → (B ++ X ++ T).length < 2 ^ 31 → F.length + T.length ≤ 4096 → Q.length + (onL Wl ln T).length ≤ 4096 → hm.length = Q.length → ∃ X', X'.length = X.length + T.length ∧ X'.take (r + (rgL Wl ln T).length) = X.take r ++ rgL Wl ln T ∧ CS (dvL Wl ln k T.length s (nI (B.length + X.length)) (nI (B.length + r))).1 N (Q ++ onL Wl ln T) (hm ++ List.replicate (onL Wl ln T).length k) (B ++ X') (F ++ lfL Wl ln T) ∧ (dvL Wl ln k T.length s (nI (B.length + X.length)) (nI (B.length + r))).2 = nI (B.length + (r + (rgL Wl ln T).length)) := by
  intro T
  induction T with
  | nil =>
    intro X F Q hm s r h hr h2 hF hQ hh
    refine ⟨X, rfl, ?_, ?_, rfl⟩
    · simp
    · show CS s N (Q ++ []) (hm ++ []) (B ++ X) (F ++ [])
      simpa using h
  | cons p T ih =>
    intro X F Q hm s r h hr h2 hF hQ hh
    rw [List.length_cons] at hF
    have ho : onL Wl ln (p :: T) = onP Wl ln p ++ onL Wl ln T := List.flatMap_cons
    have hlf : lfL Wl ln (p :: T) = lfP Wl ln p ++ lfL Wl ln T := List.flatMap_cons
    have hrg : rgL Wl ln (p :: T) = rgP Wl ln p ++ rgL Wl ln T := List.flatMap_cons
    rw [ho, List.length_append] at hQ
    obtain ⟨X1, l1, t1, c1, z1⟩ := dvStepC (k := k) h hr h2 (by omega) (by
      intro h0
      have : (onP Wl ln p).length = 1 := by unfold onP; rw [if_pos h0]; rfl
      omega) hh
    have g1 := lfP_le Wl ln p
    have g2 := rgP_le Wl ln p
    have len : (B ++ X1 ++ T).length = (B ++ X ++ p :: T).length := by
      simp only [List.length_append, List.length_cons, l1]; omega
    obtain ⟨X2, l2, t2, c2, z2⟩ := ih X1 _ _ _ _ (r + (rgP Wl ln p).length) c1 (by omega) (by rw [len]; exact h2) (by rw [List.length_append]; omega) (by rw [List.length_append]; omega) (by rw [List.length_append, List.length_append, List.length_replicate, hh])
    have ei : nI (B.length + X.length) + 1 = nI (B.length + X1.length) := by rw [l1]; exact nI_1 _
    refine ⟨X2, ?_, ?_, ?_, ?_⟩
    · rw [l2, l1, List.length_cons]; omega
    · rw [hrg, List.length_append, ← Nat.add_assoc, t2, t1, List.append_assoc]
    · show CS (dvL Wl ln k T.length (dvStep Wl ln k s _ _).1 (nI (B.length + X.length) + 1) (dvStep Wl ln k s _ _).2).1 _ _ _ _ _
      rw [ei, z1]
      rw [ho, hlf, List.length_append, ← List.replicate_append_replicate, ← List.append_assoc, ← List.append_assoc, ← List.append_assoc]
      exact c2
    · show (dvL Wl ln k T.length (dvStep Wl ln k s _ _).1 (nI (B.length + X.length) + 1) (dvStep Wl ln k s _ _).2).2 = _
      rw [ei, z1, z2, hrg, List.length_append, Nat.add_assoc]
theorem dvMC {N : Nat → List Int32} {Q : List Pc} {hm : List Int32} {F : List Pc} (h2 : F.length < 2 ^ 31) : ∀ (T W : List Pc) (s : TSt) (i : Nat), CS s N Q hm W F → F.drop i = T → W.length + T.length ≤ 4096 → CS (dvM T.length s (nI i)) N Q hm (W ++ T) F := by
  intro T
  induction T with
  | nil => intro W s i h _ _; rw [List.append_nil]; exact h
  | cons p T ih =>
    intro W s i h e hl
    rw [List.length_cons] at hl
    obtain ⟨e1, e2⟩ := drop_cons e
    obtain ⟨c0, c1, c2⟩ := h.2.2.2.2
    have q0 : rAt (s.2 13) (nI i) = p.1 := by rw [c0]; exact rAt_map e1 h2
    have q1 : rAt (s.2 14) (nI i) = p.2.1 := by rw [c1]; exact rAt_map e1 h2
    have q2 : rAt (s.2 15) (nI i) = p.2.2 := by rw [c2]; exact rAt_map e1 h2
    show CS (dvM T.length (pAdd 10 (rAt (s.2 13) (nI i)) (rAt (s.2 14) (nI i)) (rAt (s.2 15) (nI i)) s) (nI i + 1)) _ _ _ _ _
    rw [q0, q1, q2, nI_1]
    have c := ih _ _ (i + 1) (h.pAdd10 p.1 p.2.1 p.2.2 (by omega)) e2 (by rw [List.length_append]; simp only [List.length_cons, List.length_nil]; omega)
    rw [List.append_assoc] at c
    exact c
theorem divC {Wl : Nat → Option WV} {ln k : Int32} {N : Nat → List Int32} {B L F Q : List Pc} {hm : List Int32} {s : TSt} (h : CS s N Q hm (B ++ L) F) (hB : B.length + 2 * L.length ≤ 4096) (hF : F.length < 2 ^ 31) (hQ : Q.length + (onL Wl ln L).length ≤ 4096) (hh : hm.length = Q.length) : CS (sT_divide Wl B.length ln k s).1 N (Q ++ onL Wl ln L) (hm ++ List.replicate (onL Wl ln L).length k) (B ++ rgL Wl ln L ++ lfL Wl ln L) (lfL Wl ln L) ∧ (sT_divide Wl B.length ln k s).2 = nI (B.length + (rgL Wl ln L).length) := by
  have g1 : (lfL Wl ln L).length ≤ L.length := fm_le (lfP_le Wl ln) L
  have g2 : (rgL Wl ln L).length ≤ L.length := fm_le (rgP_le Wl ln) L
  have e : (s.2 10).length - B.length = L.length := by rw [h.2.2.2.1.1, List.length_map, List.length_append]; omega
  have h1 := h.pCut13 hF
  have ll : (B ++ L).length < 2 ^ 31 := by rw [List.length_append]; omega
  obtain ⟨X, l1, t1, c1, z1⟩ := dvLC (Wl := Wl) (ln := ln) (k := k) L [] [] Q hm (pCut 13 0 s) 0 (by rw [List.append_nil]; exact h1) (Nat.zero_le _) (by rw [List.append_nil]; exact ll) (by rw [List.length_nil]; omega) hQ hh
  simp only [List.length_nil, Nat.add_zero, Nat.zero_add, List.nil_append, List.take_nil] at l1 t1 c1 z1
  unfold sT_divide
  rw [e]
  generalize dvL Wl ln k L.length (pCut 13 0 s) (nI B.length) (nI B.length) = d at c1 z1 ⊢
  rw [z1]
  have el : (d.1.2 13).length = (lfL Wl ln L).length := by rw [c1.2.2.2.2.1, List.length_map]
  have c2 := c1.pCut10 (B.length + (rgL Wl ln L).length) (by rw [List.length_append, l1]; omega) (by rw [List.length_append, l1]; omega)
  have et : (B ++ X).take (B.length + (rgL Wl ln L).length) = B ++ rgL Wl ln L := by
    rw [List.take_append, List.take_of_length_le (by omega), Nat.add_sub_cancel_left, t1]
  rw [et] at c2
  refine ⟨?_, rfl⟩
  show CS (dvM (d.1.2 13).length _ (nI 0)) _ _ _ _ _
  rw [el]
  exact dvMC (by omega) _ _ _ 0 c2 rfl (by rw [List.length_append]; omega)
def tri : Nat → Nat
  | 0 => 0
  | D + 1 => tri D + (D + 1)
theorem set_at {α : Type} {A M : List α} {x v : α} {k : Nat} (h : A.length = k) : (A ++ x :: M).set k v = A ++ v :: M := by
  rw [List.set_append, if_neg (by omega), h, Nat.sub_self]
  rfl
theorem nI_subl (a b : Nat) : nI (a + b) - nI a = nI b := by
  rw [← nI_add, Int32.add_comm, Int32.add_sub_cancel]
theorem six {k : Nat} (h : k < 6) : k = 0 ∨ k = 1 ∨ k = 2 ∨ k = 3 ∨ k = 4 ∨ k = 5 := by omega
theorem newC {Wl : Nat → Option WV} {N : Nat → List Int32} {B L F Q : List Pc} {hm : List Int32} {s : TSt} (h : CS s N Q hm (B ++ L) F) (h2 : (B ++ L).length < 2 ^ 31) (hl : ∀ k, k < 6 → (N k).length = (N 0).length) (hn : (N 0).length < 4096) (dep : Nat) : CS (plNew Wl B.length dep s) (fun k => N k ++ [nf (bst Wl L) (-1) (-1) 0 (nI dep) (nI Q.length) k]) Q hm (B ++ L) F := by
  have eb := bstC h h2 Wl
  have eq : (s.2 6).length = Q.length := by rw [h.2.1.1, List.length_map]
  unfold plNew
  rw [eb, eq]
  have c0 := h.oAdd6 0 (bst Wl L) (by decide) hn
  have c1 := c0.oAdd6 4 (nI dep) (by decide) (by rw [va_up_ne _ _ (by decide), hl 4 (by decide)]; exact hn)
  have c2 := c1.oAdd6 5 (nI Q.length) (by decide) (by rw [va_up_ne _ _ (by decide), va_up_ne _ _ (by decide), hl 5 (by decide)]; exact hn)
  have c3 := c2.oAdd6 1 (-1) (by decide) (by rw [va_up_ne _ _ (by decide), va_up_ne _ _ (by decide), va_up_ne _ _ (by decide), hl 1 (by decide)]; exact hn)
  have c4 := c3.oAdd6 2 (-1) (by decide) (by rw [va_up_ne _ _ (by decide), va_up_ne _ _ (by decide), va_up_ne _ _ (by decide), va_up_ne _ _ (by decide), hl 2 (by decide)]; exact hn)
  have c5 := c4.oAdd6 3 0 (by decide) (by rw [va_up_ne _ _ (by decide), va_up_ne _ _ (by decide), va_up_ne _ _ (by decide), va_up_ne _ _ (by decide), va_up_ne _ _ (by decide), hl 3 (by decide)]; exact hn)
  refine c5.congr (fun k hk => ?_)
  rcases six hk with rfl | rfl | rfl | rfl | rfl | rfl <;> simp [va_up, nf]
theorem plC (Wl : Nat → Option WV) : ∀ (D : Nat) (L B F Q : List Pc) (hm : List Int32) (N : Nat → List Int32) (s : TSt) (h : Int32) (l0 : Nat), D ≤ 64 → L.length ≤ D → B.length + tri D + D ≤ 4096 → (∀ k, k < 6 → (N k).length = (N 0).length) → (N 0).length + nN Wl D L ≤ 4096 → hm.length = Q.length → Q.length + (pcs Wl D L).length ≤ 4096 → F.length < 2 ^ 31 → CS s N Q hm (B ++ L) F → (∃ F', F'.length < 2 ^ 31 ∧ CS (sPl Wl D B.length s h).1 (fun k => N k ++ (nds Wl D L (N 0).length Q.length l0).map (ndF k)) (Q ++ pcs Wl D L) (hm ++ hms Wl D L (N 0).length) B F') ∧ (sPl Wl D B.length s h).2.1 = hgt Wl D L h ∧ (sPl Wl D B.length s h).2.2 = if nN Wl D L = 0 then -1 else nI (N 0).length := by
  intro D
  induction D with
  | zero =>
    intro L B F Q hm N s h l0 hD hL hB hl hn hh hQ hF hC
    obtain rfl : L = [] := List.eq_nil_of_length_eq_zero (Nat.le_zero.1 hL)
    rw [List.append_nil] at hC
    have c := hC.pCut10 B.length (Nat.le_refl _) (by omega)
    rw [List.take_length] at c
    refine ⟨⟨F, hF, ?_⟩, rfl, rfl⟩
    show CS (pCut 10 (nI B.length) s) (fun k => N k ++ []) (Q ++ []) (hm ++ []) B F
    simp only [List.append_nil]
    exact c
  | succ D ih =>
    intro L B F Q hm N s h l0 hD hL hB hl hn hh hQ hF hC
    have ht : tri (D + 1) = tri D + (D + 1) := rfl
    cases L with
    | nil =>
      rw [List.append_nil] at hC
      have c := hC.pCut10 B.length (Nat.le_refl _) (by omega)
      rw [List.take_length] at c
      have e : (s.2 10).length ≤ B.length := by rw [hC.2.2.2.1.1, List.length_map]; exact Nat.le_refl _
      unfold sPl
      rw [if_pos e]
      refine ⟨⟨F, hF, ?_⟩, rfl, rfl⟩
      show CS (pCut 10 (nI B.length) s) (fun k => N k ++ []) (Q ++ []) (hm ++ []) B F
      simp only [List.append_nil]
      exact c
    | cons p T =>
      have e : ¬ (s.2 10).length ≤ B.length := by
        rw [hC.2.2.2.1.1, List.length_map, List.length_append, List.length_cons]; omega
      have l1 := lf_lt Wl p T
      have l2 := rg_lt Wl p T
      have hL2 : T.length + 1 ≤ D + 1 := hL
      have hll : (B ++ p :: T).length < 2 ^ 31 := by rw [List.length_append, List.length_cons]; omega
      have eb := bstC hC hll Wl
      have e0 : (s.2 0).length = (N 0).length := by rw [hC.1 0 (by decide)]
      have hn2 : (N 0).length + (nN Wl D (lfL Wl (bst Wl (p :: T)) (p :: T)) + nN Wl D (rgL Wl (bst Wl (p :: T)) (p :: T)) + 1) ≤ 4096 := hn
      have hQ2 : Q.length + (onL Wl (bst Wl (p :: T)) (p :: T) ++ (pcs Wl D (lfL Wl (bst Wl (p :: T)) (p :: T)) ++ pcs Wl D (rgL Wl (bst Wl (p :: T)) (p :: T)))).length ≤ 4096 := hQ
      rw [List.length_append, List.length_append] at hQ2
      have cN := newC (Wl := Wl) hC hll hl (by omega) (63 - D)
      have hd : plDiv Wl B.length (63 - D) s = sT_divide Wl B.length (bst Wl (p :: T)) (nI (N 0).length) (plNew Wl B.length (63 - D) s) := by
        unfold plDiv
        rw [eb, e0]
      obtain ⟨cD, zD⟩ := divC (Wl := Wl) (ln := bst Wl (p :: T)) (k := nI (N 0).length) cN (by rw [List.length_cons]; omega) hF (by omega) hh
      unfold sPl
      rw [if_neg e, hd, e0]
      have gN : nN Wl (D + 1) (p :: T) = nN Wl D (lfL Wl (bst Wl (p :: T)) (p :: T)) + nN Wl D (rgL Wl (bst Wl (p :: T)) (p :: T)) + 1 := rfl
      have gP : pcs Wl (D + 1) (p :: T) = onL Wl (bst Wl (p :: T)) (p :: T) ++ (pcs Wl D (lfL Wl (bst Wl (p :: T)) (p :: T)) ++ pcs Wl D (rgL Wl (bst Wl (p :: T)) (p :: T))) := rfl
      have gH : hgt Wl (D + 1) (p :: T) h = hgt Wl D (rgL Wl (bst Wl (p :: T)) (p :: T)) (hgt Wl D (lfL Wl (bst Wl (p :: T)) (p :: T)) (plH (63 - D) h)) := rfl
      have gM : hms Wl (D + 1) (p :: T) (N 0).length = List.replicate (onL Wl (bst Wl (p :: T)) (p :: T)).length (nI (N 0).length) ++ (hms Wl D (lfL Wl (bst Wl (p :: T)) (p :: T)) ((N 0).length + 1) ++ hms Wl D (rgL Wl (bst Wl (p :: T)) (p :: T)) ((N 0).length + (nN Wl D (lfL Wl (bst Wl (p :: T)) (p :: T)) + 1))) := rfl
      have gD : nds Wl (D + 1) (p :: T) (N 0).length Q.length l0 = (bst Wl (p :: T), 63 - D, Q.length, (onL Wl (bst Wl (p :: T)) (p :: T)).length, nN Wl D (lfL Wl (bst Wl (p :: T)) (p :: T)), nN Wl D (rgL Wl (bst Wl (p :: T)) (p :: T)), (N 0).length, l0) :: (nds Wl D (lfL Wl (bst Wl (p :: T)) (p :: T)) ((N 0).length + 1) (Q.length + (onL Wl (bst Wl (p :: T)) (p :: T)).length) l0 ++ nds Wl D (rgL Wl (bst Wl (p :: T)) (p :: T)) ((N 0).length + (nN Wl D (lfL Wl (bst Wl (p :: T)) (p :: T)) + 1)) (Q.length + (onL Wl (bst Wl (p :: T)) (p :: T)).length + (pcs Wl D (lfL Wl (bst Wl (p :: T)) (p :: T))).length) (l0 + (nN Wl D (lfL Wl (bst Wl (p :: T)) (p :: T)) + 1))) := rfl
      rw [gN, gP, gH, gM, gD]
      clear gN gP gH gM gD hn hQ
      generalize sT_divide Wl B.length (bst Wl (p :: T)) (nI (N 0).length) (plNew Wl B.length (63 - D) s) = d at cD zD ⊢
      have ec : d.2.toNatClampNeg = (B ++ rgL Wl (bst Wl (p :: T)) (p :: T)).length := by
        rw [zD, nI_clamp (by omega), List.length_append]
      dsimp only
      rw [ec]
      generalize hln : bst Wl (p :: T) = ln at *
      generalize hlf : lfL Wl ln (p :: T) = lf at *
      generalize hrg : rgL Wl ln (p :: T) = rg at *
      generalize hon : onL Wl ln (p :: T) = on at *
      obtain ⟨⟨F1, f1, c1⟩, a1, b1⟩ := ih lf (B ++ rg) lf (Q ++ on) (hm ++ List.replicate on.length (nI (N 0).length)) (fun k => N k ++ [nf ln (-1) (-1) 0 (nI (63 - D)) (nI Q.length) k]) d.1 (plH (63 - D) h) l0 (by omega) (by omega) (by rw [List.length_append]; omega) (fun k hk => by simp only [List.length_append, hl k hk]; rfl) (by simp only [List.length_append, List.length_cons, List.length_nil]; omega) (by rw [List.length_append, List.length_append, List.length_replicate, hh]) (by rw [List.length_append]; omega) (by omega) cD
      have k1 : (N 0 ++ [nf ln (-1) (-1) 0 (nI (63 - D)) (nI Q.length) 0]).length = (N 0).length + 1 := by rw [List.length_append]; rfl
      simp only [k1, List.length_append (as := Q)] at c1 b1
      generalize sPl Wl D (B ++ rg).length d.1 (plH (63 - D) h) = x1 at *
      have m1 : ∀ k, ((nds Wl D lf ((N 0).length + 1) (Q.length + on.length) l0).map (ndF k)).length = nN Wl D lf := fun k => by rw [List.length_map, nds_len]
      have c2 := c1.oSet6 1 (N 0).length x1.2.2 (by decide) (by simp only [List.length_append, List.length_cons, List.length_nil, hl 1 (by decide)]; omega) (by simp only [List.length_append, List.length_cons, List.length_nil, hl 1 (by decide), m1]; omega)
      have c3 : CS (oSet 1 (nI (N 0).length) x1.2.2 x1.1) (fun k => N k ++ nf ln x1.2.2 (-1) 0 (nI (63 - D)) (nI Q.length) k :: (nds Wl D lf ((N 0).length + 1) (Q.length + on.length) l0).map (ndF k)) (Q ++ on ++ pcs Wl D lf) (hm ++ List.replicate on.length (nI (N 0).length) ++ hms Wl D lf ((N 0).length + 1)) (B ++ rg) F1 := by
        refine c2.congr (fun k hk => ?_)
        rcases six hk with rfl | rfl | rfl | rfl | rfl | rfl
        · simp [va_up, nf]
        · rw [va_up_self, List.append_assoc]
          exact set_at (hl 1 (by decide))
        · simp [va_up, nf]
        · simp [va_up, nf]
        · simp [va_up, nf]
        · simp [va_up, nf]
      have k2 : (N 0 ++ nf ln x1.2.2 (-1) 0 (nI (63 - D)) (nI Q.length) 0 :: (nds Wl D lf ((N 0).length + 1) (Q.length + on.length) l0).map (ndF 0)).length = (N 0).length + (nN Wl D lf + 1) := by rw [List.length_append, List.length_cons, m1]
      have k3 : (Q ++ on ++ pcs Wl D lf).length = Q.length + on.length + (pcs Wl D lf).length := by rw [List.length_append, List.length_append]
      obtain ⟨⟨F2, f2, c4⟩, a2, b2⟩ := ih rg B F1 (Q ++ on ++ pcs Wl D lf) (hm ++ List.replicate on.length (nI (N 0).length) ++ hms Wl D lf ((N 0).length + 1)) (fun k => N k ++ nf ln x1.2.2 (-1) 0 (nI (63 - D)) (nI Q.length) k :: (nds Wl D lf ((N 0).length + 1) (Q.length + on.length) l0).map (ndF k)) (oSet 1 (nI (N 0).length) x1.2.2 x1.1) x1.2.1 (l0 + (nN Wl D lf + 1)) (by omega) (by omega) (by omega) (fun k hk => by simp only [List.length_append, List.length_cons, hl k hk, m1]) (by rw [k2]; omega) (by rw [k3, List.length_append, List.length_append, List.length_replicate, hms_len, hh]) (by rw [k3]; omega) f1 c3
      rw [k3] at c4
      simp only [k2] at c4 b2
      generalize sPl Wl D B.length (oSet 1 (nI (N 0).length) x1.2.2 x1.1) x1.2.1 = x2 at *
      have m2 : ∀ k, ((nds Wl D rg ((N 0).length + (nN Wl D lf + 1)) (Q.length + on.length + (pcs Wl D lf).length) (l0 + (nN Wl D lf + 1))).map (ndF k)).length = nN Wl D rg := fun k => by rw [List.length_map, nds_len]
      generalize nds Wl D lf ((N 0).length + 1) (Q.length + on.length) l0 = M1 at *
      generalize nds Wl D rg ((N 0).length + (nN Wl D lf + 1)) (Q.length + on.length + (pcs Wl D lf).length) (l0 + (nN Wl D lf + 1)) = M2 at *
      have c5 := c4.oSet6 2 (N 0).length x2.2.2 (by decide) (by simp only [List.length_append, List.length_cons, hl 2 (by decide)]; omega) (by simp only [List.length_append, List.length_cons, hl 2 (by decide), m1, m2]; omega)
      have c6 : CS (oSet 2 (nI (N 0).length) x2.2.2 x2.1) (fun k => N k ++ nf ln x1.2.2 x2.2.2 0 (nI (63 - D)) (nI Q.length) k :: (M1.map (ndF k) ++ M2.map (ndF k))) (Q ++ on ++ pcs Wl D lf ++ pcs Wl D rg) (hm ++ List.replicate on.length (nI (N 0).length) ++ hms Wl D lf ((N 0).length + 1) ++ hms Wl D rg ((N 0).length + (nN Wl D lf + 1))) B F2 := by
        refine c5.congr (fun k hk => ?_)
        rcases six hk with rfl | rfl | rfl | rfl | rfl | rfl
        · simp [va_up, nf]
        · simp [va_up, nf]
        · rw [va_up_self, List.append_assoc]
          exact set_at (hl 2 (by decide))
        · simp [va_up, nf]
        · simp [va_up, nf]
        · simp [va_up, nf]
      have e8 : nI ((oSet 2 (nI (N 0).length) x2.2.2 x2.1).2 0).length - nI (N 0).length = nI (nN Wl D lf + nN Wl D rg + 1) := by
        rw [c6.1 0 (by decide), List.length_append, List.length_cons, List.length_append, m1, m2, nI_subl]
      have c7 := c6.oSet6 3 (N 0).length (nI (nN Wl D lf + nN Wl D rg + 1)) (by decide) (by simp only [List.length_append, List.length_cons, hl 3 (by decide)]; omega) (by simp only [List.length_append, List.length_cons, hl 3 (by decide), m1, m2]; omega)
      rw [e8]
      have eQ : Q ++ (on ++ (pcs Wl D lf ++ pcs Wl D rg)) = Q ++ on ++ pcs Wl D lf ++ pcs Wl D rg := by simp only [List.append_assoc]
      have eM : hm ++ (List.replicate on.length (nI (N 0).length) ++ (hms Wl D lf ((N 0).length + 1) ++ hms Wl D rg ((N 0).length + (nN Wl D lf + 1)))) = hm ++ List.replicate on.length (nI (N 0).length) ++ hms Wl D lf ((N 0).length + 1) ++ hms Wl D rg ((N 0).length + (nN Wl D lf + 1)) := by simp only [List.append_assoc]
      rw [eQ, eM]
      refine ⟨⟨F2, f2, ?_⟩, by rw [a2, a1], ?_⟩
      · refine c7.congr (fun k hk => ?_)
        rw [List.map_cons, List.map_append]
        have en : ∀ k, ndF k (ln, 63 - D, Q.length, on.length, nN Wl D lf, nN Wl D rg, (N 0).length, l0) = nf ln x1.2.2 x2.2.2 (nI (nN Wl D lf + nN Wl D rg + 1)) (nI (63 - D)) (nI Q.length) k := by
          intro k
          rw [b1, b2]
          rfl
        rcases six hk with rfl | rfl | rfl | rfl | rfl | rfl
        · rw [va_up_ne _ _ (by decide), en]; rfl
        · rw [va_up_ne _ _ (by decide), en]; rfl
        · rw [va_up_ne _ _ (by decide), en]; rfl
        · rw [va_up_self, en]
          exact set_at (hl 3 (by decide))
        · rw [va_up_ne _ _ (by decide), en]; rfl
        · rw [va_up_ne _ _ (by decide), en]; rfl
      · rw [if_neg (by omega)]
