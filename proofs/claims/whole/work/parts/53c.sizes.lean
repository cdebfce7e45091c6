theorem rAt_mid {A R : List Int32} {v : Int32} {k : Nat} (h : A.length = k) (hb : (A ++ v :: R).length ≤ 4096) : rAt (A ++ v :: R) (nI k) = v := by
  have hl : (A ++ v :: R).length = k + (R.length + 1) := by rw [List.length_append, List.length_cons, h]
  unfold rAt
  rw [if_neg (nI_pos (by omega)), hl, if_neg (nI_ge (by omega) (by omega)), nI_clamp (by omega), List.getD_eq_getElem?_getD, List.getElem?_append_right (by omega), h, Nat.sub_self]
  rfl
theorem nds_root (Wl : Nat → Option WV) {D : Nat} {L : List Pc} (k0 p0 l0 : Nat) (h : ¬ nN Wl D L = 0) : ∃ y M, nds Wl D L k0 p0 l0 = y :: M ∧ ndF 3 y = nI (nN Wl D L) := by
  cases D with
  | zero => exact absurd rfl h
  | succ D =>
    cases L with
    | nil => exact absurd rfl h
    | cons p T => exact ⟨_, _, rfl, rfl⟩
theorem ni_of {R : Nat → List Int32} {Wl : Nat → Option WV} {A Z : List Int32} {D k p0 l0 : Nat} {L : List Pc} (hR : R 3 = A ++ ((nds Wl D L k p0 l0).map (ndF 3) ++ Z)) (hA : A.length = k) (h0 : (R 0).length = (R 3).length) (hb : (R 3).length ≤ 4096) : sT_nodesIn R Wl (if nN Wl D L = 0 then -1 else nI k) = nI (nN Wl D L) := by
  by_cases e : nN Wl D L = 0
  · rw [if_pos e, e]
    rfl
  · rw [if_neg e]
    obtain ⟨y, M, e1, e2⟩ := nds_root Wl k p0 l0 e
    rw [e1, List.map_cons, List.cons_append] at hR
    have hl : (R 3).length = k + ((M.map (ndF 3) ++ Z).length + 1) := by rw [hR, List.length_append, List.length_cons, hA]
    unfold sT_nodesIn sT_hasNode
    rw [if_neg (nI_pos (by omega)), h0, hl, if_neg (nI_ge (by omega) (by omega)), if_neg (by decide), hR, rAt_mid hA (by rw [← hR]; exact hb)]
    exact e2
theorem up_up {N : Nat → List Int32} {a b : List Int32} : va_up (va_up N 3 a) 3 b = va_up N 3 b := by
  funext k
  by_cases e : k = 3
  · subst e; rw [va_up_self, va_up_self]
  · rw [va_up_ne _ _ e, va_up_ne _ _ e, va_up_ne _ _ e]
theorem csC2 (Wl : Nat → Option WV) {Q : List Pc} {hm : List Int32} {W F : List Pc} : ∀ (D : Nat) (L : List Pc) (k0 p0 l0 : Nat) (N : Nat → List Int32) (A1 Z1 A2 Z2 A3 Z3 : List Int32) (s : TSt), CS s N Q hm W F → (N 0).length = (N 3).length → (N 1).length ≤ 4096 → (N 2).length ≤ 4096 → (N 3).length ≤ 4096 → N 1 = A1 ++ ((nds Wl D L k0 p0 l0).map (ndF 1) ++ Z1) → N 2 = A2 ++ ((nds Wl D L k0 p0 l0).map (ndF 2) ++ Z2) → N 3 = A3 ++ ((nds Wl D L k0 p0 l0).map (ndG 3) ++ Z3) → A1.length = k0 → A2.length = k0 → A3.length = k0 → ∃ s', csL Wl (k0 + nN Wl D L) s = csL Wl k0 s' ∧ CS s' (va_up N 3 (A3 ++ ((nds Wl D L k0 p0 l0).map (ndF 3) ++ Z3))) Q hm W F := by
  intro D
  induction D with
  | zero =>
    intro L k0 p0 l0 N A1 Z1 A2 Z2 A3 Z3 s hC h0 b1 b2 b3 e1 e2 e3 a1 a2 a3
    refine ⟨s, rfl, hC.congr (fun k hk => ?_)⟩
    by_cases e : k = 3
    · subst e; rw [va_up_self]; exact e3
    · rw [va_up_ne _ _ e]
  | succ D ih =>
    intro L k0 p0 l0 N A1 Z1 A2 Z2 A3 Z3 s hC h0 b1 b2 b3 e1 e2 e3 a1 a2 a3
    cases L with
    | nil =>
      refine ⟨s, rfl, hC.congr (fun k hk => ?_)⟩
      by_cases e : k = 3
      · subst e; rw [va_up_self]; exact e3
      · rw [va_up_ne _ _ e]
    | cons p T =>
      have gN : nN Wl (D + 1) (p :: T) = nN Wl D (lfL Wl (bst Wl (p :: T)) (p :: T)) + nN Wl D (rgL Wl (bst Wl (p :: T)) (p :: T)) + 1 := rfl
      have gD : nds Wl (D + 1) (p :: T) k0 p0 l0 = (bst Wl (p :: T), 63 - D, p0, (onL Wl (bst Wl (p :: T)) (p :: T)).length, nN Wl D (lfL Wl (bst Wl (p :: T)) (p :: T)), nN Wl D (rgL Wl (bst Wl (p :: T)) (p :: T)), k0, l0) :: (nds Wl D (lfL Wl (bst Wl (p :: T)) (p :: T)) (k0 + 1) (p0 + (onL Wl (bst Wl (p :: T)) (p :: T)).length) l0 ++ nds Wl D (rgL Wl (bst Wl (p :: T)) (p :: T)) (k0 + (nN Wl D (lfL Wl (bst Wl (p :: T)) (p :: T)) + 1)) (p0 + (onL Wl (bst Wl (p :: T)) (p :: T)).length + (pcs Wl D (lfL Wl (bst Wl (p :: T)) (p :: T))).length) (l0 + (nN Wl D (lfL Wl (bst Wl (p :: T)) (p :: T)) + 1))) := rfl
      rw [gD] at e1 e2 e3
      rw [gN, gD]
      clear gN gD
      generalize bst Wl (p :: T) = ln at *
      generalize lfL Wl ln (p :: T) = lf at *
      generalize rgL Wl ln (p :: T) = rg at *
      generalize onL Wl ln (p :: T) = on at *
      generalize hx : ((ln, 63 - D, p0, on.length, nN Wl D lf, nN Wl D rg, k0, l0) : Nd) = x at *
      have f1 : ndF 1 x = if nN Wl D lf = 0 then -1 else nI (k0 + 1) := by rw [← hx]; rfl
      have f2 : ndF 2 x = if nN Wl D rg = 0 then -1 else nI (k0 + (nN Wl D lf + 1)) := by rw [← hx]; rfl
      have f3 : ndF 3 x = nI (nN Wl D lf + nN Wl D rg + 1) := by rw [← hx]; rfl
      clear hx
      have lM : ∀ k, ((nds Wl D lf (k0 + 1) (p0 + on.length) l0).map (ndF k)).length = nN Wl D lf := fun k => by rw [List.length_map, nds_len]
      have lG : ((nds Wl D lf (k0 + 1) (p0 + on.length) l0).map (ndG 3)).length = nN Wl D lf := by rw [List.length_map, nds_len]
      rw [List.map_cons, List.map_append, List.cons_append, List.append_assoc] at e1 e2 e3
      rw [List.map_cons, List.map_append, List.cons_append, List.append_assoc]
      -- the RIGHT tree
      obtain ⟨s1, v1, c1⟩ := ih rg (k0 + (nN Wl D lf + 1)) (p0 + on.length + (pcs Wl D lf).length) (l0 + (nN Wl D lf + 1)) N (A1 ++ ndF 1 x :: (nds Wl D lf (k0 + 1) (p0 + on.length) l0).map (ndF 1)) Z1 (A2 ++ ndF 2 x :: (nds Wl D lf (k0 + 1) (p0 + on.length) l0).map (ndF 2)) Z2 (A3 ++ ndG 3 x :: (nds Wl D lf (k0 + 1) (p0 + on.length) l0).map (ndG 3)) Z3 s hC h0 b1 b2 b3 (by rw [e1, List.append_assoc, List.cons_append]) (by rw [e2, List.append_assoc, List.cons_append]) (by rw [e3, List.append_assoc, List.cons_append]) (by rw [List.length_append, List.length_cons, lM, a1]) (by rw [List.length_append, List.length_cons, lM, a2]) (by rw [List.length_append, List.length_cons, lG, a3])
      have l3 : (A3 ++ ndG 3 x :: ((nds Wl D lf (k0 + 1) (p0 + on.length) l0).map (ndG 3) ++ ((nds Wl D rg (k0 + (nN Wl D lf + 1)) (p0 + on.length + (pcs Wl D lf).length) (l0 + (nN Wl D lf + 1))).map (ndF 3) ++ Z3))).length = (N 3).length := by
        rw [e3]
        simp only [List.length_append, List.length_cons, List.length_map]
      rw [List.append_assoc, List.cons_append] at c1
      -- the LEFT tree
      obtain ⟨s2, v2, c2⟩ := ih lf (k0 + 1) (p0 + on.length) l0 (va_up N 3 (A3 ++ ndG 3 x :: ((nds Wl D lf (k0 + 1) (p0 + on.length) l0).map (ndG 3) ++ ((nds Wl D rg (k0 + (nN Wl D lf + 1)) (p0 + on.length + (pcs Wl D lf).length) (l0 + (nN Wl D lf + 1))).map (ndF 3) ++ Z3)))) (A1 ++ [ndF 1 x]) ((nds Wl D rg (k0 + (nN Wl D lf + 1)) (p0 + on.length + (pcs Wl D lf).length) (l0 + (nN Wl D lf + 1))).map (ndF 1) ++ Z1) (A2 ++ [ndF 2 x]) ((nds Wl D rg (k0 + (nN Wl D lf + 1)) (p0 + on.length + (pcs Wl D lf).length) (l0 + (nN Wl D lf + 1))).map (ndF 2) ++ Z2) (A3 ++ [ndG 3 x]) ((nds Wl D rg (k0 + (nN Wl D lf + 1)) (p0 + on.length + (pcs Wl D lf).length) (l0 + (nN Wl D lf + 1))).map (ndF 3) ++ Z3) s1 c1 (by rw [va_up_ne _ _ (by decide), va_up_self, l3]; exact h0) (by rw [va_up_ne _ _ (by decide)]; exact b1) (by rw [va_up_ne _ _ (by decide)]; exact b2) (by rw [va_up_self, l3]; exact b3) (by rw [va_up_ne _ _ (by decide), e1, List.append_assoc]; rfl) (by rw [va_up_ne _ _ (by decide), e2, List.append_assoc]; rfl) (by rw [va_up_self, List.append_assoc]; rfl) (by rw [List.length_append, a1]; rfl) (by rw [List.length_append, a2]; rfl) (by rw [List.length_append, a3]; rfl)
      rw [up_up, List.append_assoc] at c2
      have c2 : CS s2 (va_up N 3 (A3 ++ ndG 3 x :: ((nds Wl D lf (k0 + 1) (p0 + on.length) l0).map (ndF 3) ++ ((nds Wl D rg (k0 + (nN Wl D lf + 1)) (p0 + on.length + (pcs Wl D lf).length) (l0 + (nN Wl D lf + 1))).map (ndF 3) ++ Z3)))) Q hm W F := c2
      have l5 : (A3 ++ ndG 3 x :: ((nds Wl D lf (k0 + 1) (p0 + on.length) l0).map (ndF 3) ++ ((nds Wl D rg (k0 + (nN Wl D lf + 1)) (p0 + on.length + (pcs Wl D lf).length) (l0 + (nN Wl D lf + 1))).map (ndF 3) ++ Z3))).length = (N 3).length := by
        rw [e3]
        simp only [List.length_append, List.length_cons, List.length_map]
      -- the node itself
      have t3 : s2.2 3 = A3 ++ ndG 3 x :: ((nds Wl D lf (k0 + 1) (p0 + on.length) l0).map (ndF 3) ++ ((nds Wl D rg (k0 + (nN Wl D lf + 1)) (p0 + on.length + (pcs Wl D lf).length) (l0 + (nN Wl D lf + 1))).map (ndF 3) ++ Z3)) := by rw [c2.1 3 (by decide), va_up_self]
      have t0 : (s2.2 0).length = (s2.2 3).length := by rw [t3, l5, c2.1 0 (by decide), va_up_ne _ _ (by decide)]; exact h0
      have tb : (s2.2 3).length ≤ 4096 := by rw [t3, l5]; exact b3
      have r1 : rAt (s2.2 1) (nI k0) = ndF 1 x := by
        rw [c2.1 1 (by decide), va_up_ne _ _ (by decide), e1]
        exact rAt_mid a1 (by rw [← e1]; exact b1)
      have r2 : rAt (s2.2 2) (nI k0) = ndF 2 x := by
        rw [c2.1 2 (by decide), va_up_ne _ _ (by decide), e2]
        exact rAt_mid a2 (by rw [← e2]; exact b2)
      have n1 : sT_nodesIn s2.2 Wl (ndF 1 x) = nI (nN Wl D lf) := by
        rw [f1]
        exact ni_of (A := A3 ++ [ndG 3 x]) (Z := (nds Wl D rg (k0 + (nN Wl D lf + 1)) (p0 + on.length + (pcs Wl D lf).length) (l0 + (nN Wl D lf + 1))).map (ndF 3) ++ Z3) (p0 := p0 + on.length) (l0 := l0) (by rw [t3, List.append_assoc]; rfl) (by rw [List.length_append, a3]; rfl) t0 tb
      have n2 : sT_nodesIn s2.2 Wl (ndF 2 x) = nI (nN Wl D rg) := by
        rw [f2]
        exact ni_of (A := A3 ++ ndG 3 x :: (nds Wl D lf (k0 + 1) (p0 + on.length) l0).map (ndF 3)) (Z := Z3) (p0 := p0 + on.length + (pcs Wl D lf).length) (l0 := l0 + (nN Wl D lf + 1)) (by rw [t3, List.append_assoc]; rfl) (by rw [List.length_append, List.length_cons, lM, a3]) t0 tb
      have e9 : (1 : Int32) + nI (nN Wl D lf) + nI (nN Wl D rg) = nI (nN Wl D lf + nN Wl D rg + 1) := (congrArg (fun z => z + nI (nN Wl D rg)) (nI_add 1 (nN Wl D lf))).trans ((nI_add (1 + nN Wl D lf) (nN Wl D rg)).trans (congrArg nI (by omega)))
      refine ⟨oSet 3 (nI k0) (nI (nN Wl D lf + nN Wl D rg + 1)) s2, ?_, ?_⟩
      · rw [show k0 + (nN Wl D lf + nN Wl D rg + 1) = k0 + (nN Wl D lf + 1) + nN Wl D rg by omega, v1, show k0 + (nN Wl D lf + 1) = k0 + 1 + nN Wl D lf by omega, v2]
        show csL Wl k0 (oSet 3 (nI k0) (1 + sT_nodesIn s2.2 Wl (rAt (s2.2 1) (nI k0)) + sT_nodesIn s2.2 Wl (rAt (s2.2 2) (nI k0))) s2) = _
        rw [r1, r2, n1, n2, e9]
      · have c3 := c2.oSet6 3 k0 (nI (nN Wl D lf + nN Wl D rg + 1)) (by decide) (by rw [va_up_self, List.length_append, List.length_cons]; omega) (by rw [va_up_self, l5]; omega)
        rw [va_up_self, set_at a3, up_up] at c3
        rw [f3]
        exact c3
theorem szC {Wl : Nat → Option WV} {D p0 l0 : Nat} {L Q : List Pc} {hm : List Int32} {W F : List Pc} {s : TSt} (hC : CS s (fun k => (nds Wl D L 0 p0 l0).map (ndG k)) Q hm W F) (hn : nN Wl D L ≤ 4096) : CS (sT_countSizes Wl s) (fun k => (nds Wl D L 0 p0 l0).map (ndF k)) Q hm W F := by
  have hlen : ∀ k, ((nds Wl D L 0 p0 l0).map (ndG k)).length = nN Wl D L := fun k => by rw [List.length_map, nds_len]
  have g1 : ∀ k, k ≠ 3 → (nds Wl D L 0 p0 l0).map (ndG k) = (nds Wl D L 0 p0 l0).map (ndF k) := fun k hk => List.map_congr_left (fun x _ => if_neg hk)
  obtain ⟨s', v, c⟩ := csC2 Wl D L 0 p0 l0 _ [] [] [] [] [] [] s hC (by rw [hlen, hlen]) (by rw [hlen]; exact hn) (by rw [hlen]; exact hn) (by rw [hlen]; exact hn) (by rw [List.nil_append, List.append_nil]; exact g1 1 (by decide)) (by rw [List.nil_append, List.append_nil]; exact g1 2 (by decide)) (by rw [List.nil_append, List.append_nil]) rfl rfl rfl
  have e0 : (s.2 0).length = nN Wl D L := by rw [hC.1 0 (by decide)]; exact hlen 0
  have e : sT_countSizes Wl s = s' := by
    unfold sT_countSizes
    rw [Nat.zero_add] at v
    rw [e0, v]
    rfl
  rw [e]
  refine c.congr (fun k hk => ?_)
  by_cases e3 : k = 3
  · subst e3; rw [va_up_self, List.nil_append, List.append_nil]
  · rw [va_up_ne _ _ e3]; exact g1 k e3
