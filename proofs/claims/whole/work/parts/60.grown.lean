theorem rCut0 {L : List Int32} (h : L.length < 2 ^ 31) : rCut L 0 = [] := by
  have := rCut_le (Nat.zero_le L.length) h
  rw [show nI 0 = (0 : Int32) from rfl] at this
  rw [this]
  rfl
theorem fellC {s : TSt} {F : List Pc} (hl : ∀ k, k < 19 → (s.2 k).length < 2 ^ 31) (hF : cols 13 F s.2) : CS (sT_fell s) (fun _ => []) [] [] [] F := by
  unfold sT_fell pCut oCut
  refine ⟨fun k hk => ?_, ⟨?_, ?_, ?_⟩, ?_, ⟨?_, ?_, ?_⟩, hF⟩
  · rcases six hk with rfl | rfl | rfl | rfl | rfl | rfl
    · exact rCut0 (hl 0 (by decide))
    · exact rCut0 (hl 1 (by decide))
    · exact rCut0 (hl 2 (by decide))
    · exact rCut0 (hl 3 (by decide))
    · exact rCut0 (hl 4 (by decide))
    · exact rCut0 (hl 5 (by decide))
  · exact rCut0 (hl 6 (by decide))
  · exact rCut0 (hl 7 (by decide))
  · exact rCut0 (hl 8 (by decide))
  · exact rCut0 (hl 9 (by decide))
  · exact rCut0 (hl 10 (by decide))
  · exact rCut0 (hl 11 (by decide))
  · exact rCut0 (hl 12 (by decide))
theorem grLC {Wl : Nat → Option WV} {N : Nat → List Int32} {Q : List Pc} {hm : List Int32} {F : List Pc} : ∀ (n i : Nat) (W : List Pc) (s : TSt), CS s N Q hm W F → W.length + n ≤ 4096 → CS (grL Wl n (nI i) s) N Q hm (W ++ iniL Wl n i) F := by
  intro n
  induction n with
  | zero => intro i W s h _; show CS s N Q hm (W ++ []) F; rw [List.append_nil]; exact h
  | succ n ih =>
    intro i W s h hl
    show CS (grL Wl n (nI i + 1) (if wAt Wl (nI i) = none then s else pAdd 10 (nI i) (-1) (-1) s)) N Q hm (W ++ (_ ++ iniL Wl n (i + 1))) F
    rw [nI_1]
    by_cases e : wAt Wl (nI i) = none
    · rw [if_pos e, if_pos e, List.nil_append]
      exact ih (i + 1) W s h (by omega)
    · rw [if_neg e, if_neg e, ← List.append_assoc]
      exact ih (i + 1) _ _ (h.pAdd10 (nI i) (-1) (-1) (by omega)) (by rw [List.length_append]; simp only [List.length_cons, List.length_nil]; omega)
/-- the class's rows hold the walls' tree -/
def CG (Wl : Nat → Option WV) (s : TSt) : Prop := ∃ F, (F.length < 2 ^ 31 ∧ S3 s = ([], [], [])) ∧ CS s (fun k => (nds Wl 64 (iniL Wl 64 0) 0 0 0).map (ndF k)) (pcs Wl 64 (iniL Wl 64 0)) (hms Wl 64 (iniL Wl 64 0) 0) [] F
theorem fellS {s : TSt} (hl : ∀ k, k < 19 → (s.2 k).length < 2 ^ 31) : S3 (sT_fell s) = ([], [], []) := by
  have e16 : (sT_fell s).2 16 = [] := rCut0 (hl 16 (by decide))
  have e17 : (sT_fell s).2 17 = [] := rCut0 (hl 17 (by decide))
  have e18 : (sT_fell s).2 18 = [] := rCut0 (hl 18 (by decide))
  unfold S3
  rw [e16, e17, e18]
theorem sGL_nil {Wl : Nat → Option WV} {s : TSt} (e : s.2 16 = []) (n : Nat) (h : Int32) : sGL Wl n s h = (s, h) := by
  cases n with
  | zero => rfl
  | succ n => exact (show (if (s.2 16).length = 0 then _ else _) = _ from if_pos (by rw [e]; rfl))
theorem grAC {N : Nat → List Int32} {Q L F : List Pc} {hm : List Int32} {s : TSt} (hC : CS s N Q hm L F) (hL : L.length ≤ 64) (h3 : S3 s = ([], [], [])) : CS (grA s) N Q hm ([] ++ L) F ∧ (grA s).2 16 = [] ++ pd L (nI ([] : List Pc).length) ∧ (grA s).2 17 = [] ++ pd L (-1) ∧ (grA s).2 18 = [] ++ pd L 1 := by
  have e16 : s.2 16 = [] := congrArg (fun x => x.1) h3
  have e17 : s.2 17 = [] := congrArg (fun x => x.2.1) h3
  have e18 : s.2 18 = [] := congrArg (fun x => x.2.2) h3
  have el : (s.2 10).length = L.length := by rw [hC.2.2.2.1.1, List.length_map]
  unfold grA
  rw [el]
  cases L with
  | nil =>
    rw [if_pos (show nI ([] : List Pc).length ≤ 0 by decide)]
    exact ⟨hC, e16, e17, e18⟩
  | cons p T =>
    rw [if_neg (nI_nle (by rw [List.length_cons]; omega) (by omega))]
    refine ⟨hC.up (awt_lo _ _ _ _), ?_, ?_, ?_⟩
    · show rAdd (s.2 16) 0 = _
      rw [e16]; rfl
    · show rAdd (s.2 17) (-1) = _
      rw [e17]; rfl
    · show rAdd (s.2 18) 1 = _
      rw [e18]; rfl
theorem growC {Wl : Nat → Option WV} (hW : ∀ i v, wAt Wl i = some v → okW v) {s : TSt} {F : List Pc} (hl : ∀ k, k < 19 → (s.2 k).length < 2 ^ 31) (hF : cols 13 F s.2) : CG Wl (sT_countSizes Wl (grP Wl s).1) ∧ (grP Wl s).2 = hgt Wl 64 (iniL Wl 64 0) 0 := by
  obtain ⟨a1, a2, a3, a4, a5⟩ := all_le hW
  have c0 := fellC hl hF
  have hf : F.length < 2 ^ 31 := by
    have := hl 13 (by decide)
    rw [hF.1, List.length_map] at this
    exact this
  have c1 := grLC (Wl := Wl) 64 0 [] _ c0 (by decide)
  rw [List.nil_append, nI_0] at c1
  have s1 : S3 (grL Wl 64 0 (sT_fell s)) = ([], [], []) := (grL_S3 Wl 64 0 (sT_fell s)).trans (fellS hl)
  obtain ⟨c2, e16, e17, e18⟩ := grAC c1 a1 s1
  have t64 : tri 64 = 2080 := by decide
  have hdp : pnDep (fun _ => []) Wl (-1) = nI (64 - 64) := by
    show (if (if ((-1 : Int32)) < 0 then (0 : Int32) else _) = 0 then (0 : Int32) else _) = nI (64 - 64)
    exact (if_pos (if_pos (by decide))).trans (by decide)
  obtain ⟨s', F', v1, v2, v3, v16, v17, v18⟩ := plL Wl 64 (iniL Wl 64 0) [] F [] [] (fun _ => []) (grA (grL Wl 64 0 (sT_fell s))) 0 0 (4096 - nN Wl 64 (iniL Wl 64 0)) 0 [] [] [] (-1) 1 (Nat.le_refl _) a1 (by rw [t64]; decide) (fun _ _ => rfl) (by simpa using a4) rfl (by simpa using a3) hf (by decide) rfl rfl rfl (fun _ => hdp) c2 e16 e17 e18
  have ep : grP Wl s = (s', hgt Wl 64 (iniL Wl 64 0) 0) := by
    unfold grP
    rw [← sGL_nil v16 (4096 - nN Wl 64 (iniL Wl 64 0)) (hgt Wl 64 (iniL Wl 64 0) 0), ← v1, Nat.sub_add_cancel a4]
  rw [ep]
  have ln : ∀ k, lkN (iniL Wl 64 0) (-1) 1 (nI ([] : List Int32).length) (fun _ => []) k = [] := fun k => List.eq_nil_of_length_eq_zero (by rw [lk_len]; rfl)
  have v4 : CS s' (fun k => (nds Wl 64 (iniL Wl 64 0) 0 0 0).map (ndG k)) (pcs Wl 64 (iniL Wl 64 0)) (hms Wl 64 (iniL Wl 64 0) 0) [] F' := by
    simp only [List.nil_append] at v3
    exact v3.congr (fun k _ => by rw [ln k]; rfl)
  refine ⟨⟨F', ⟨v2, ?_⟩, szC v4 a4⟩, rfl⟩
  refine (csL_S3 Wl _ _).trans ?_
  unfold S3
  show (s'.2 16, s'.2 17, s'.2 18) = _
  rw [v16, v17, v18]
/-- the reference's arrays hold the walls' tree -/
def RG (Wl : Nat → Option WV) (b : MSt) : Prop := (∃ n, n ≤ 8300 ∧ HQ Wl b n 0 (pcs Wl 64 (iniL Wl 64 0))) ∧ b.1 14 = nI (ctT Wl 64 (iniL Wl 64 0)) ∧ b.1 28 = nI (nN Wl 64 (iniL Wl 64 0)) ∧ b.1 29 = nI (nN Wl 64 (iniL Wl 64 0) + 1) ∧ b.1 30 = nI (pcs Wl 64 (iniL Wl 64 0)).length ∧ b.1 31 = hgt Wl 64 (iniL Wl 64 0) 0 ∧ (∀ x, x ∈ nds Wl 64 (iniL Wl 64 0) 0 0 0 → NR b x) ∧ ∀ w, w < 64 → b.2.1 32 w = nI (cW (nI w) (pcs Wl 64 (iniL Wl 64 0)))
def frI (a b : MSt) : Prop := (∀ k, k ≠ 13 → b.1 k = a.1 k) ∧ ∀ k, k ≠ 8 → k ≠ 15 → k ≠ 32 → b.2.1 k = a.2.1 k
theorem HL.snoc {Wl : Nat → Option WV} {mz : MSt} {n fr j : Nat} {p : Pc} {A : List Pc} (h : HL Wl mz n fr A) (hj : j < n) (e1 : mz.2.1 15 (fr + A.length) = nI j) (e2 : HP Wl mz j p) : HL Wl mz n fr (A ++ [p]) := by
  intro i q e
  by_cases hi : i < A.length
  · rw [List.getElem?_append_left hi] at e
    exact h i q e
  · rw [List.getElem?_append_right (by omega)] at e
    have hi2 : i - A.length < 1 := (List.getElem?_eq_some_iff.1 e).1
    have hi3 : i = A.length := by omega
    subst hi3
    rw [Nat.sub_self] at e
    obtain rfl : p = q := Option.some.inj e
    exact ⟨j, hj, e1, e2⟩
theorem iniR {Wl : Nat → Option WV} : ∀ (n i N : Nat) (A : List Pc) (a : MSt), i + n = 64 → n < N → AG Wl a → HL Wl a A.length 0 A → A.length + n ≤ 8300 → a.1 13 = nI A.length → (∀ w, w < i → a.2.1 32 w = 0) → ∃ b, sMakL N a (nI A.length) (nI i) = some (b, nI (A ++ iniL Wl n i).length, nI 64) ∧ frI a b ∧ HL Wl b (A ++ iniL Wl n i).length 0 (A ++ iniL Wl n i) ∧ b.1 13 = nI (A ++ iniL Wl n i).length ∧ ∀ w, w < 64 → b.2.1 32 w = 0 := by
  intro n
  induction n with
  | zero =>
    intro i N A a hi hN hA hH hb h13 h32
    obtain ⟨N, rfl⟩ : ∃ N', N = N' + 1 := ⟨N - 1, by omega⟩
    obtain rfl : i = 64 := hi
    have e : A ++ iniL Wl 0 64 = A := List.append_nil _
    rw [e]
    refine ⟨a, ?_, ⟨fun _ _ => rfl, fun _ _ _ _ => rfl⟩, hH, h13, h32⟩
    unfold sMakL
    rw [if_pos (show (64 : Int32) ≤ nI 64 by decide)]
  | succ n ih =>
    intro i N A a hi hN hA hH hb h13 h32
    obtain ⟨N, rfl⟩ : ∃ N', N = N' + 1 := ⟨N - 1, by omega⟩
    have hi64 : i < 64 := by omega
    have hini : iniL Wl (n + 1) i = (if wAt Wl (nI i) = none then [] else [(nI i, -1, -1)]) ++ iniL Wl n (i + 1) := rfl
    rw [hini]
    unfold sMakL
    rw [if_neg (show ¬ (64 : Int32) ≤ nI i from nI_ge (b := 64) hi64 (by decide)), if_pos (vpin_nI hi64 (by decide)), nI_clamp (n := i) (by omega)]
    have o1 : ∀ k, k ≠ 32 → (mI 32 (nI i) 0 a).2.1 k = a.2.1 k := fun k hk => mI_n _ _ _ hk
    have o2 : (mI 32 (nI i) 0 a).1 = a.1 := rfl
    have o3 : ∀ w, w < i + 1 → (mI 32 (nI i) 0 a).2.1 32 w = 0 := by
      intro w hw
      by_cases e : w = i
      · subst e; exact mI_s _ _ (by omega)
      · rw [mI_o _ _ (by omega) e]; exact h32 w (by omega)
    have A1 : AG Wl (mI 32 (nI i) 0 a) := hA.move (fun k hk => o1 k (by omega))
    have o4 : (mI 32 (nI i) 0 a).2.2 = a.2.2 := rfl
    have H1 : HL Wl (mI 32 (nI i) 0 a) A.length 0 A := by
      intro x q e
      obtain ⟨j, hj, q1, e8, w, hw, e9⟩ := hH x q e
      exact ⟨j, hj, by rw [o1 15 (by decide)]; exact q1, by rw [o1 8 (by decide)]; exact e8, w, hw, by rw [o4]; exact e9⟩
    rw [o1 1 (by decide)]
    generalize mI 32 (nI i) 0 a = a1 at *
    have F0 : frI a a1 := ⟨fun k _ => by rw [o2], fun k _ _ h => o1 k h⟩
    obtain ⟨g1, g2⟩ := hA i hi64
    rw [wAt_nI hi64]
    cases hWl : Wl i with
    | none =>
      rw [if_pos (g1 hWl), if_pos rfl, List.nil_append, nI_1]
      obtain ⟨b, z1, z2, z3, z4, z5⟩ := ih (i + 1) N A a1 (by omega) (by omega) A1 H1 (by omega) (by rw [o2]; exact h13) o3
      exact ⟨b, z1, ⟨fun k h => (z2.1 k h).trans (F0.1 k h), fun k x y z => (z2.2 k x y z).trans (F0.2 k x y z)⟩, z3, z4, z5⟩
    | some v =>
      obtain ⟨gt, -⟩ := g2 v hWl
      rw [if_neg (by rw [gt]; decide), if_neg (by simp), nI_1]
      obtain ⟨a2, x1, x2, x3, x4, x5, y1, y2, y3, y4, y5⟩ := pieceR (mz := a1) (n := A.length) (by rw [o2]; exact h13) (by omega) (nI i) 0 1 1 1
      rw [x1]
      dsimp only
      rw [if_pos (vpin_nI (by omega) (by decide)), nI_1]
      have hp : HP Wl a2 A.length (nI i, -1, -1) := by
        refine ⟨y1, v, (wAt_nI hi64).trans hWl, ?_, ?_, ?_, ?_⟩
        · show a2.2.2 9 _ = (qE v (wAt Wl (-1)) 0).1
          rw [wAt_neg, y2]; rfl
        · show a2.2.2 10 _ = (qE v (wAt Wl (-1)) 0).2
          rw [wAt_neg, y3]; rfl
        · show a2.2.2 11 _ = (qE v (wAt Wl (-1)) 1).1
          rw [wAt_neg, y4]; rfl
        · show a2.2.2 12 _ = (qE v (wAt Wl (-1)) 1).2
          rw [wAt_neg, y5]; rfl
      have f2 := x5 A.length
      have A2 := A1.fr f2
      have H2 : HL Wl a2 A.length 0 A := H1.fr f2 (Nat.le_refl _) (by omega)
      have p1 : ∀ k, k ≠ 15 → (mI 15 (nI A.length) (nI A.length) a2).2.1 k = a2.2.1 k := fun k hk => mI_n _ _ _ hk
      have p2 : (mI 15 (nI A.length) (nI A.length) a2).1 = a2.1 := rfl
      have p3 : (mI 15 (nI A.length) (nI A.length) a2).2.2 = a2.2.2 := rfl
      have p4 : (mI 15 (nI A.length) (nI A.length) a2).2.1 15 A.length = nI A.length := mI_s _ _ (by omega)
      have p5 : ∀ j, j < A.length → (mI 15 (nI A.length) (nI A.length) a2).2.1 15 j = a2.2.1 15 j := fun j hj => mI_o _ _ (by omega) (by omega)
      generalize mI 15 (nI A.length) (nI A.length) a2 = a3 at *
      have mv : ∀ j q, HP Wl a2 j q → HP Wl a3 j q := by
        intro j q hq
        obtain ⟨e8, w, hw, e9⟩ := hq
        exact ⟨by rw [p1 8 (by decide)]; exact e8, w, hw, by rw [p3]; exact e9⟩
      have la : (A ++ [((nI i, -1, -1) : Pc)]).length = A.length + 1 := by rw [List.length_append]; rfl
      have H3 : HL Wl a3 (A ++ [((nI i, -1, -1) : Pc)]).length 0 (A ++ [((nI i, -1, -1) : Pc)]) := by
        rw [la]
        refine HL.snoc ?_ (Nat.lt_succ_self _) (by rw [Nat.zero_add]; exact p4) (mv _ _ hp)
        intro x q e
        obtain ⟨j, hj, q1, q2⟩ := H2 x q e
        have hx : x < A.length := (List.getElem?_eq_some_iff.1 e).1
        exact ⟨j, by omega, by rw [p5 _ (by omega)]; exact q1, mv _ _ q2⟩
      obtain ⟨b, z1, z2, z3, z4, z5⟩ := ih (i + 1) N (A ++ [((nI i, -1, -1) : Pc)]) a3 (by omega) (by omega) (A2.move (fun k hk => p1 k (by omega))) H3 (by rw [la]; omega) (by rw [p2, x2, la]) (fun w hw => by rw [p1 32 (by decide), f2.2.1 32 (by decide) (by decide)]; exact o3 w hw)
      rw [la] at z1
      rw [← List.append_assoc]
      refine ⟨b, z1, ⟨fun k h => ?_, fun k x y z => ?_⟩, z3, z4, z5⟩
      · rw [z2.1 k h, p2]
        by_cases e14 : k = 14
        · subst e14; rw [x3, o2]
        · rw [f2.1 k h e14, o2]
      · rw [z2.2 k x y z, p1 k y, f2.2.1 k x y, o1 k z]
theorem makeR {Wl : Nat → Option WV} {a : MSt} (hA : AG Wl a) {N9 N2 : Nat} (hN9 : 9000 < N9) (hN2 : 64 < N2) : ∃ b, sM_make a N9 N2 = some b ∧ RG Wl b ∧ AG Wl b ∧ (∀ k, k ≠ 13 → k ≠ 14 → k ≠ 20 → k ≠ 28 → k ≠ 29 → k ≠ 30 → k ≠ 31 → b.1 k = a.1 k) ∧ (∀ k, (k < 8 ∨ 32 < k) → b.2.1 k = a.2.1 k) := by
  obtain ⟨a1, a2, a3, a4, a5⟩ := all_le (Wl := Wl) (fun i v h => hA.ok h)
  have e0 : mV 20 0 (mV 31 0 (mV 30 0 (mV 29 0 (mV 28 0 (mV 14 0 (mV 13 0 a)))))) = mV 20 0 (mV 31 0 (mV 30 0 (mV 29 0 (mV 28 0 (mV 14 0 (mV 13 0 a)))))) := rfl
  have I0 : MI (mV 20 0 (mV 31 0 (mV 30 0 (mV 29 0 (mV 28 0 (mV 14 0 (mV 13 0 a))))))) 0 0 0 0 0 0 0 := ⟨rfl, rfl, rfl, rfl, rfl, rfl, rfl⟩
  have S0 : ∀ k, k ≠ 13 → k ≠ 14 → k ≠ 20 → k ≠ 28 → k ≠ 29 → k ≠ 30 → k ≠ 31 → (mV 20 0 (mV 31 0 (mV 30 0 (mV 29 0 (mV 28 0 (mV 14 0 (mV 13 0 a))))))).1 k = a.1 k := by
    intro k h1 h2 h3 h4 h5 h6 h7
    rw [mV_n _ _ h3, mV_n _ _ h7, mV_n _ _ h6, mV_n _ _ h5, mV_n _ _ h4, mV_n _ _ h2, mV_n _ _ h1]
  have T0 : (mV 20 0 (mV 31 0 (mV 30 0 (mV 29 0 (mV 28 0 (mV 14 0 (mV 13 0 a))))))).2 = a.2 := rfl
  unfold sM_make
  generalize mV 20 0 (mV 31 0 (mV 30 0 (mV 29 0 (mV 28 0 (mV 14 0 (mV 13 0 a)))))) = s0 at *
  obtain ⟨b1, z1, z2, z3, z4, z5⟩ := iniR (Wl := Wl) 64 0 N9 [] s0 rfl (by omega) (hA.move (fun k _ => by rw [T0])) HL.nil (by decide) I0.1 (fun w hw => by omega)
  rw [List.nil_append] at z1 z3 z4
  rw [show nI ([] : List Pc).length = (0 : Int32) from rfl, show nI 0 = (0 : Int32) from rfl] at z1
  rw [z1]
  dsimp only
  obtain ⟨b2, p1, p2, p3, p4, p5, p6, p7, p8, p9, p10⟩ := pushR (a := b1) (t := 0) (by rw [z2.1 20 (by decide)]; exact I0.2.2.1) (by decide) 0 (nI (iniL Wl 64 0).length) (-1) 0
  rw [p1]
  dsimp only
  have A2 : AG Wl b2 := hA.move (fun k hk => by rw [p5 k (by omega), z2.2 k (by omega) (by omega) (by omega), T0])
  have H2 : HL Wl b2 (iniL Wl 64 0).length 0 (iniL Wl 64 0) := z3.frT (frT.ofPush (t := 0) (fr := (iniL Wl 64 0).length) (k0 := 0) (p0 := 0) (n := (iniL Wl 64 0).length) (kk := 0) (jd := 0) (Nat.le_refl _) p3 p4 p5 p6) (by omega) (Nat.le_refl _)
  have I2 : MI b2 (iniL Wl 64 0).length 0 (0 + 1) 0 0 0 0 := by
    refine ⟨?_, ?_, p2, ?_, ?_, ?_, ?_⟩
    · rw [p3 13 (by decide)]; exact z4
    · rw [p3 14 (by decide), z2.1 14 (by decide)]; exact I0.2.1
    · rw [p3 28 (by decide), z2.1 28 (by decide)]; exact I0.2.2.2.1
    · rw [p3 29 (by decide), z2.1 29 (by decide)]; exact I0.2.2.2.2.1
    · rw [p3 30 (by decide), z2.1 30 (by decide)]; exact I0.2.2.2.2.2.1
    · rw [p3 31 (by decide), z2.1 31 (by decide)]; exact I0.2.2.2.2.2.2
  have t64 : tri 64 = 2080 := by decide
  obtain ⟨M, hM⟩ : ∃ M, N9 = (M + 1) + (2 * nN Wl 64 (iniL Wl 64 0) + 1) := ⟨N9 - (2 * nN Wl 64 (iniL Wl 64 0) + 2), by omega⟩
  obtain ⟨b3, y1, y2, y3, -, y5, y6, y7⟩ := makR Wl N9 N2 (by omega) hN2 64 (iniL Wl 64 0) (Nat.le_refl _) a1 b2 (iniL Wl 64 0).length 0 0 0 0 0 0 0 0 (M + 1) 0 (-1) 0 I2 A2 a2 H2 (Or.inl ⟨rfl, rfl⟩) ⟨fun _ => rfl, fun e => absurd rfl e⟩ ⟨p7, p8, p9, p10⟩ (by decide) (by rw [t64]; decide) (by omega) (by omega) (by omega)
  have ee : sMakM N9 N2 N9 b2 = some b3 := by
    rw [show sMakM N9 N2 N9 b2 = sMakM N9 N2 ((M + 1) + (2 * nN Wl 64 (iniL Wl 64 0) + 1)) b2 from congrArg (fun x => sMakM N9 N2 x b2) hM, y1]
    unfold sMakM
    rw [y3.2.2.1, if_pos (by decide)]
  rw [ee]
  dsimp only
  simp only [Nat.zero_add] at y3
  refine ⟨b3, rfl, ⟨⟨_, by omega, y6⟩, y3.2.1, y3.2.2.2.1, y3.2.2.2.2.1, y3.2.2.2.2.2.1, y3.2.2.2.2.2.2, y5, fun w hw => ?_⟩, A2.frT y2, fun k h1 h2 h3 h4 h5 h6 h7 => ?_, fun k hk => ?_⟩
  · rw [y7 w hw, p5 32 (by decide), z5 w hw, Int32.zero_add]
  · rw [y2.1 k h1 h2 h3 h4 h5 h6 h7, p3 k h3, z2.1 k h1, S0 k h1 h2 h3 h4 h5 h6 h7]
  · rw [y2.2.1 k hk, p5 k (by omega), z2.2 k (by omega) (by omega) (by omega), T0]
theorem RG.move {Wl : Nat → Option WV} {a b : MSt} (h : RG Wl a) (h1 : ∀ k, k ≠ 0 → k ≠ 7 → k < 33 → k ≠ 6 → b.1 k = a.1 k) (h2 : ∀ k, 8 ≤ k → k < 33 → b.2.1 k = a.2.1 k) (h3 : b.2.2 = a.2.2) : RG Wl b := by
  obtain ⟨⟨n, hn, hq⟩, e14, e28, e29, e30, e31, hx, hw⟩ := h
  refine ⟨⟨n, hn, fun i p e => ?_⟩, by rw [h1 14 (by decide) (by decide) (by decide) (by decide)]; exact e14, by rw [h1 28 (by decide) (by decide) (by decide) (by decide)]; exact e28, by rw [h1 29 (by decide) (by decide) (by decide) (by decide)]; exact e29, by rw [h1 30 (by decide) (by decide) (by decide) (by decide)]; exact e30, by rw [h1 31 (by decide) (by decide) (by decide) (by decide)]; exact e31, fun x hx2 => ?_, fun w hw2 => by rw [h2 32 (by decide) (by decide)]; exact hw w hw2⟩
  · obtain ⟨j, hj, q1, q2⟩ := hq i p e
    refine ⟨j, hj, by rw [h2 27 (by decide) (by decide)]; exact q1, ?_⟩
    unfold HP at q2 ⊢
    rw [h2 8 (by decide) (by decide), h3]
    exact q2
  · have := hx x hx2
    unfold NR at this ⊢
    rw [h2 21 (by decide) (by decide), h2 22 (by decide) (by decide), h2 23 (by decide) (by decide), h2 24 (by decide) (by decide), h2 25 (by decide) (by decide), h2 26 (by decide) (by decide)]
    exact this
theorem knowR {Wl : Nat → Option WV} {a : MSt} (hA : AG Wl a) (hk : a.1 7 ≠ 0 → RG Wl a) {N9 N2 : Nat} (hN9 : 9000 < N9) (hN2 : 64 < N2) : ∃ b, sM_know a N9 N2 = some b ∧ RG Wl b ∧ AG Wl b ∧ b.1 7 ≠ 0 ∧ (∀ k, (k < 7 ∨ 32 < k) → b.1 k = a.1 k) ∧ (∀ k, (k < 8 ∨ 32 < k) → b.2.1 k = a.2.1 k) := by
  unfold sM_know
  by_cases e : a.1 7 = 0
  · rw [if_pos e]
    obtain ⟨b, z1, z2, z3, z4, z5⟩ := makeR hA hN9 hN2
    rw [z1]
    dsimp only
    refine ⟨_, rfl, z2.move (fun k _ h _ _ => mV_n _ _ h) (fun _ _ _ => rfl) rfl, z3.move (fun _ _ => rfl), by rw [mV_s]; decide, fun k hk => ?_, fun k hk => ?_⟩
    · rw [mV_n _ _ (by omega), z4 k (by omega) (by omega) (by omega) (by omega) (by omega) (by omega) (by omega)]
    · rw [mV_2]; exact z5 k hk
  · rw [if_neg e]
    exact ⟨a, rfl, hk e, hA, e, fun _ _ => rfl, fun _ _ => rfl⟩
