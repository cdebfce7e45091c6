theorem BT.fr36 {Wl : Nat → Option WV} {s : TSt} {a b : MSt} (h : BT Wl s a) (f : fr36 0 a b) : BT Wl s b := by
  obtain ⟨hC, ⟨⟨n, hn, hq⟩, e14, e28, e29, e30, e31, hx, hw⟩, hA⟩ := h
  refine ⟨hC, ⟨⟨n, hn, fun i p e => ?_⟩, by rw [f.1]; exact e14, by rw [f.1]; exact e28, by rw [f.1]; exact e29, by rw [f.1]; exact e30, by rw [f.1]; exact e31, fun x hx2 => f.nr (hx x hx2), fun w hw2 => by rw [f.2.2.1 32 (by decide)]; exact hw w hw2⟩, f.ag hA⟩
  obtain ⟨j, hj, q1, e8, w, hw', e9⟩ := hq i p e
  exact ⟨j, hj, by rw [f.2.2.1 27 (by decide)]; exact q1, by rw [f.2.2.1 8 (by decide)]; exact e8, w, hw', by rw [f.2.1]; exact e9⟩
def SUH (Wl : Nat → Option WV) (HM : List Int32) (D : Nat) (L : List Pc) (k0 p0 : Nat) : Prop := ∃ A B, HM = A ++ (hms Wl D L k0 ++ B) ∧ A.length = p0
theorem SUH.kids {Wl : Nat → Option WV} {HM : List Int32} {D : Nat} {p : Pc} {T : List Pc} {k0 p0 : Nat} (h : SUH Wl HM (D + 1) (p :: T) k0 p0) : (∀ i, i < (onL Wl (bst Wl (p :: T)) (p :: T)).length → HM[p0 + i]? = some (nI k0)) ∧ SUH Wl HM D (lfL Wl (bst Wl (p :: T)) (p :: T)) (k0 + 1) (p0 + (onL Wl (bst Wl (p :: T)) (p :: T)).length) ∧ SUH Wl HM D (rgL Wl (bst Wl (p :: T)) (p :: T)) (k0 + (nN Wl D (lfL Wl (bst Wl (p :: T)) (p :: T)) + 1)) (p0 + (onL Wl (bst Wl (p :: T)) (p :: T)).length + (pcs Wl D (lfL Wl (bst Wl (p :: T)) (p :: T))).length) := by
  obtain ⟨A, B, e, hA⟩ := h
  have gH : hms Wl (D + 1) (p :: T) k0 = List.replicate (onL Wl (bst Wl (p :: T)) (p :: T)).length (nI k0) ++ (hms Wl D (lfL Wl (bst Wl (p :: T)) (p :: T)) (k0 + 1) ++ hms Wl D (rgL Wl (bst Wl (p :: T)) (p :: T)) (k0 + (nN Wl D (lfL Wl (bst Wl (p :: T)) (p :: T)) + 1))) := rfl
  rw [gH] at e
  refine ⟨fun i hi => ?_, ⟨A ++ List.replicate (onL Wl (bst Wl (p :: T)) (p :: T)).length (nI k0), hms Wl D (rgL Wl (bst Wl (p :: T)) (p :: T)) (k0 + (nN Wl D (lfL Wl (bst Wl (p :: T)) (p :: T)) + 1)) ++ B, ?_, ?_⟩, ⟨A ++ List.replicate (onL Wl (bst Wl (p :: T)) (p :: T)).length (nI k0) ++ hms Wl D (lfL Wl (bst Wl (p :: T)) (p :: T)) (k0 + 1), B, ?_, ?_⟩⟩
  · rw [e, List.getElem?_append_right (by omega), List.append_assoc, List.getElem?_append_left (by rw [List.length_replicate]; omega), List.getElem?_replicate, if_pos (by omega)]
  · rw [e]; simp only [List.append_assoc]
  · rw [List.length_append, List.length_replicate, hA]
  · rw [e]; simp only [List.append_assoc]
  · rw [List.length_append, List.length_append, List.length_replicate, hms_len, hA]
theorem wayInfo {Wl : Nat → Option WV} {ND : List Nd} {P : Nat} {HM : List Int32} (x y : Int32) : ∀ (D : Nat) (L : List Pc) (k0 p0 l0 : Nat) (z : Wy), SUB Wl ND P D L k0 p0 l0 → SUH Wl HM D L k0 p0 → z ∈ wayT Wl x y D L k0 p0 → z.1 < ND.length ∧ fpf ND P z.1 = z.2.1 ∧ HM[z.2.1 + z.2.2]? = some (nI z.1) ∧ (∃ u, ND[z.1]? = some u ∧ u.2.2.1 = z.2.1) ∧ z.2.1 + z.2.2 < p0 + (pcs Wl D L).length := by
  intro D
  induction D with
  | zero => intro L k0 p0 l0 z _ _ h; cases h
  | succ D ih =>
    intro L k0 p0 l0 z hs hh h
    cases L with
    | nil => cases h
    | cons p T =>
      obtain ⟨g, h1, h2⟩ := hs.kids
      obtain ⟨g1, u1, u2⟩ := hh.kids
      obtain ⟨f1, -, -⟩ := hs.first
      have hi : k0 < ND.length := (List.getElem?_eq_some_iff.1 g).1
      have gP : pcs Wl (D + 1) (p :: T) = onL Wl (bst Wl (p :: T)) (p :: T) ++ (pcs Wl D (lfL Wl (bst Wl (p :: T)) (p :: T)) ++ pcs Wl D (rgL Wl (bst Wl (p :: T)) (p :: T))) := rfl
      rw [gP, List.length_append, List.length_append]
      have ow : z ∈ ownW (onL Wl (bst Wl (p :: T)) (p :: T)).length k0 p0 → z.1 < ND.length ∧ fpf ND P z.1 = z.2.1 ∧ HM[z.2.1 + z.2.2]? = some (nI z.1) ∧ (∃ u, ND[z.1]? = some u ∧ u.2.2.1 = z.2.1) ∧ z.2.1 + z.2.2 < p0 + ((onL Wl (bst Wl (p :: T)) (p :: T)).length + ((pcs Wl D (lfL Wl (bst Wl (p :: T)) (p :: T))).length + (pcs Wl D (rgL Wl (bst Wl (p :: T)) (p :: T))).length)) := by
        intro hz
        obtain ⟨i, hir, rfl⟩ := List.mem_map.1 hz
        have hi2 := List.mem_range.1 hir
        exact ⟨hi, f1, g1 i hi2, ⟨_, g, rfl⟩, by show p0 + i < _; omega⟩
      have i1 : z ∈ wayT Wl x y D (lfL Wl (bst Wl (p :: T)) (p :: T)) (k0 + 1) (p0 + (onL Wl (bst Wl (p :: T)) (p :: T)).length) → z.1 < ND.length ∧ fpf ND P z.1 = z.2.1 ∧ HM[z.2.1 + z.2.2]? = some (nI z.1) ∧ (∃ u, ND[z.1]? = some u ∧ u.2.2.1 = z.2.1) ∧ z.2.1 + z.2.2 < p0 + ((onL Wl (bst Wl (p :: T)) (p :: T)).length + ((pcs Wl D (lfL Wl (bst Wl (p :: T)) (p :: T))).length + (pcs Wl D (rgL Wl (bst Wl (p :: T)) (p :: T))).length)) := by
        intro hz
        obtain ⟨a1, a2, a3, a4, a5⟩ := ih _ _ _ _ z h1 u1 hz
        exact ⟨a1, a2, a3, a4, by omega⟩
      have i2 : z ∈ wayT Wl x y D (rgL Wl (bst Wl (p :: T)) (p :: T)) (k0 + (nN Wl D (lfL Wl (bst Wl (p :: T)) (p :: T)) + 1)) (p0 + (onL Wl (bst Wl (p :: T)) (p :: T)).length + (pcs Wl D (lfL Wl (bst Wl (p :: T)) (p :: T))).length) → z.1 < ND.length ∧ fpf ND P z.1 = z.2.1 ∧ HM[z.2.1 + z.2.2]? = some (nI z.1) ∧ (∃ u, ND[z.1]? = some u ∧ u.2.2.1 = z.2.1) ∧ z.2.1 + z.2.2 < p0 + ((onL Wl (bst Wl (p :: T)) (p :: T)).length + ((pcs Wl D (lfL Wl (bst Wl (p :: T)) (p :: T))).length + (pcs Wl D (rgL Wl (bst Wl (p :: T)) (p :: T))).length)) := by
        intro hz
        obtain ⟨a1, a2, a3, a4, a5⟩ := ih _ _ _ _ z h2 u2 hz
        exact ⟨a1, a2, a3, a4, by omega⟩
      have h' : z ∈ (if lftI Wl (bst Wl (p :: T)) x y = 0 then _ else _ : List Wy) := h
      split at h'
      · rcases List.mem_append.1 h' with q | q
        · exact i2 q
        · rcases List.mem_append.1 q with q | q
          · exact ow q
          · exact i1 q
      · rcases List.mem_append.1 h' with q | q
        · exact i1 q
        · rcases List.mem_append.1 q with q | q
          · exact ow q
          · exact i2 q
theorem nodeOfR {m1s : Int32 → Int32} (hm : ∀ x, m1s x = -1 - x) {Wl : Nat → Option WV} {s : TSt} {b : MSt} (h : BT Wl s b) (hx : okI (b.1 34)) (hy : okI (b.1 35)) {N9 : Nat} (hN9 : 9000 < N9) {r : Nat} {z : Wy} (hz : (wayT Wl (b.1 34) (b.1 35) 64 (iniL Wl 64 0) 0 0)[r]? = some z) : ∃ c, sM_nodeOf m1s b (nI r) N9 = some (c, nI z.1) ∧ fr36 0 b c := by
  have hA := h.2.2
  obtain ⟨ND, P, n1, n2, n3, n4, n5, n6, n7, n8, n9, n10, n11, n12⟩ := h.node
  have hr : r < P := by
    have := (List.getElem?_eq_some_iff.1 hz).1
    rw [wayT_len, n12] at this
    exact this
  have nn : nN Wl 64 (iniL Wl 64 0) ≠ 0 := fun e => by
    have e2 := nN0 Wl 64 _ n9.1 e
    rw [e2, (nds_nil Wl 64 0 0 0).2.1] at n12
    rw [← n12] at hr
    exact absurd hr (by simp)
  have f0 : fr36 0 b (mI 36 0 0 b) := fr36.put (s := 0) (x := 0) (by decide) (Nat.le_refl _)
  obtain ⟨M, hM⟩ : ∃ M, N9 = M + 2 * nN Wl 64 (iniL Wl 64 0) := ⟨N9 - 2 * nN Wl 64 (iniL Wl 64 0), by omega⟩
  obtain ⟨g1, -⟩ := noR (m1s := m1s) hm n1 hx hy 64 _ 0 0 0 0 M r (mI 36 0 0 b) n9 nn n10 (f0.ag hA) (fun z hz => f0.nr (n5 z hz)) rfl rfl (mI_s (k := 36) (x := 0) 0 b (by decide)) (by decide) (by omega) (by omega) (by omega)
  obtain ⟨c, c1, c2⟩ := g1 z hz
  refine ⟨c, ?_, f0.trans c2 (Nat.le_refl _)⟩
  unfold sM_nodeOf
  rw [if_pos (show vpin 0 8600 from vpin_nI (j := 0) (n := 8600) (by decide) (by decide)), mI_1, n7, if_neg (nI_nle (by omega) (by omega))]
  rw [← hM] at c1
  exact c1
theorem aheadR {m1s : Int32 → Int32} (hm : ∀ x, m1s x = -1 - x) {Wl : Nat → Option WV} {s : TSt} {N9 : Nat} (hN9 : 9000 < N9) {z : Wy} {t : Nat} : ∀ (m q N : Nat) (b : MSt), BT Wl s b → okI (b.1 34) → okI (b.1 35) → q + m = t → m < N → (wayT Wl (b.1 34) (b.1 35) 64 (iniL Wl 64 0) 0 0)[t]? = some (z.1, z.2.1, 0) → (∀ (j : Nat) (u : Wy), j < t → (wayT Wl (b.1 34) (b.1 35) 64 (iniL Wl 64 0) 0 0)[j]? = some u → u.1 ≠ z.1) → z.1 < 4200 → (∀ (j : Nat) (u : Wy), (wayT Wl (b.1 34) (b.1 35) 64 (iniL Wl 64 0) 0 0)[j]? = some u → u.1 < 4200) → ∃ c, sAhL m1s (nI z.1) N9 N b (nI q) = some (c, nI t) ∧ fr36 0 b c := by
  intro m
  induction m with
  | zero =>
    intro q N b h hx hy hq hN hz hne hk hu
    obtain ⟨N, rfl⟩ : ∃ N', N = N' + 1 := ⟨N - 1, by omega⟩
    obtain rfl : q = t := hq
    obtain ⟨c, c1, c2⟩ := nodeOfR hm h hx hy hN9 hz
    refine ⟨c, ?_, c2⟩
    unfold sAhL
    rw [c1]
    dsimp only
    rw [if_pos rfl]
  | succ m ih =>
    intro q N b h hx hy hq hN hz hne hk hu
    obtain ⟨N, rfl⟩ : ∃ N', N = N' + 1 := ⟨N - 1, by omega⟩
    have tl : t < (wayT Wl (b.1 34) (b.1 35) 64 (iniL Wl 64 0) 0 0).length := (List.getElem?_eq_some_iff.1 hz).1
    have ql : q < (wayT Wl (b.1 34) (b.1 35) 64 (iniL Wl 64 0) 0 0).length := by omega
    have eq : (wayT Wl (b.1 34) (b.1 35) 64 (iniL Wl 64 0) 0 0)[q]? = some (wayT Wl (b.1 34) (b.1 35) 64 (iniL Wl 64 0) 0 0)[q] := List.getElem?_eq_getElem ql
    generalize (wayT Wl (b.1 34) (b.1 35) 64 (iniL Wl 64 0) 0 0)[q] = u at eq
    obtain ⟨c, c1, c2⟩ := nodeOfR hm h hx hy hN9 eq
    have un := hne q u (by omega) eq
    have uk := hu q u eq
    have e34 : c.1 34 = b.1 34 := by rw [c2.1]
    have e35 : c.1 35 = b.1 35 := by rw [c2.1]
    unfold sAhL
    rw [c1]
    dsimp only
    rw [if_neg (fun e => un ((nI_eq (by omega) (by omega)).1 e)), nI_1]
    obtain ⟨d, d1, d2⟩ := ih (q + 1) N c (h.fr36 c2) (by rw [e34]; exact hx) (by rw [e35]; exact hy) (by omega) (by omega) (by rw [e34, e35]; exact hz) (by rw [e34, e35]; exact hne) hk (by rw [e34, e35]; exact hu)
    exact ⟨d, d1, c2.trans d2 (Nat.le_refl _)⟩
theorem stepEq {m1s : Int32 → Int32} (hm : ∀ x, m1s x = -1 - x) {Wl : Nat → Option WV} {s : TSt} {a b : MSt} (h : BT Wl s b) (i what : Int32) {N9 N2 : Nat} (hN9 : 9000 < N9) (kn : sM_know (mV 0 0 a) N9 N2 = some b) (hxy : b.1 33 ≠ 0 → okI (b.1 34) ∧ okI (b.1 35)) : ∃ c r, sM_step m1s a i what N9 N2 = some (c, r) ∧ fr36 0 b c ∧ r = (if b.1 33 = 0 then -1 else if what = 0 then sT_wallOfPiece s.2 Wl (sT_pieceOnWay s.2 Wl (b.1 34) (b.1 35) i) else if what = 1 then sT_nodeOfPiece s.2 Wl (sT_pieceOnWay s.2 Wl (b.1 34) (b.1 35) i) else if what = 2 then sT_placeInNode s.2 Wl (sT_pieceOnWay s.2 Wl (b.1 34) (b.1 35) i) else -1) := by
  have hA := h.2.2
  obtain ⟨ND, P, n1, n2, n3, n4, n5, n6, n7, n8, n9, n10, n11, n12⟩ := h.node
  unfold sM_step
  rw [kn]
  dsimp only
  by_cases e33 : b.1 33 = 0
  · rw [if_pos e33, if_pos e33]
    exact ⟨b, _, rfl, fr36.refl _ _, rfl⟩
  · obtain ⟨hx, hy⟩ := hxy e33
    rw [if_neg e33, if_neg e33]
    have neg : ∀ j, j = (-1 : Int32) → (if what = 0 then sT_wallOfPiece s.2 Wl j else if what = 1 then sT_nodeOfPiece s.2 Wl j else if what = 2 then sT_placeInNode s.2 Wl j else -1) = -1 := by
      intro j hj
      subst hj
      unfold sT_wallOfPiece sT_nodeOfPiece sT_placeInNode
      rw [rAt_neg, rAt_neg, if_pos rfl]
      repeat' split
      all_goals rfl
    by_cases i0 : i < 0
    · rw [if_pos i0]
      refine ⟨b, _, rfl, fr36.refl _ _, ?_⟩
      rw [neg _ (by unfold sT_pieceOnWay; rw [if_neg (fun q => by rw [Int32.le_iff_toInt_le] at q; rw [Int32.lt_iff_toInt_lt] at i0; omega)])]
    · obtain ⟨r, hr, rfl⟩ := nI_of i0
      rw [if_neg i0, n8]
      have pw : sT_pieceOnWay s.2 Wl (b.1 34) (b.1 35) (nI r) = wyC (wayT Wl (b.1 34) (b.1 35) 64 (iniL Wl 64 0) 0 0)[r]? := by
        unfold sT_pieceOnWay
        rw [if_pos (nI_pos' hr)]
        have c := wayC n3 (by omega) n4 (b.1 34) (b.1 35) 64 _ 0 0 0 r n9 hr (by omega)
        by_cases e : nN Wl 64 (iniL Wl 64 0) = 0
        · have e2 := nN0 Wl 64 _ n9.1 e
          have hh : sT_hasNode s.2 Wl 0 = 0 := by
            have := hasNodeC n3 (by omega) Wl (k := 0) (by decide)
            rw [if_neg (by omega)] at this
            exact this
          rw [e2]
          show (if sT_hasNode s.2 Wl 0 = 0 then (-1 : Int32) else _) = wyC ([] : List Wy)[r]?
          rw [hh, if_pos rfl]
          simp [wyC]
        · have a0 : an (nN Wl 64 (iniL Wl 64 0)) 0 = nI 0 := if_neg e
          rw [a0] at c
          exact c
      by_cases rp : P ≤ r
      · rw [if_pos (nI_le rp hr)]
        refine ⟨b, _, rfl, fr36.refl _ _, ?_⟩
        rw [neg _ (by rw [pw, List.getElem?_eq_none (by rw [wayT_len, n12]; exact rp)]; rfl)]
      · rw [if_neg (nI_ge (by omega) (by omega))]
        by_cases w0 : what < 0
        · rw [if_pos w0]
          refine ⟨b, _, rfl, fr36.refl _ _, ?_⟩
          rw [if_neg (fun q => by rw [q] at w0; exact absurd w0 (by decide)), if_neg (fun q => by rw [q] at w0; exact absurd w0 (by decide)), if_neg (fun q => by rw [q] at w0; exact absurd w0 (by decide))]
        · rw [if_neg w0]
          by_cases w2 : what ≤ 2
          · rw [if_pos w2]
            have wl : r < (wayT Wl (b.1 34) (b.1 35) 64 (iniL Wl 64 0) 0 0).length := by rw [wayT_len, n12]; omega
            have ez : (wayT Wl (b.1 34) (b.1 35) 64 (iniL Wl 64 0) 0 0)[r]? = some (wayT Wl (b.1 34) (b.1 35) 64 (iniL Wl 64 0) 0 0)[r] := List.getElem?_eq_getElem wl
            generalize (wayT Wl (b.1 34) (b.1 35) 64 (iniL Wl 64 0) 0 0)[r] = z at ez
            have hmH : SUH Wl (hms Wl 64 (iniL Wl 64 0) 0) 64 (iniL Wl 64 0) 0 0 := ⟨[], [], by simp, rfl⟩
            have info := fun z hz => wayInfo (Wl := Wl) (ND := ND) (P := P) (b.1 34) (b.1 35) 64 _ 0 0 0 z n9 hmH hz
            obtain ⟨i1, i2, i3, ⟨u, i4, i5⟩, i6⟩ := info z (List.mem_of_getElem? ez)
            obtain ⟨h1, h2, h3⟩ := ahd_way Wl (b.1 34) (b.1 35) 64 (iniL Wl 64 0) 0 0 r z ez
            obtain ⟨c, c1, c2⟩ := nodeOfR hm h hx hy hN9 ez
            have e34 : c.1 34 = b.1 34 := by rw [c2.1]
            have e35 : c.1 35 = b.1 35 := by rw [c2.1]
            obtain ⟨d, d1, d2⟩ := aheadR (z := z) (t := r - z.2.2) hm hN9 (r - z.2.2) 0 N9 c (h.fr36 c2) (by rw [e34]; exact hx) (by rw [e35]; exact hy) (by omega) (by omega) (by rw [e34, e35]; exact h2) (by rw [e34, e35]; exact fun j u hj hu => h3 j u hj hu) (by omega) (by rw [e34, e35]; exact fun j u hu => by have := (info u (List.mem_of_getElem? hu)).1; omega)
            have dd : sM_aheadOf m1s c (nI z.1) N9 = some (d, nI (r - z.2.2)) := by
              unfold sM_aheadOf
              rw [show (0 : Int32) = nI 0 from rfl, d1]
            rw [Nat.zero_add, n12] at i6
            have pz : sT_pieceOnWay s.2 Wl (b.1 34) (b.1 35) (nI r) = nI (z.2.1 + z.2.2) := by rw [pw, ez]; rfl
            have home : rAt (s.2 9) (nI (z.2.1 + z.2.2)) = nI z.1 := by
              obtain ⟨⟨F, hF, hC⟩, -, -⟩ := h
              have lh : (hms Wl 64 (iniL Wl 64 0) 0).length = P := by rw [hms_len, n12]
              rw [hC.2.2.1]
              unfold rAt
              rw [if_neg (nI_pos (by omega)), lh, if_neg (nI_ge i6 (by omega)), nI_clamp (by omega), List.getD_eq_getElem?_getD, i3]
              rfl
            have sb : nI r - nI (r - z.2.2) = nI z.2.2 := by
              obtain ⟨q, hq⟩ : ∃ q, r = q + z.2.2 := ⟨r - z.2.2, by omega⟩
              rw [show r - z.2.2 = q by omega, hq, nI_subl]
            have pl : sT_placeInNode s.2 Wl (nI (z.2.1 + z.2.2)) = nI z.2.2 := by
              unfold sT_placeInNode
              rw [if_neg (fun q => absurd (show nI (z.2.1 + z.2.2) < 0 by rw [q]; decide) (nI_pos (by omega))), home, fpfC n3 (by omega) n4 Wl (by omega), i2, nI_subl]
            rw [c1, pz]
            dsimp only
            rw [dd]
            dsimp only
            rw [sb, pl]
            unfold sT_nodeOfPiece sT_wallOfPiece
            rw [home]
            by_cases v1 : what = 1
            · rw [if_pos v1, if_neg (by rw [v1]; decide), if_pos v1]
              exact ⟨c, _, rfl, c2, rfl⟩
            · rw [if_neg v1]
              by_cases v2 : what = 2
              · rw [if_pos v2, if_neg (by rw [v2]; decide), if_neg v1, if_pos v2]
                exact ⟨d, _, rfl, c2.trans d2 (Nat.le_refl _), rfl⟩
              · have v0 : what = 0 := by
                  apply Int32.toInt_inj.1
                  have t1 : what.toInt ≠ 1 := fun q => v1 (Int32.toInt_inj.1 q)
                  have t2 : what.toInt ≠ 2 := fun q => v2 (Int32.toInt_inj.1 q)
                  rw [Int32.lt_iff_toInt_lt] at w0
                  rw [Int32.le_iff_toInt_le, show (2 : Int32).toInt = 2 from by decide] at w2
                  rw [Int32.toInt_zero] at w0 ⊢
                  omega
                have fd := c2.trans d2 (Nat.le_refl _)
                obtain ⟨p, x, q1, q2, q3, q4, q5, q6, q7⟩ := (h.fr36 fd).piece (x := z.2.1 + z.2.2) (by rw [n12]; exact i6)
                have r25 : d.2.1 25 z.1 = nI z.2.1 := by
                  rw [fd.2.2.1 25 (by decide)]
                  obtain ⟨-, -, -, -, t5, -⟩ := n5 _ (List.mem_of_getElem? i4)
                  rw [n6 _ _ i4] at t5
                  rw [t5, i5]
                rw [if_neg v2, if_pos v0, if_pos (vpin_nI (show z.1 < 4200 by omega) (by decide)), nI_clamp (n := z.1) (by omega), r25, nI_add, if_pos (vpin_nI (show z.2.1 + z.2.2 < 8300 by omega) (by decide)), nI_clamp (n := z.2.1 + z.2.2) (by omega), q3, if_pos (vpin_nI q2 (by decide)), nI_clamp (n := x) (by omega), q4.1]
                exact ⟨d, _, rfl, fd, q5.symm⟩
          · rw [if_neg w2]
            refine ⟨b, _, rfl, fr36.refl _ _, ?_⟩
            rw [if_neg (fun q => w2 (by rw [q]; decide)), if_neg (fun q => w2 (by rw [q]; decide)), if_neg (fun q => w2 (by rw [q]; decide))]
