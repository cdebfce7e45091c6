/-- what nodeOf changes: the stack from s on -/
def fr36 (s : Nat) (a b : MSt) : Prop := b.1 = a.1 ∧ b.2.2 = a.2.2 ∧ (∀ k, k ≠ 36 → b.2.1 k = a.2.1 k) ∧ ∀ j, j < s → b.2.1 36 j = a.2.1 36 j
theorem fr36.refl (s : Nat) (a : MSt) : fr36 s a a := ⟨rfl, rfl, fun _ _ => rfl, fun _ _ => rfl⟩
theorem fr36.trans {s s' : Nat} {a b c : MSt} (h : fr36 s a b) (g : fr36 s' b c) (hs : s ≤ s') : fr36 s a c :=
  ⟨g.1.trans h.1, g.2.1.trans h.2.1, fun k x => (g.2.2.1 k x).trans (h.2.2.1 k x), fun j x => (g.2.2.2 j (by omega)).trans (h.2.2.2 j x)⟩
theorem fr36.put {s x : Nat} {v : Int32} {a : MSt} (hx : x < 2 ^ 31) (h : s ≤ x) : fr36 s a (mI 36 (nI x) v a) := ⟨rfl, rfl, fun _ hk => mI_n _ _ _ hk, fun _ hj => mI_o _ _ hx (by omega)⟩
theorem fr36.nr {s : Nat} {a b : MSt} {z : Nd} (h : fr36 s a b) (n : NR a z) : NR b z := by
  unfold NR at n ⊢
  rw [h.2.2.1 21 (by decide), h.2.2.1 22 (by decide), h.2.2.1 23 (by decide), h.2.2.1 24 (by decide), h.2.2.1 25 (by decide), h.2.2.1 26 (by decide)]
  exact n
theorem fr36.ag {Wl : Nat → Option WV} {s : Nat} {a b : MSt} (h : fr36 s a b) (n : AG Wl a) : AG Wl b := n.move (fun k hk => h.2.2.1 k (by omega))
theorem i32_m (x : Int32) : (-1 : Int32) - (-1 - x) = x := by
  rw [Int32.sub_eq_add_neg, Int32.sub_eq_add_neg, Int32.neg_add, Int32.neg_neg, Int32.sub_eq_add_neg, Int32.neg_neg, ← Int32.add_assoc]
  rw [show (-1 : Int32) + 1 = 0 from by decide, Int32.zero_add]
theorem nI_dec (s : Nat) : nI (s + 1) + (-1) = nI s := by
  rw [← Int32.sub_eq_add_neg]
  exact nI_pred s
theorem lk_neg {m l0 k0 : Nat} (hl : l0 < 2 ^ 31) (hk : k0 < 2 ^ 31) : (lk m l0 k0 < 0) ↔ m = 0 := by
  unfold lk
  by_cases e : m = 0
  · rw [if_pos e]; exact ⟨fun _ => e, fun _ => m1n_lt hl⟩
  · rw [if_neg e]; exact ⟨fun h => absurd h (nI_pos hk), fun h => absurd h e⟩
theorem noR {m1s : Int32 → Int32} (hm : ∀ x, m1s x = -1 - x) {Wl : Nat → Option WV} {ND : List Nd} {P : Nat} (hl : ND.length < 4200) {x y : Int32} (hx : okI x) (hy : okI y) : ∀ (D : Nat) (L : List Pc) (k0 p0 l0 s N r : Nat) (a : MSt), SUB Wl ND P D L k0 p0 l0 → nN Wl D L ≠ 0 → (∀ q, q ∈ L → okP Wl q) → AG Wl a → (∀ z, z ∈ ND → NR a z) → a.1 34 = x → a.1 35 = y → a.2.1 36 s = nI k0 → s + D < 8000 → l0 + nN Wl D L < 2 ^ 31 → r < 2 ^ 31 → (pcs Wl D L).length < 2 ^ 31 → (∀ z, (wayT Wl x y D L k0 p0)[r]? = some z → ∃ b, sNoL m1s (N + 2 * nN Wl D L) a (nI (s + 1)) (nI r) = some (b, nI z.1) ∧ fr36 s a b) ∧ ((pcs Wl D L).length ≤ r → ∃ b, sNoL m1s (N + 2 * nN Wl D L) a (nI (s + 1)) (nI r) = sNoL m1s N b (nI s) (nI (r - (pcs Wl D L).length)) ∧ fr36 s a b) := by
  intro D
  induction D with
  | zero => intro L k0 p0 l0 s N r a h h0; exact absurd rfl h0
  | succ D ih =>
    intro L k0 p0 l0 s N r a h h0 hO hA hN e34 e35 hs hsD hb hr hp
    cases L with
    | nil => exact absurd rfl h0
    | cons p T =>
      obtain ⟨g, h1, h2⟩ := h.kids
      obtain ⟨l, hll⟩ := ok_line hO
      obtain ⟨olf, org⟩ := ok_lf hll hA hO
      have hi : k0 < ND.length := (List.getElem?_eq_some_iff.1 g).1
      have gN : nN Wl (D + 1) (p :: T) = nN Wl D (lfL Wl (bst Wl (p :: T)) (p :: T)) + nN Wl D (rgL Wl (bst Wl (p :: T)) (p :: T)) + 1 := rfl
      have gP : pcs Wl (D + 1) (p :: T) = onL Wl (bst Wl (p :: T)) (p :: T) ++ (pcs Wl D (lfL Wl (bst Wl (p :: T)) (p :: T)) ++ pcs Wl D (rgL Wl (bst Wl (p :: T)) (p :: T))) := rfl
      have gW : wayT Wl x y (D + 1) (p :: T) k0 p0 = if lftI Wl (bst Wl (p :: T)) x y = 0 then wayT Wl x y D (rgL Wl (bst Wl (p :: T)) (p :: T)) (k0 + (nN Wl D (lfL Wl (bst Wl (p :: T)) (p :: T)) + 1)) (p0 + (onL Wl (bst Wl (p :: T)) (p :: T)).length + (pcs Wl D (lfL Wl (bst Wl (p :: T)) (p :: T))).length) ++ (ownW (onL Wl (bst Wl (p :: T)) (p :: T)).length k0 p0 ++ wayT Wl x y D (lfL Wl (bst Wl (p :: T)) (p :: T)) (k0 + 1) (p0 + (onL Wl (bst Wl (p :: T)) (p :: T)).length)) else wayT Wl x y D (lfL Wl (bst Wl (p :: T)) (p :: T)) (k0 + 1) (p0 + (onL Wl (bst Wl (p :: T)) (p :: T)).length) ++ (ownW (onL Wl (bst Wl (p :: T)) (p :: T)).length k0 p0 ++ wayT Wl x y D (rgL Wl (bst Wl (p :: T)) (p :: T)) (k0 + (nN Wl D (lfL Wl (bst Wl (p :: T)) (p :: T)) + 1)) (p0 + (onL Wl (bst Wl (p :: T)) (p :: T)).length + (pcs Wl D (lfL Wl (bst Wl (p :: T)) (p :: T))).length)) := rfl
      rw [gN] at hb
      have hle := h.first.2.2
      rw [gN] at hle
      rw [gP, List.length_append, List.length_append] at hp
      have w1 := wayT_len Wl x y D (lfL Wl (bst Wl (p :: T)) (p :: T)) (k0 + 1) (p0 + (onL Wl (bst Wl (p :: T)) (p :: T)).length)
      have w2 := wayT_len Wl x y D (rgL Wl (bst Wl (p :: T)) (p :: T)) (k0 + (nN Wl D (lfL Wl (bst Wl (p :: T)) (p :: T)) + 1)) (p0 + (onL Wl (bst Wl (p :: T)) (p :: T)).length + (pcs Wl D (lfL Wl (bst Wl (p :: T)) (p :: T))).length)
      have z1 : nN Wl D (lfL Wl (bst Wl (p :: T)) (p :: T)) = 0 → (pcs Wl D (lfL Wl (bst Wl (p :: T)) (p :: T))).length = 0 := fun e => by
        rw [nN0 Wl D _ h1.1 e, (nds_nil Wl D 0 0 0).2.1]; rfl
      have z2 : nN Wl D (rgL Wl (bst Wl (p :: T)) (p :: T)) = 0 → (pcs Wl D (rgL Wl (bst Wl (p :: T)) (p :: T))).length = 0 := fun e => by
        rw [nN0 Wl D _ h2.1 e, (nds_nil Wl D 0 0 0).2.1]; rfl
      have mk : m1s (nI k0) = m1n k0 := (hm _).trans (m1n_eq _).symm
      have mm : m1s (m1n k0) = nI k0 := by rw [hm, m1n_eq]; exact i32_m _
      have k4 : k0 < 4200 := by omega
      -- one turn at the node, going down on the near side
      have nrA := hN _ (List.mem_of_getElem? g)
      have down : ∀ M, sNoL m1s (M + 1) a (nI (s + 1)) (nI r) = if (if lftI Wl (bst Wl (p :: T)) x y = 0 then nN Wl D (rgL Wl (bst Wl (p :: T)) (p :: T)) else nN Wl D (lfL Wl (bst Wl (p :: T)) (p :: T))) = 0 then sNoL m1s M (mI 36 (nI s) (m1n k0) a) (nI (s + 1)) (nI r) else sNoL m1s M (mI 36 (nI (s + 1)) (if lftI Wl (bst Wl (p :: T)) x y = 0 then nI (k0 + (nN Wl D (lfL Wl (bst Wl (p :: T)) (p :: T)) + 1)) else nI (k0 + 1)) (mI 36 (nI s) (m1n k0) a)) (nI (s + 1 + 1)) (nI r) := by
        intro M
        obtain ⟨n1, n2, n3, -⟩ := nrA
        dsimp only at n1 n2 n3
        have il := isLeftR hA k4 hll n1 hx hy
        rw [sNoL, if_neg (nI_nle (by omega) (by omega)), nI_dec, if_pos (vpin_nI (by omega) (by decide)), nI_clamp (n := s) (by omega), hs, if_neg (nI_pos (by omega)), e34, e35, il]
        dsimp only
        rw [if_pos (vpin_nI k4 (by decide)), if_pos (vpin_nI k4 (by decide)), nI_clamp (n := k0) (by omega), n2, n3, mk, nI_1, if_pos (vpin_nI (by omega) (by decide)), nI_1]
        simp only [lk_neg (show l0 < 2 ^ 31 by omega) (show k0 + 1 < 2 ^ 31 by omega), lk_neg (show l0 + (nN Wl D (lfL Wl (bst Wl (p :: T)) (p :: T)) + 1) < 2 ^ 31 by omega) (show k0 + (nN Wl D (lfL Wl (bst Wl (p :: T)) (p :: T)) + 1) < 2 ^ 31 by omega)]
        by_cases e : lftI Wl (bst Wl (p :: T)) x y = 0
        · simp only [if_pos e]
          by_cases e2 : nN Wl D (rgL Wl (bst Wl (p :: T)) (p :: T)) = 0
          · rw [if_pos e2, if_pos e2]
          · rw [if_neg e2, if_neg e2]
            unfold lk
            rw [if_neg e2]
        · simp only [if_neg e]
          by_cases e2 : nN Wl D (lfL Wl (bst Wl (p :: T)) (p :: T)) = 0
          · rw [if_pos e2, if_pos e2]
          · rw [if_neg e2, if_neg e2]
            unfold lk
            rw [if_neg e2, if_pos (vpin_nI (show s + 1 < 8600 by omega) (by decide))]
      -- one turn at the node's mark
      have back : ∀ (M t : Nat) (c : MSt), fr36 s a c → c.2.1 36 s = m1n k0 → t < 2 ^ 31 → sNoL m1s (M + 1) c (nI (s + 1)) (nI t) = if (onL Wl (bst Wl (p :: T)) (p :: T)).length ≤ t then (if (if lftI Wl (bst Wl (p :: T)) x y = 0 then nN Wl D (lfL Wl (bst Wl (p :: T)) (p :: T)) else nN Wl D (rgL Wl (bst Wl (p :: T)) (p :: T))) = 0 then sNoL m1s M c (nI s) (nI (t - (onL Wl (bst Wl (p :: T)) (p :: T)).length)) else sNoL m1s M (mI 36 (nI s) (if lftI Wl (bst Wl (p :: T)) x y = 0 then nI (k0 + 1) else nI (k0 + (nN Wl D (lfL Wl (bst Wl (p :: T)) (p :: T)) + 1))) c) (nI (s + 1)) (nI (t - (onL Wl (bst Wl (p :: T)) (p :: T)).length))) else some (c, nI k0) := by
        intro M t c hc hcs ht
        obtain ⟨n1, n2, n3, -, -, n6⟩ := hc.nr nrA
        dsimp only at n1 n2 n3 n6
        have il := isLeftR (hc.ag hA) k4 hll n1 hx hy
        have c34 : c.1 34 = x := by rw [hc.1]; exact e34
        have c35 : c.1 35 = y := by rw [hc.1]; exact e35
        rw [sNoL, if_neg (nI_nle (by omega) (by omega)), nI_dec, if_pos (vpin_nI (by omega) (by decide)), nI_clamp (n := s) (by omega), hcs, if_pos (m1n_lt (by omega)), mm, if_pos (vpin_nI k4 (by decide)), nI_clamp (n := k0) (by omega), n6, c34, c35, il]
        dsimp only
        rw [n2, n3, nI_1]
        simp only [lk_neg (show l0 < 2 ^ 31 by omega) (show k0 + 1 < 2 ^ 31 by omega), lk_neg (show l0 + (nN Wl D (lfL Wl (bst Wl (p :: T)) (p :: T)) + 1) < 2 ^ 31 by omega) (show k0 + (nN Wl D (lfL Wl (bst Wl (p :: T)) (p :: T)) + 1) < 2 ^ 31 by omega)]
        by_cases b : (onL Wl (bst Wl (p :: T)) (p :: T)).length ≤ t
        · have sb : nI t - nI (onL Wl (bst Wl (p :: T)) (p :: T)).length = nI (t - (onL Wl (bst Wl (p :: T)) (p :: T)).length) := by
            obtain ⟨u, rfl⟩ : ∃ u, t = (onL Wl (bst Wl (p :: T)) (p :: T)).length + u := ⟨t - (onL Wl (bst Wl (p :: T)) (p :: T)).length, by omega⟩
            rw [nI_subl, Nat.add_sub_cancel_left]
          rw [if_pos (nI_le b ht), if_pos b, sb]
          by_cases e : lftI Wl (bst Wl (p :: T)) x y = 0
          · simp only [if_pos e]
            by_cases e2 : nN Wl D (lfL Wl (bst Wl (p :: T)) (p :: T)) = 0
            · rw [if_pos e2, if_pos e2]
            · rw [if_neg e2, if_neg e2]
              unfold lk
              rw [if_neg e2]
          · simp only [if_neg e]
            by_cases e2 : nN Wl D (rgL Wl (bst Wl (p :: T)) (p :: T)) = 0
            · rw [if_pos e2, if_pos e2]
            · rw [if_neg e2, if_neg e2]
              unfold lk
              rw [if_neg e2]
        · rw [if_neg (nI_ge (by omega) (by omega)), if_neg b]
      -- the two sides by one row
      have gen : ∀ (Ln Lf : List Pc) (kn pn ln' kf pf lf' : Nat), SUB Wl ND P D Ln kn pn ln' → SUB Wl ND P D Lf kf pf lf' → (∀ q, q ∈ Ln → okP Wl q) → (∀ q, q ∈ Lf → okP Wl q) → ln' + nN Wl D Ln < 2 ^ 31 → lf' + nN Wl D Lf < 2 ^ 31 → (pcs Wl D Ln).length < 2 ^ 31 → (pcs Wl D Lf).length < 2 ^ 31 → (∀ M, sNoL m1s (M + 1) a (nI (s + 1)) (nI r) = if nN Wl D Ln = 0 then sNoL m1s M (mI 36 (nI s) (m1n k0) a) (nI (s + 1)) (nI r) else sNoL m1s M (mI 36 (nI (s + 1)) (nI kn) (mI 36 (nI s) (m1n k0) a)) (nI (s + 1 + 1)) (nI r)) → (∀ (M t : Nat) (c : MSt), fr36 s a c → c.2.1 36 s = m1n k0 → t < 2 ^ 31 → sNoL m1s (M + 1) c (nI (s + 1)) (nI t) = if (onL Wl (bst Wl (p :: T)) (p :: T)).length ≤ t then (if nN Wl D Lf = 0 then sNoL m1s M c (nI s) (nI (t - (onL Wl (bst Wl (p :: T)) (p :: T)).length)) else sNoL m1s M (mI 36 (nI s) (nI kf) c) (nI (s + 1)) (nI (t - (onL Wl (bst Wl (p :: T)) (p :: T)).length))) else some (c, nI k0)) → (∀ z, (wayT Wl x y D Ln kn pn ++ (ownW (onL Wl (bst Wl (p :: T)) (p :: T)).length k0 p0 ++ wayT Wl x y D Lf kf pf))[r]? = some z → ∃ b, sNoL m1s (N + 2 * (nN Wl D Ln + nN Wl D Lf + 1)) a (nI (s + 1)) (nI r) = some (b, nI z.1) ∧ fr36 s a b) ∧ ((pcs Wl D Ln).length + ((onL Wl (bst Wl (p :: T)) (p :: T)).length + (pcs Wl D Lf).length) ≤ r → ∃ b, sNoL m1s (N + 2 * (nN Wl D Ln + nN Wl D Lf + 1)) a (nI (s + 1)) (nI r) = sNoL m1s N b (nI s) (nI (r - ((pcs Wl D Ln).length + ((onL Wl (bst Wl (p :: T)) (p :: T)).length + (pcs Wl D Lf).length)))) ∧ fr36 s a b) := by
        intro Ln Lf kn pn ln' kf pf lf' sN sF oN oF bN bF qN qF dn bk
        have lnN := wayT_len Wl x y D Ln kn pn
        have lnF := wayT_len Wl x y D Lf kf pf
        have zN : nN Wl D Ln = 0 → (pcs Wl D Ln).length = 0 := fun e => by
          rw [nN0 Wl D _ sN.1 e, (nds_nil Wl D 0 0 0).2.1]; rfl
        have zF : nN Wl D Lf = 0 → (pcs Wl D Lf).length = 0 := fun e => by
          rw [nN0 Wl D _ sF.1 e, (nds_nil Wl D 0 0 0).2.1]; rfl
        -- the state at the mark
        have at1 : ((pcs Wl D Ln).length ≤ r → ∃ c, sNoL m1s (N + 2 * (nN Wl D Ln + nN Wl D Lf + 1)) a (nI (s + 1)) (nI r) = sNoL m1s (N + 2 * nN Wl D Lf + 1) c (nI (s + 1)) (nI (r - (pcs Wl D Ln).length)) ∧ fr36 s a c ∧ c.2.1 36 s = m1n k0) ∧ (∀ z, (wayT Wl x y D Ln kn pn)[r]? = some z → ∃ b, sNoL m1s (N + 2 * (nN Wl D Ln + nN Wl D Lf + 1)) a (nI (s + 1)) (nI r) = some (b, nI z.1) ∧ fr36 s a b) := by
          have f1 : fr36 s a (mI 36 (nI s) (m1n k0) a) := fr36.put (by omega) (Nat.le_refl _)
          by_cases e : nN Wl D Ln = 0
          · refine ⟨fun _ => ⟨mI 36 (nI s) (m1n k0) a, ?_, f1, mI_s _ _ (by omega)⟩, fun z hz => ?_⟩
            · rw [show N + 2 * (nN Wl D Ln + nN Wl D Lf + 1) = (N + 2 * nN Wl D Lf + 1) + 1 by omega, dn, if_pos e, zN e, Nat.sub_zero]
            · have := (List.getElem?_eq_some_iff.1 hz).1
              rw [lnN, zN e] at this
              omega
          · have f2 : fr36 s a (mI 36 (nI (s + 1)) (nI kn) (mI 36 (nI s) (m1n k0) a)) := f1.trans (fr36.put (s := s + 1) (by omega) (Nat.le_refl _)) (by omega)
            have ms : (mI 36 (nI (s + 1)) (nI kn) (mI 36 (nI s) (m1n k0) a)).2.1 36 s = m1n k0 := by
              rw [mI_o _ _ (by omega) (by omega), mI_s _ _ (by omega)]
            obtain ⟨g1, g2⟩ := ih Ln kn pn ln' (s + 1) (N + 2 * nN Wl D Lf + 1) r (mI 36 (nI (s + 1)) (nI kn) (mI 36 (nI s) (m1n k0) a)) sN e oN (f2.ag hA) (fun z hz => f2.nr (hN z hz)) (by rw [f2.1]; exact e34) (by rw [f2.1]; exact e35) (mI_s _ _ (by omega)) (by omega) bN hr qN
            have fu : N + 2 * (nN Wl D Ln + nN Wl D Lf + 1) = (N + 2 * nN Wl D Lf + 1 + 2 * nN Wl D Ln) + 1 := by omega
            refine ⟨fun hle => ?_, fun z hz => ?_⟩
            · obtain ⟨c, c1, c2⟩ := g2 hle
              refine ⟨c, ?_, f2.trans c2 (by omega), ?_⟩
              · rw [fu, dn, if_neg e, c1]
              · rw [c2.2.2.2 s (by omega)]; exact ms
            · obtain ⟨b, b1, b2⟩ := g1 z hz
              exact ⟨b, by rw [fu, dn, if_neg e, b1], f2.trans b2 (by omega)⟩
        refine ⟨fun z hz => ?_, fun hle => ?_⟩
        · by_cases q : r < (pcs Wl D Ln).length
          · rw [List.getElem?_append_left (by omega)] at hz
            exact at1.2 z hz
          · rw [List.getElem?_append_right (by omega), lnN] at hz
            obtain ⟨c, c1, c2, c3⟩ := at1.1 (by omega)
            rw [c1, bk _ _ c c2 c3 (by omega)]
            by_cases q2 : r - (pcs Wl D Ln).length < (onL Wl (bst Wl (p :: T)) (p :: T)).length
            · rw [List.getElem?_append_left (by rw [ownW_len]; exact q2), ownW_get q2] at hz
              obtain rfl := Option.some.inj hz
              rw [if_neg (by omega)]
              exact ⟨c, rfl, c2⟩
            · rw [List.getElem?_append_right (by rw [ownW_len]; omega), ownW_len] at hz
              rw [if_pos (by omega)]
              have eF : nN Wl D Lf ≠ 0 := fun e => by
                have := (List.getElem?_eq_some_iff.1 hz).1
                rw [lnF, zF e] at this
                omega
              rw [if_neg eF]
              have f3 : fr36 s a (mI 36 (nI s) (nI kf) c) := c2.trans (fr36.put (by omega) (Nat.le_refl _)) (Nat.le_refl _)
              obtain ⟨g1, -⟩ := ih Lf kf pf lf' s N (r - (pcs Wl D Ln).length - (onL Wl (bst Wl (p :: T)) (p :: T)).length) (mI 36 (nI s) (nI kf) c) sF eF oF (f3.ag hA) (fun z hz => f3.nr (hN z hz)) (by rw [f3.1]; exact e34) (by rw [f3.1]; exact e35) (mI_s _ _ (by omega)) (by omega) bF (by omega) qF
              obtain ⟨b, b1, b2⟩ := g1 z hz
              exact ⟨b, b1, f3.trans b2 (Nat.le_refl _)⟩
        · obtain ⟨c, c1, c2, c3⟩ := at1.1 (by omega)
          rw [c1, bk _ _ c c2 c3 (by omega), if_pos (by omega)]
          by_cases eF : nN Wl D Lf = 0
          · rw [if_pos eF, eF, zF eF]
            refine ⟨c, ?_, c2⟩
            rw [show r - (pcs Wl D Ln).length - (onL Wl (bst Wl (p :: T)) (p :: T)).length = r - ((pcs Wl D Ln).length + ((onL Wl (bst Wl (p :: T)) (p :: T)).length + 0)) by omega]
            rfl
          · rw [if_neg eF]
            have f3 : fr36 s a (mI 36 (nI s) (nI kf) c) := c2.trans (fr36.put (by omega) (Nat.le_refl _)) (Nat.le_refl _)
            obtain ⟨-, g2⟩ := ih Lf kf pf lf' s N (r - (pcs Wl D Ln).length - (onL Wl (bst Wl (p :: T)) (p :: T)).length) (mI 36 (nI s) (nI kf) c) sF eF oF (f3.ag hA) (fun z hz => f3.nr (hN z hz)) (by rw [f3.1]; exact e34) (by rw [f3.1]; exact e35) (mI_s _ _ (by omega)) (by omega) bF (by omega) qF
            obtain ⟨b, b1, b2⟩ := g2 (by omega)
            refine ⟨b, ?_, f3.trans b2 (Nat.le_refl _)⟩
            rw [b1]
            congr 2
            omega
      rw [gN, gP, gW]
      rw [List.length_append, List.length_append]
      by_cases e : lftI Wl (bst Wl (p :: T)) x y = 0
      · rw [if_pos e]
        simp only [if_pos e] at down back
        obtain ⟨q1, q2⟩ := gen _ _ _ _ _ _ _ _ h2 h1 org olf (by omega) (by omega) (by omega) (by omega) down back
        rw [show nN Wl D (lfL Wl (bst Wl (p :: T)) (p :: T)) + nN Wl D (rgL Wl (bst Wl (p :: T)) (p :: T)) + 1 = nN Wl D (rgL Wl (bst Wl (p :: T)) (p :: T)) + nN Wl D (lfL Wl (bst Wl (p :: T)) (p :: T)) + 1 by omega, show (onL Wl (bst Wl (p :: T)) (p :: T)).length + ((pcs Wl D (lfL Wl (bst Wl (p :: T)) (p :: T))).length + (pcs Wl D (rgL Wl (bst Wl (p :: T)) (p :: T))).length) = (pcs Wl D (rgL Wl (bst Wl (p :: T)) (p :: T))).length + ((onL Wl (bst Wl (p :: T)) (p :: T)).length + (pcs Wl D (lfL Wl (bst Wl (p :: T)) (p :: T))).length) by omega]
        exact ⟨q1, q2⟩
      · rw [if_neg e]
        simp only [if_neg e] at down back
        obtain ⟨q1, q2⟩ := gen _ _ _ _ _ _ _ _ h1 h2 olf org (by omega) (by omega) (by omega) (by omega) down back
        rw [show (onL Wl (bst Wl (p :: T)) (p :: T)).length + ((pcs Wl D (lfL Wl (bst Wl (p :: T)) (p :: T))).length + (pcs Wl D (rgL Wl (bst Wl (p :: T)) (p :: T))).length) = (pcs Wl D (lfL Wl (bst Wl (p :: T)) (p :: T))).length + ((onL Wl (bst Wl (p :: T)) (p :: T)).length + (pcs Wl D (rgL Wl (bst Wl (p :: T)) (p :: T))).length) by omega]
        exact ⟨q1, q2⟩
