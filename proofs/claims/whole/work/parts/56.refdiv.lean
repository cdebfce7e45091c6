def frT (t fr k0 p0 n kk jd : Nat) (a b : MSt) : Prop := (∀ k, k ≠ 13 → k ≠ 14 → k ≠ 20 → k ≠ 28 → k ≠ 29 → k ≠ 30 → k ≠ 31 → b.1 k = a.1 k) ∧ (∀ k, (k < 8 ∨ 32 < k) → b.2.1 k = a.2.1 k) ∧ (∀ j, j < n → b.2.1 8 j = a.2.1 8 j) ∧ (∀ k j, j < n → b.2.2 k j = a.2.2 k j) ∧ (∀ j, j < fr → b.2.1 15 j = a.2.1 15 j) ∧ (∀ k j, 16 ≤ k → k < 20 → j < t → b.2.1 k j = a.2.1 k j) ∧ (∀ k j, 21 ≤ k → k < 27 → j < k0 → ¬ (k = kk ∧ j = jd) → b.2.1 k j = a.2.1 k j) ∧ (∀ j, j < p0 → b.2.1 27 j = a.2.1 27 j)
theorem frT.trans {t fr k0 p0 n kk jd t' fr' k0' p0' n' kk' jd' : Nat} {a b c : MSt} (h : frT t fr k0 p0 n kk jd a b) (g : frT t' fr' k0' p0' n' kk' jd' b c) (h1 : t ≤ t') (h2 : fr ≤ fr') (h3 : k0 ≤ k0') (h4 : p0 ≤ p0') (h5 : n ≤ n') (h6 : ∀ k j, j < k0 → k = kk' → j = jd' → k = kk ∧ j = jd) : frT t fr k0 p0 n kk jd a c := by
  obtain ⟨a1, a2, a3, a4, a5, a6, a7, a8⟩ := h
  obtain ⟨b1, b2, b3, b4, b5, b6, b7, b8⟩ := g
  exact ⟨fun k x1 x2 x3 x4 x5 x6 x7 => (b1 k x1 x2 x3 x4 x5 x6 x7).trans (a1 k x1 x2 x3 x4 x5 x6 x7), fun k x => (b2 k x).trans (a2 k x), fun j x => (b3 j (by omega)).trans (a3 j x), fun k j x => (b4 k j (by omega)).trans (a4 k j x), fun j x => (b5 j (by omega)).trans (a5 j x), fun k j x y z => (b6 k j x y (by omega)).trans (a6 k j x y z), fun k j x y z w => (b7 k j x y (by omega) (fun q => w (h6 k j z q.1 q.2))).trans (a7 k j x y z w), fun j x => (b8 j (by omega)).trans (a8 j x)⟩
theorem frT.then {t fr k0 p0 n kk jd : Nat} {a b c : MSt} (h : frT t fr k0 p0 n kk jd a b) (g : frT t fr k0 p0 n kk jd b c) : frT t fr k0 p0 n kk jd a c := h.trans g (Nat.le_refl _) (Nat.le_refl _) (Nat.le_refl _) (Nat.le_refl _) (Nat.le_refl _) (fun _ _ _ x y => ⟨x, y⟩)
theorem frT.refl (t fr k0 p0 n kk jd : Nat) (a : MSt) : frT t fr k0 p0 n kk jd a a := ⟨fun _ _ _ _ _ _ _ _ => rfl, fun _ _ => rfl, fun _ _ => rfl, fun _ _ _ => rfl, fun _ _ => rfl, fun _ _ _ _ _ => rfl, fun _ _ _ _ _ _ => rfl, fun _ _ => rfl⟩
theorem frT.ofC {t fr k0 p0 n kk jd n' x : Nat} {a b : MSt} (h : frC n' x a b) (hn : n ≤ n') (hx : fr ≤ x) : frT t fr k0 p0 n kk jd a b := by
  obtain ⟨a1, a2, a3, a4, a5⟩ := h
  exact ⟨fun k x1 x2 _ _ _ _ _ => a1 k x1 x2, fun k x => a2 k (by omega) (by omega), fun j x => a3 j (by omega), fun k j x => a4 k j (by omega), fun j x => a5 j (by omega), fun k j x y z => by rw [a2 k (by omega) (by omega)], fun k j x y z w => by rw [a2 k (by omega) (by omega)], fun j x => by rw [a2 27 (by decide) (by decide)]⟩
theorem frT.ofO {t fr k0 p0 n kk jd : Nat} {a b : MSt} (h : frO p0 a b) : frT t fr k0 p0 n kk jd a b := by
  obtain ⟨a1, a2, a3, a4⟩ := h
  exact ⟨fun k _ _ _ _ _ x _ => a1 k x, fun k x => a2 k (by omega) (by omega), fun j x => by rw [a2 8 (by decide) (by decide)], fun k j x => by rw [a3], fun j x => by rw [a2 15 (by decide) (by decide)], fun k j x y z => by rw [a2 k (by omega) (by omega)], fun k j x y z w => by rw [a2 k (by omega) (by omega)], a4⟩
theorem frT.ofV {t fr k0 p0 n kk jd k : Nat} {v : Int32} {a : MSt} (h : k = 20 ∨ k = 28 ∨ k = 29 ∨ k = 31) : frT t fr k0 p0 n kk jd a (mV k v a) :=
  ⟨fun j _ _ x3 x4 x5 _ x7 => mV_n _ _ (by omega), fun _ _ => rfl, fun _ _ => rfl, fun _ _ _ => rfl, fun _ _ => rfl, fun _ _ _ _ _ => rfl, fun _ _ _ _ _ _ => rfl, fun _ _ => rfl⟩
theorem frT.ofI {t fr k0 p0 n kk jd k x : Nat} {v : Int32} {a : MSt} (hx : x < 2 ^ 31) (h : (21 ≤ k ∧ k < 27 ∧ (k0 ≤ x ∨ (k = kk ∧ x = jd))) ∨ (16 ≤ k ∧ k < 20 ∧ t ≤ x)) : frT t fr k0 p0 n kk jd a (mI k (nI x) v a) := by
  refine ⟨fun _ _ _ _ _ _ _ _ => rfl, fun j y => ?_, fun j y => ?_, fun _ _ _ => rfl, fun j y => ?_, fun i j y z w => ?_, fun i j y z w u => ?_, fun j y => ?_⟩
  · rw [mI_n _ _ _ (by omega)]
  · rw [mI_n _ _ _ (by omega)]
  · rw [mI_n _ _ _ (by omega)]
  · by_cases e : i = k
    · subst e; rw [mI_o _ _ hx (by omega)]
    · rw [mI_n _ _ _ e]
  · by_cases e : i = k
    · subst e
      rw [mI_o _ _ hx ?_]
      intro e2
      subst e2
      rcases h with ⟨_, _, h | h⟩ | h
      · omega
      · exact u h
      · omega
    · rw [mI_n _ _ _ e]
  · rw [mI_n _ _ _ (by omega)]
theorem AG.frT {Wl : Nat → Option WV} {t fr k0 p0 n kk jd : Nat} {a b : MSt} (h : AG Wl a) (f : frT t fr k0 p0 n kk jd a b) : AG Wl b := h.move (fun k hk => f.2.1 k (Or.inl (by omega)))
theorem HP.frT {Wl : Nat → Option WV} {t fr k0 p0 n kk jd j : Nat} {p : Pc} {a b : MSt} (h : HP Wl a j p) (f : frT t fr k0 p0 n kk jd a b) (hj : j < n) : HP Wl b j p := by
  obtain ⟨e8, w, hw, e9, e10, e11, e12⟩ := h
  have g := f.2.2.2.1
  exact ⟨(f.2.2.1 j hj).trans e8, w, hw, (g 9 j hj).trans e9, (g 10 j hj).trans e10, (g 11 j hj).trans e11, (g 12 j hj).trans e12⟩
theorem HL.frT {Wl : Nat → Option WV} {t fr k0 p0 n kk jd x n' : Nat} {L : List Pc} {a b : MSt} (h : HL Wl a n x L) (f : frT t fr k0 p0 n kk jd a b) (hx : x + L.length ≤ fr) (hn : n ≤ n') : HL Wl b n' x L := by
  intro i p e
  obtain ⟨j, hj, e1, e2⟩ := h i p e
  have hi : i < L.length := (List.getElem?_eq_some_iff.1 e).1
  exact ⟨j, by omega, (f.2.2.2.2.1 _ (by omega)).trans e1, e2.frT f hj⟩
theorem HQ.frT {Wl : Nat → Option WV} {t fr k0 p0 n kk jd x n' : Nat} {L : List Pc} {a b : MSt} (h : HQ Wl a n x L) (f : frT t fr k0 p0 n kk jd a b) (hx : x + L.length ≤ p0) (hn : n ≤ n') : HQ Wl b n' x L := by
  intro i p e
  obtain ⟨j, hj, e1, e2⟩ := h i p e
  have hi : i < L.length := (List.getElem?_eq_some_iff.1 e).1
  exact ⟨j, by omega, (f.2.2.2.2.2.2.2 _ (by omega)).trans e1, e2.frT f hj⟩
theorem pushR {a : MSt} {t : Nat} (h20 : a.1 20 = nI t) (ht : t < 140) (be si nd sd : Int32) : ∃ b, sM_push a be si nd sd = some b ∧ b.1 20 = nI (t + 1) ∧ (∀ k, k ≠ 20 → b.1 k = a.1 k) ∧ b.2.2 = a.2.2 ∧ (∀ k, (k < 16 ∨ 19 < k) → b.2.1 k = a.2.1 k) ∧ (∀ k j, j ≠ t → b.2.1 k j = a.2.1 k j) ∧ b.2.1 16 t = be ∧ b.2.1 17 t = si ∧ b.2.1 18 t = nd ∧ b.2.1 19 t = sd := by
  have hv : vpin (nI t) 140 := vpin_nI ht (by decide)
  have hb : t < 2 ^ 31 := by omega
  have o : ∀ (k q j : Nat) (v : Int32) (m : MSt), j ≠ t → (mI k (nI t) v m).2.1 q j = m.2.1 q j := by
    intro k q j v m hj
    by_cases e : q = k
    · subst e; exact mI_o _ _ hb hj
    · rw [mI_n _ _ _ e]
  refine ⟨mV 20 (nI t + 1) (mI 19 (nI t) sd (mI 18 (nI t) nd (mI 17 (nI t) si (mI 16 (nI t) be a)))), ?_, ?_, ?_, rfl, ?_, ?_, ?_, ?_, ?_, ?_⟩
  · unfold sM_push
    simp only [mI_1, h20, if_pos hv]
  · rw [mV_s, nI_1]
  · intro k hk; rw [mV_n _ _ hk]; rfl
  · intro k hk
    rw [mV_2, mI_n _ _ _ (by omega), mI_n _ _ _ (by omega), mI_n _ _ _ (by omega), mI_n _ _ _ (by omega)]
  · intro k j hj
    rw [mV_2, o _ _ _ _ _ hj, o _ _ _ _ _ hj, o _ _ _ _ _ hj, o _ _ _ _ _ hj]
  · rw [mV_2, mI_n _ _ _ (by decide), mI_n _ _ _ (by decide), mI_n _ _ _ (by decide), mI_s _ _ hb]
  · rw [mV_2, mI_n _ _ _ (by decide), mI_n _ _ _ (by decide), mI_s _ _ hb]
  · rw [mV_2, mI_n _ _ _ (by decide), mI_s _ _ hb]
  · rw [mV_2, mI_s _ _ hb]
theorem frT.ofPush {t fr k0 p0 n kk jd x : Nat} {a b : MSt} (hx : t ≤ x) (h1 : ∀ k, k ≠ 20 → b.1 k = a.1 k) (h2 : b.2.2 = a.2.2) (h3 : ∀ k, (k < 16 ∨ 19 < k) → b.2.1 k = a.2.1 k) (h4 : ∀ k j, j ≠ x → b.2.1 k j = a.2.1 k j) : frT t fr k0 p0 n kk jd a b :=
  ⟨fun k _ _ y _ _ _ _ => h1 k y, fun k y => h3 k (by omega), fun j _ => by rw [h3 8 (by decide)], fun k j _ => by rw [h2], fun j _ => by rw [h3 15 (by decide)], fun k j _ _ y => h4 k j (by omega), fun k j y _ _ _ => by rw [h3 k (by omega)], fun j _ => by rw [h3 27 (by decide)]⟩
def MI (a : MSt) (n c t k0 l0 p0 : Nat) (h : Int32) : Prop := a.1 13 = nI n ∧ a.1 14 = nI c ∧ a.1 20 = nI t ∧ a.1 28 = nI k0 ∧ a.1 29 = nI l0 ∧ a.1 30 = nI p0 ∧ a.1 31 = h
/-- the node above, and the side of it -/
def par (k0 kk jd : Nat) (nd sd : Int32) : Prop := (nd = -1 ∧ kk = 0) ∨ (nd = nI jd ∧ jd < k0 ∧ ((sd = 0 ∧ kk = 22) ∨ (sd = 1 ∧ kk = 23)))
def dpt (a : MSt) (kk jd dep : Nat) : Prop := (kk = 0 → dep = 0) ∧ (kk ≠ 0 → a.2.1 24 jd + 1 = nI dep)
theorem plH_eq (dep : Nat) (h : Int32) : (if nI dep + 1 ≤ h then h else nI dep + 1) = plH dep h := by
  unfold plH
  by_cases e : nI dep + 1 ≤ h
  · rw [if_pos e, if_neg (fun q => by rw [Int32.le_iff_toInt_le] at e; rw [Int32.lt_iff_toInt_lt] at q; omega)]
  · rw [if_neg e, if_pos (by rw [Int32.le_iff_toInt_le] at e; rw [Int32.lt_iff_toInt_lt]; omega)]
/-- from the node's own fields on: what the pieces, the lists and the stack become -/
theorem divVR {Wl : Nat → Option WV} {ln : Int32} {l : WV} (hl : wAt Wl ln = some l) {L : List Pc} {a : MSt} {n c t k0 l0 p0 fr N9 N2 : Nat} {h : Int32} (hI : MI a n c t (k0 + 1) l0 p0 h) (hA : AG Wl a) (hO : ∀ p, p ∈ L → okP Wl p) (hH : HL Wl a n fr L) (hN9 : L.length < N9) (hk : k0 < 4200) (hn : n + 2 * ctN Wl ln L ≤ 8300) (ht : t + 2 ≤ 140) (hf : fr + 3 * L.length ≤ 9000) (hp : p0 + (onL Wl ln L).length ≤ 8300) (kk jd : Nat) : ∃ b, sDivU (nI fr) (nI L.length) N9 N2 a (nI k0) ln = some b ∧ frT t fr k0 p0 n kk jd a b ∧ MI b (n + 2 * ctN Wl ln L) (c + ctN Wl ln L) (t + 2) (k0 + 1) l0 (p0 + (onL Wl ln L).length) h ∧ (∀ k, 21 ≤ k → k < 25 → b.2.1 k = a.2.1 k) ∧ b.2.1 25 k0 = nI p0 ∧ b.2.1 26 k0 = nI (onL Wl ln L).length ∧ HQ Wl b n p0 (onL Wl ln L) ∧ HL Wl b (n + 2 * ctN Wl ln L) (fr + L.length) (rgL Wl ln L) ∧ HL Wl b (n + 2 * ctN Wl ln L) (fr + L.length + (rgL Wl ln L).length) (lfL Wl ln L) ∧ (∀ w, w < 64 → b.2.1 32 w = a.2.1 32 w + nI (cW (nI w) (onL Wl ln L))) ∧ b.2.1 16 t = nI (fr + L.length) ∧ b.2.1 17 t = nI (rgL Wl ln L).length ∧ b.2.1 18 t = nI k0 ∧ b.2.1 19 t = 1 ∧ b.2.1 16 (t + 1) = nI (fr + L.length + (rgL Wl ln L).length) ∧ b.2.1 17 (t + 1) = nI (lfL Wl ln L).length ∧ b.2.1 18 (t + 1) = nI k0 ∧ b.2.1 19 (t + 1) = 0 := by
  obtain ⟨i13, i14, i20, i28, i29, i30, i31⟩ := hI
  have g1 : (lfL Wl ln L).length ≤ L.length := fm_le (lfP_le Wl ln) L
  have g2 : (rgL Wl ln L).length ≤ L.length := fm_le (rgP_le Wl ln) L
  have er : sdL Wl ln (-1) L = rgL Wl ln L := by
    unfold sdL rgL
    rw [show sdP Wl ln (-1) = rgP Wl ln from funext (sdP_2 Wl ln)]
  have el : sdL Wl ln 1 L = lfL Wl ln L := by
    unfold sdL lfL
    rw [show sdP Wl ln 1 = lfP Wl ln from funext (sdP_1 Wl ln)]
  -- a6
  have f6 : frT t fr k0 p0 n kk jd a (mI 25 (nI k0) (nI p0) a) := frT.ofI (by omega) (Or.inl ⟨by decide, by decide, Or.inl (Nat.le_refl _)⟩)
  have s6 : (mI 25 (nI k0) (nI p0) a).2.1 25 k0 = nI p0 := mI_s _ _ (by omega)
  have o6 : ∀ k, k ≠ 25 → (mI 25 (nI k0) (nI p0) a).2.1 k = a.2.1 k := fun k hk => mI_n _ _ _ hk
  have e6 : (mI 25 (nI k0) (nI p0) a).1 = a.1 := rfl
  have H6 : HL Wl (mI 25 (nI k0) (nI p0) a) n fr L := by
    intro i p e
    obtain ⟨j, hj, q1, q2⟩ := hH i p e
    exact ⟨j, hj, by rw [o6 15 (by decide)]; exact q1, q2.frT f6 hj⟩
  have A6 := hA.frT f6
  unfold sDivU
  rw [if_pos (vpin_nI hk (by decide)), i30]
  generalize mI 25 (nI k0) (nI p0) a = a6 at *
  -- a7
  obtain ⟨a7, z1, f7, z3, z4, z5⟩ := onR hl (show n ≤ 8300 by omega) (show fr + L.length ≤ 9000 by omega) L N9 0 p0 a6 A6 hO (by rw [Nat.add_zero]; exact H6) (Nat.zero_add _) hN9 (by rw [e6]; exact i30) hp
  rw [show nI 0 = (0 : Int32) from rfl] at z1
  rw [z1]
  dsimp only
  have A7 := A6.frT (frT.ofO (t := t) (fr := fr) (k0 := k0) (n := n) (kk := kk) (jd := jd) f7)
  have H7 := H6.frO f7
  have s7 : a7.2.1 25 k0 = nI p0 := by rw [f7.2.1 25 (by decide) (by decide)]; exact s6
  unfold sDivV
  rw [if_pos (vpin_nI hk (by decide)), z3, nI_clamp (by omega), s7, nI_subl]
  -- a8
  have f8 : frT t fr k0 p0 n kk jd a7 (mI 26 (nI k0) (nI (onL Wl ln L).length) a7) := frT.ofI (by omega) (Or.inl ⟨by decide, by decide, Or.inl (Nat.le_refl _)⟩)
  have s8 : (mI 26 (nI k0) (nI (onL Wl ln L).length) a7).2.1 26 k0 = nI (onL Wl ln L).length := mI_s _ _ (by omega)
  have o8 : ∀ k, k ≠ 26 → (mI 26 (nI k0) (nI (onL Wl ln L).length) a7).2.1 k = a7.2.1 k := fun k hk => mI_n _ _ _ hk
  have e8 : (mI 26 (nI k0) (nI (onL Wl ln L).length) a7).1 = a7.1 := rfl
  have j8 : (mI 26 (nI k0) (nI (onL Wl ln L).length) a7).2.2 = a7.2.2 := rfl
  generalize mI 26 (nI k0) (nI (onL Wl ln L).length) a7 = a8 at *
  have A8 := A7.frT f8
  have H8 : HL Wl a8 n fr L := by
    intro i p e
    obtain ⟨j, hj, q1, q2⟩ := H7 i p e
    exact ⟨j, hj, by rw [o8 15 (by decide)]; exact q1, q2.frT f8 hj⟩
  have Q8 : HQ Wl a8 n p0 (onL Wl ln L) := by
    intro i p e
    obtain ⟨j, hj, q1, q2⟩ := z4 i p e
    exact ⟨j, hj, by rw [o8 27 (by decide)]; exact q1, q2.frT f8 hj⟩
  have i8 : ∀ k, k ≠ 30 → a8.1 k = a.1 k := fun k hk => by rw [e8, f7.1 k hk, e6]
  -- a9
  obtain ⟨a9, y1, y2, y3, y4, y5⟩ := colR hl (sd := -1) (Or.inr rfl) (fr := fr) (to_ := fr + L.length) (m := L.length) (Nat.le_refl _) (by omega) L N9 0 0 n c a8 A8 hO (by rw [Nat.add_zero]; exact H8) (Nat.zero_add _) hN9 (by rw [er]; omega) (by rw [i8 13 (by decide)]; exact i13) (by omega) (by rw [i8 14 (by decide)]; exact i14)
  rw [er] at y1 y3
  simp only [Nat.add_zero, Nat.zero_add] at y1 y2 y3
  rw [show nI 0 = (0 : Int32) from rfl] at y1
  rw [if_neg (by decide), Nat.add_zero] at y5
  have cc : sM_collect a8 (nI fr) (nI L.length) ln (-1) (nI fr + nI L.length) N9 = some (a9, nI (rgL Wl ln L).length) := by
    unfold sM_collect
    rw [nI_add, y1]
  rw [cc]
  dsimp only
  have A9 := A8.fr y2
  have H9 : HL Wl a9 (n + ctN Wl ln L) fr L := H8.fr y2 (by omega) (Nat.le_refl _)
  -- a10
  obtain ⟨a10, x1, x2, x3, x4, x5⟩ := colR hl (sd := 1) (Or.inl rfl) (fr := fr) (to_ := fr + L.length + (rgL Wl ln L).length) (m := L.length) (by omega) (by omega) L N9 0 0 (n + ctN Wl ln L) c a9 A9 hO (by rw [Nat.add_zero]; exact H9) (Nat.zero_add _) hN9 (by rw [el]; omega) y4 (by omega) y5
  rw [el] at x1 x3
  simp only [Nat.add_zero, Nat.zero_add] at x1 x2 x3
  rw [show nI 0 = (0 : Int32) from rfl] at x1
  rw [if_pos rfl] at x5
  have cd : sM_collect a9 (nI fr) (nI L.length) ln 1 (nI fr + nI L.length + nI (rgL Wl ln L).length) N9 = some (a10, nI (lfL Wl ln L).length) := by
    unfold sM_collect
    rw [nI_add, nI_add, x1]
  rw [cd]
  dsimp only
  have i10 : ∀ k, k ≠ 13 → k ≠ 14 → k ≠ 30 → a10.1 k = a.1 k := fun k h1 h2 h3 => by rw [x2.1 k h1 h2, y2.1 k h1 h2, i8 k h3]
  have j10 : ∀ k, k ≠ 8 → k ≠ 15 → a10.2.1 k = a8.2.1 k := fun k h1 h2 => by rw [x2.2.1 k h1 h2, y2.2.1 k h1 h2]
  have h10 : HL Wl a10 (n + 2 * ctN Wl ln L) (fr + L.length) (rgL Wl ln L) := y3.fr x2 (by omega) (Nat.le_refl _)
  rw [show n + ctN Wl ln L + ctN Wl ln L = n + 2 * ctN Wl ln L by omega] at x3 x4
  -- a11, a12
  obtain ⟨a11, p1, p2, p3, p4, p5, p6, p7, p8, p9, p10⟩ := pushR (a := a10) (t := t) (by rw [i10 20 (by decide) (by decide) (by decide)]; exact i20) (by omega) (nI fr + nI L.length) (nI (rgL Wl ln L).length) (nI k0) 1
  rw [p1]
  dsimp only
  obtain ⟨a12, q1, q2, q3, q4, q5, q6, q7, q8, q9, q10⟩ := pushR (a := a11) (t := t + 1) p2 (by omega) (nI fr + nI L.length + nI (rgL Wl ln L).length) (nI (lfL Wl ln L).length) (nI k0) 0
  rw [q1]
  have F1 : frT t fr k0 p0 n kk jd a a8 := f6.then ((frT.ofO f7).then f8)
  have F2 : frT t fr k0 p0 n kk jd a a10 := F1.then ((frT.ofC y2 (Nat.le_refl _) (by omega)).then (frT.ofC x2 (by omega) (by omega)))
  have F3 : frT t fr k0 p0 n kk jd a10 a12 := (frT.ofPush (Nat.le_refl _) p3 p4 p5 p6).then (frT.ofPush (Nat.le_succ _) q3 q4 q5 q6)
  have G3 : frT t (fr + L.length + (rgL Wl ln L).length + (lfL Wl ln L).length) k0 (p0 + (onL Wl ln L).length) (n + 2 * ctN Wl ln L) kk jd a10 a12 := (frT.ofPush (Nat.le_refl _) p3 p4 p5 p6).then (frT.ofPush (Nat.le_succ _) q3 q4 q5 q6)
  have k12 : ∀ k, 19 < k → k ≠ 8 → k ≠ 15 → a12.2.1 k = a8.2.1 k := fun k h1 h2 h3 => by rw [q5 k (Or.inr h1), p5 k (Or.inr h1), j10 k h2 h3]
  have G1 : frT t fr k0 (p0 + (onL Wl ln L).length) n kk jd a8 a12 := ((frT.ofC y2 (Nat.le_refl _) (by omega)).then (frT.ofC x2 (by omega) (by omega))).then ((frT.ofPush (Nat.le_refl _) p3 p4 p5 p6).then (frT.ofPush (Nat.le_succ _) q3 q4 q5 q6))
  have i12 : ∀ k, k ≠ 20 → a12.1 k = a10.1 k := fun k hk => by rw [q3 k hk, p3 k hk]
  refine ⟨a12, rfl, F2.then F3, ⟨?_, ?_, q2, ?_, ?_, ?_, ?_⟩, ?_, ?_, ?_, ?_, ?_, ?_, ?_, ?_, ?_, ?_, ?_, ?_, ?_, ?_, ?_⟩
  · rw [i12 13 (by decide)]; exact x4
  · rw [i12 14 (by decide)]; exact x5
  · rw [i12 28 (by decide), i10 28 (by decide) (by decide) (by decide)]; exact i28
  · rw [i12 29 (by decide), i10 29 (by decide) (by decide) (by decide)]; exact i29
  · rw [i12 30 (by decide), x2.1 30 (by decide) (by decide), y2.1 30 (by decide) (by decide), e8]; exact z3
  · rw [i12 31 (by decide), i10 31 (by decide) (by decide) (by decide)]; exact i31
  · intro k h1 h2
    rw [k12 k (by omega) (by omega) (by omega), o8 k (by omega), f7.2.1 k (by omega) (by omega), o6 k (by omega)]
  · rw [k12 25 (by decide) (by decide) (by decide), o8 25 (by decide)]; exact s7
  · rw [k12 26 (by decide) (by decide) (by decide)]; exact s8
  · exact Q8.frT G1 (Nat.le_refl _) (Nat.le_refl _)
  · exact h10.frT G3 (by omega) (Nat.le_refl _)
  · exact x3.frT G3 (by omega) (Nat.le_refl _)
  · intro w hw
    rw [k12 32 (by decide) (by decide) (by decide), o8 32 (by decide), z5 w hw, o6 32 (by decide)]
  · rw [q6 _ _ (by omega), p7, nI_add]
  · rw [q6 _ _ (by omega), p8]
  · rw [q6 _ _ (by omega), p9]
  · rw [q6 _ _ (by omega), p10]
  · rw [q7, nI_add, nI_add]
  · rw [q8]
  · rw [q9]
  · rw [q10]
