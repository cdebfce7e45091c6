theorem mV_2 (k : Nat) (v : Int32) (m : MSt) : (mV k v m).2 = m.2 := rfl
theorem mI_1 (k : Nat) (i v : Int32) (m : MSt) : (mI k i v m).1 = m.1 := rfl
theorem mI_22 (k : Nat) (i v : Int32) (m : MSt) : (mI k i v m).2.2 = m.2.2 := rfl
theorem mJ_1 (k : Nat) (i : Int32) (v : Int64) (m : MSt) : (mJ k i v m).1 = m.1 := rfl
theorem mJ_21 (k : Nat) (i : Int32) (v : Int64) (m : MSt) : (mJ k i v m).2.1 = m.2.1 := rfl
theorem mV_s (k : Nat) (v : Int32) (m : MSt) : (mV k v m).1 k = v := va_up_self _ _ _
theorem mV_n {k j : Nat} (v : Int32) (m : MSt) (h : j ≠ k) : (mV k v m).1 j = m.1 j := va_up_ne _ _ h
theorem mI_n {k j : Nat} (i v : Int32) (m : MSt) (h : j ≠ k) : (mI k i v m).2.1 j = m.2.1 j := va_up_ne _ _ h
theorem mJ_n {k j : Nat} (i : Int32) (v : Int64) (m : MSt) (h : j ≠ k) : (mJ k i v m).2.2 j = m.2.2 j := va_up_ne _ _ h
theorem mI_s {k x : Nat} (v : Int32) (m : MSt) (hx : x < 2 ^ 31) : (mI k (nI x) v m).2.1 k x = v := by
  show va_up _ k (upd _ _ _) k x = v
  rw [va_up_self, nI_clamp hx]
  unfold upd
  rw [if_pos rfl]
theorem mI_o {k x j : Nat} (v : Int32) (m : MSt) (hx : x < 2 ^ 31) (h : j ≠ x) : (mI k (nI x) v m).2.1 k j = m.2.1 k j := by
  show va_up _ k (upd _ _ _) k j = _
  rw [va_up_self, nI_clamp hx]
  unfold upd
  rw [if_neg h]
theorem mJ_s {k x : Nat} (v : Int64) (m : MSt) (hx : x < 2 ^ 31) : (mJ k (nI x) v m).2.2 k x = v := by
  show va_up _ k (vp_updL _ _ _) k x = v
  rw [va_up_self, nI_clamp hx]
  unfold vp_updL
  rw [if_pos rfl]
theorem mJ_o {k x j : Nat} (v : Int64) (m : MSt) (hx : x < 2 ^ 31) (h : j ≠ x) : ∀ q, (mJ k (nI x) v m).2.2 q j = m.2.2 q j := by
  intro q
  by_cases e : q = k
  · subst e
    show va_up _ q (vp_updL _ _ _) q j = _
    rw [va_up_self, nI_clamp hx]
    unfold vp_updL
    rw [if_neg h]
  · rw [mJ_n _ _ _ e]
/-- what collecting leaves as it was: n pieces, the row below t -/
def frC (n t : Nat) (mz mz' : MSt) : Prop := (∀ k, k ≠ 13 → k ≠ 14 → mz'.1 k = mz.1 k) ∧ (∀ k, k ≠ 8 → k ≠ 15 → mz'.2.1 k = mz.2.1 k) ∧ (∀ j, j < n → mz'.2.1 8 j = mz.2.1 8 j) ∧ (∀ k j, j < n → mz'.2.2 k j = mz.2.2 k j) ∧ (∀ j, j < t → mz'.2.1 15 j = mz.2.1 15 j)
theorem frC.refl (n t : Nat) (mz : MSt) : frC n t mz mz := ⟨fun _ _ _ => rfl, fun _ _ _ => rfl, fun _ _ => rfl, fun _ _ _ => rfl, fun _ _ => rfl⟩
theorem frC.trans {n t n' t' : Nat} {a b c : MSt} (h : frC n t a b) (h2 : frC n' t' b c) (hn : n ≤ n') (ht : t ≤ t') : frC n t a c :=
  ⟨fun k x y => (h2.1 k x y).trans (h.1 k x y), fun k x y => (h2.2.1 k x y).trans (h.2.1 k x y), fun j x => (h2.2.2.1 j (Nat.lt_of_lt_of_le x hn)).trans (h.2.2.1 j x), fun k j x => (h2.2.2.2.1 k j (Nat.lt_of_lt_of_le x hn)).trans (h.2.2.2.1 k j x), fun j x => (h2.2.2.2.2 j (Nat.lt_of_lt_of_le x ht)).trans (h.2.2.2.2 j x)⟩
theorem frC.weak {n t n' t' : Nat} {a b : MSt} (h : frC n' t' a b) (hn : n ≤ n') (ht : t ≤ t') : frC n t a b := (frC.refl n t a).trans h hn ht
theorem AG.move {Wl : Nat → Option WV} {a b : MSt} (h : AG Wl a) (e : ∀ k, k < 6 → b.2.1 k = a.2.1 k) : AG Wl b := by
  intro i hi
  obtain ⟨h1, h2⟩ := h i hi
  refine ⟨fun q => by rw [e 1 (by decide)]; exact h1 q, fun v q => ?_⟩
  rw [e 1 (by decide), e 2 (by decide), e 3 (by decide), e 4 (by decide), e 5 (by decide)]
  exact h2 v q
theorem AG.fr {Wl : Nat → Option WV} {n t : Nat} {a b : MSt} (h : AG Wl a) (f : frC n t a b) : AG Wl b := h.move (fun k hk => f.2.1 k (by omega) (by omega))
theorem HP.fr {Wl : Nat → Option WV} {n t j : Nat} {p : Pc} {a b : MSt} (h : HP Wl a j p) (f : frC n t a b) (hj : j < n) : HP Wl b j p := by
  obtain ⟨e8, w, hw, e9, e10, e11, e12⟩ := h
  have g := f.2.2.2.1
  exact ⟨(f.2.2.1 j hj).trans e8, w, hw, (g 9 j hj).trans e9, (g 10 j hj).trans e10, (g 11 j hj).trans e11, (g 12 j hj).trans e12⟩
/-- the row holds the list from an index on; its pieces are among the first n -/
def HL (Wl : Nat → Option WV) (mz : MSt) (n fr : Nat) (L : List Pc) : Prop := ∀ i p, L[i]? = some p → ∃ j, j < n ∧ mz.2.1 15 (fr + i) = nI j ∧ HP Wl mz j p
theorem HL.fr {Wl : Nat → Option WV} {n n' t fr : Nat} {L : List Pc} {a b : MSt} (h : HL Wl a n fr L) (f : frC n t a b) (hn : n ≤ n') (ht : fr + L.length ≤ t) : HL Wl b n' fr L := by
  intro i p e
  obtain ⟨j, hj, e1, e2⟩ := h i p e
  have hi : i < L.length := (List.getElem?_eq_some_iff.1 e).1
  exact ⟨j, by omega, (f.2.2.2.2 _ (by omega)).trans e1, e2.fr f hj⟩
theorem HL.tail {Wl : Nat → Option WV} {mz : MSt} {n fr : Nat} {p : Pc} {T : List Pc} (h : HL Wl mz n fr (p :: T)) : (∃ j, j < n ∧ mz.2.1 15 fr = nI j ∧ HP Wl mz j p) ∧ HL Wl mz n (fr + 1) T := by
  refine ⟨h 0 p rfl, fun i q e => ?_⟩
  obtain ⟨j, hj, e1, e2⟩ := h (i + 1) q e
  exact ⟨j, hj, by rw [Nat.add_assoc, Nat.add_comm 1 i]; exact e1, e2⟩
theorem HL.nil {Wl : Nat → Option WV} {mz : MSt} {n fr : Nat} : HL Wl mz n fr [] := fun i p e => by simp at e
theorem HL.cons {Wl : Nat → Option WV} {mz : MSt} {n fr j : Nat} {p : Pc} {T : List Pc} (hj : j < n) (e1 : mz.2.1 15 fr = nI j) (e2 : HP Wl mz j p) (h : HL Wl mz n (fr + 1) T) : HL Wl mz n fr (p :: T) := by
  intro i q e
  cases i with
  | zero =>
    obtain rfl : p = q := Option.some.inj e
    exact ⟨j, hj, e1, e2⟩
  | succ i =>
    obtain ⟨j, hj, e1, e2⟩ := h i q e
    exact ⟨j, hj, by rw [Nat.add_comm i 1, ← Nat.add_assoc]; exact e1, e2⟩
theorem pieceR {mz : MSt} {n : Nat} (hn : mz.1 13 = nI n) (h : n < 8300) (w : Int32) (a b c d : Int64) : ∃ mz', sM_piece mz w a b c d = some (mz', nI n) ∧ mz'.1 13 = nI (n + 1) ∧ mz'.1 14 = mz.1 14 ∧ mz'.2.1 15 = mz.2.1 15 ∧ (∀ t, frC n t mz mz') ∧ mz'.2.1 8 n = w ∧ mz'.2.2 9 n = a ∧ mz'.2.2 10 n = b ∧ mz'.2.2 11 n = c ∧ mz'.2.2 12 n = d := by
  have hv : vpin (nI n) 8300 := vpin_nI h (by decide)
  have hb : n < 2 ^ 31 := by omega
  refine ⟨mV 13 (nI n + 1) (mJ 12 (nI n) d (mJ 11 (nI n) c (mJ 10 (nI n) b (mJ 9 (nI n) a (mI 8 (nI n) w mz))))), ?_, ?_, ?_, ?_, ?_, ?_, ?_, ?_, ?_, ?_⟩
  · unfold sM_piece
    simp only [mI_1, mJ_1, hn, if_pos hv, mV_s]
    rw [nI_1, nI_pred]
  · rw [mV_s, nI_1]
  · rw [mV_n _ _ (by decide)]; rfl
  · rw [mV_2, mJ_21, mJ_21, mJ_21, mJ_21, mI_n _ _ _ (by decide)]
  · intro t
    refine ⟨fun k x y => ?_, fun k x y => ?_, fun j x => ?_, fun k j x => ?_, fun j x => ?_⟩
    · rw [mV_n _ _ x]; rfl
    · rw [mV_2, mJ_21, mJ_21, mJ_21, mJ_21, mI_n _ _ _ x]
    · rw [mV_2, mJ_21, mJ_21, mJ_21, mJ_21, mI_o _ _ hb (by omega)]
    · rw [mV_2, mJ_o _ _ hb (by omega), mJ_o _ _ hb (by omega), mJ_o _ _ hb (by omega), mJ_o _ _ hb (by omega), mI_22]
    · rw [mV_2, mJ_21, mJ_21, mJ_21, mJ_21, mI_n _ _ _ (by decide)]
  · rw [mV_2, mJ_21, mJ_21, mJ_21, mJ_21, mI_s _ _ hb]
  · rw [mV_2, mJ_n _ _ _ (by decide), mJ_n _ _ _ (by decide), mJ_n _ _ _ (by decide), mJ_s _ _ hb]
  · rw [mV_2, mJ_n _ _ _ (by decide), mJ_n _ _ _ (by decide), mJ_s _ _ hb]
  · rw [mV_2, mJ_n _ _ _ (by decide), mJ_s _ _ hb]
  · rw [mV_2, mJ_s _ _ hb]
/-- what the reference collects of a piece on a side -/
def sdP (Wl : Nat → Option WV) (ln sd : Int32) (p : Pc) : List Pc := if wh Wl ln p = 3 then [if tm (eF Wl ln p) = sd then (p.1, p.2.1, ln) else (p.1, ln, p.2.2)] else if tl (wh Wl ln p) = sd then [p] else []
abbrev sdL (Wl : Nat → Option WV) (ln sd : Int32) (L : List Pc) : List Pc := L.flatMap (sdP Wl ln sd)
/-- how many of a list are cut -/
def ctN (Wl : Nat → Option WV) (ln : Int32) : List Pc → Nat
  | [] => 0
  | p :: T => ctN Wl ln T + if wh Wl ln p = 3 then 1 else 0
theorem end_cases (Rw : Nat → List Int32) (Wl : Nat → Option WV) (ln w c b : Int32) : sT_sideOfEnd Rw Wl ln w c b = 0 ∨ sT_sideOfEnd Rw Wl ln w c b = 1 ∨ sT_sideOfEnd Rw Wl ln w c b = 2 := by
  have k : ∀ x : Int64, sT_sideOf x = 0 ∨ sT_sideOf x = 1 ∨ sT_sideOf x = 2 := by
    intro x
    unfold sT_sideOf
    repeat' split
    all_goals simp
  have k2 : ∀ x y u v : Int64, sT_sideBetween x y u v = 0 ∨ sT_sideBetween x y u v = 1 ∨ sT_sideBetween x y u v = 2 := by
    intro x y u v
    unfold sT_sideBetween
    generalize (((if 0 < x then x else -x) * v) ^^^ (-9223372036854775808)) = A
    generalize (((if 0 < y then y else -y) * u) ^^^ (-9223372036854775808)) = B
    repeat' split
    all_goals simp
  unfold sT_sideOfEnd
  cases wAt Wl ln with
  | none => cases wAt Wl w with
    | none => exact Or.inl rfl
    | some _ => exact Or.inl rfl
  | some _ => cases wAt Wl w with
    | none => exact Or.inl rfl
    | some _ => cases wAt Wl c with
      | none => dsimp only; split <;> exact k _
      | some _ => exact k2 _ _ _ _
theorem sdP_1 (Wl : Nat → Option WV) (ln : Int32) (p : Pc) : sdP Wl ln 1 p = lfP Wl ln p := by
  unfold sdP lfP wh eF eL
  rcases end_cases (fun _ => []) Wl ln p.1 p.2.1 0 with a | a | a <;> rcases end_cases (fun _ => []) Wl ln p.1 p.2.2 1 with b | b | b <;> rw [a, b] <;> rfl
theorem sdP_2 (Wl : Nat → Option WV) (ln : Int32) (p : Pc) : sdP Wl ln (-1) p = rgP Wl ln p := by
  unfold sdP rgP wh eF eL
  rcases end_cases (fun _ => []) Wl ln p.1 p.2.1 0 with a | a | a <;> rcases end_cases (fun _ => []) Wl ln p.1 p.2.2 1 with b | b | b <;> rw [a, b] <;> rfl
theorem okP_cut {Wl : Nat → Option WV} {ln sd : Int32} {l : WV} (hl : wAt Wl ln = some l) (okl : okW l) {p : Pc} (hp : okP Wl p) (hw : ∀ w, wAt Wl p.1 = some w → okW w) : ∀ q, q ∈ sdP Wl ln sd p → okP Wl q := by
  intro q hq
  obtain ⟨w, e, h1, h2⟩ := hp
  unfold sdP at hq
  split at hq
  · rename_i h3
    obtain ⟨-, o⟩ := wh3 hl okl e (hw w e) h1 h2 h3
    have oc : okC w (wAt Wl ln) := fun c ec => by
      rw [hl] at ec
      obtain rfl := Option.some.inj ec
      exact ⟨okl, o⟩
    rw [List.mem_singleton] at hq
    subst hq
    split
    · exact ⟨w, e, h1, oc⟩
    · exact ⟨w, e, oc, h2⟩
  · split at hq
    · rw [List.mem_singleton] at hq
      subst hq
      exact ⟨w, e, h1, h2⟩
    · simp at hq
theorem frC_row {n t x : Nat} {v y : Int32} {mz : MSt} (hx : x < 2 ^ 31) (ht : t ≤ x) : frC n t mz (mV 14 v (mI 15 (nI x) y mz)) := by
  refine ⟨fun k a b => ?_, fun k a b => ?_, fun j a => ?_, fun k j a => rfl, fun j a => ?_⟩
  · rw [mV_n _ _ b]; rfl
  · rw [mV_2, mI_n _ _ _ b]
  · rw [mV_2, mI_n _ _ _ (by decide)]
  · rw [mV_2, mI_o _ _ hx (by omega)]
theorem colR {Wl : Nat → Option WV} {ln sd : Int32} {l : WV} (hl : wAt Wl ln = some l) (hsd : sd = 1 ∨ sd = -1) {fr to_ m : Nat} (hm : fr + m ≤ to_) (h31 : to_ ≤ 9000) : ∀ (T : List Pc) (N i k n c : Nat) (mz : MSt), AG Wl mz → (∀ p, p ∈ T → okP Wl p) → HL Wl mz n (fr + i) T → i + T.length = m → T.length < N → to_ + k + (sdL Wl ln sd T).length ≤ 9000 → mz.1 13 = nI n → n + ctN Wl ln T ≤ 8300 → mz.1 14 = nI c → ∃ mz', sColL (nI fr) (nI m) ln sd (nI to_) N mz (nI k) (nI i) = some (mz', nI (k + (sdL Wl ln sd T).length), nI m) ∧ frC n (to_ + k) mz mz' ∧ HL Wl mz' (n + ctN Wl ln T) (to_ + k) (sdL Wl ln sd T) ∧ mz'.1 13 = nI (n + ctN Wl ln T) ∧ mz'.1 14 = nI (c + if sd = 1 then ctN Wl ln T else 0) := by
  intro T
  induction T with
  | nil =>
    intro N i k n c mz hA hO hH hi hN ht h13 hn h14
    obtain ⟨N, rfl⟩ : ∃ N', N = N' + 1 := ⟨N - 1, by simp only [List.length_nil] at hN; omega⟩
    obtain rfl : i = m := hi
    refine ⟨mz, ?_, frC.refl _ _ _, HL.nil, h13, ?_⟩
    · unfold sColL
      rw [if_pos (nI_le (Nat.le_refl _) (by omega))]
      rfl
    · rw [h14]
      show _ = nI (c + if sd = 1 then 0 else 0)
      rw [ite_self]
      rfl
  | cons p T ih =>
    intro N i k n c mz hA hO hH hi hN ht h13 hn h14
    rw [List.length_cons] at hi hN
    obtain ⟨N, rfl⟩ : ∃ N', N = N' + 1 := ⟨N - 1, by omega⟩
    obtain ⟨⟨j, hj, e1, e2⟩, hT⟩ := hH.tail
    have hp := hO p List.mem_cons_self
    have hO2 : ∀ q, q ∈ T → okP Wl q := fun q hq => hO q (List.mem_cons_of_mem _ hq)
    have hct : ctN Wl ln (p :: T) = ctN Wl ln T + if wh Wl ln p = 3 then 1 else 0 := rfl
    have hsl : (sdL Wl ln sd (p :: T)) = sdP Wl ln sd p ++ sdL Wl ln sd T := List.flatMap_cons
    rw [hct] at hn ⊢
    rw [hsl] at ht ⊢
    rw [List.length_append] at ht ⊢
    have hj3 : j < 8300 := by omega
    have hlie := lieOfR hA hl hj3 hp e2
    have n1 : ¬ nI m ≤ nI i := nI_ge (by omega) (by omega)
    have v1 : vpin (nI (fr + i)) 9000 := vpin_nI (by omega) (by decide)
    have s2 : ¬ (2 : Int32) = sd := by rcases hsd with rfl | rfl <;> decide
    unfold sColL
    rw [if_neg n1, nI_add, if_pos v1, nI_clamp (by omega), e1, hlie]
    simp only []
    by_cases h3 : wh Wl ln p = 3
    · have t2 : tl (wh Wl ln p) = 2 := by rw [h3]; rfl
      obtain ⟨w, hw, h1, h2⟩ := hp
      have hpart := partR hA hl hj3 hw h1 h2 e2 h3 sd
      rw [if_pos h3] at hn ⊢
      have sp : sdP Wl ln sd p = [if tm (eF Wl ln p) = sd then (p.1, p.2.1, ln) else (p.1, ln, p.2.2)] := by unfold sdP; rw [if_pos h3]
      rw [sp] at ht ⊢
      simp only [List.length_cons, List.length_nil] at ht ⊢
      have main : ∃ mz1, sM_part mz (nI j) ln sd = some (mz1, nI n) ∧ mz1.1 13 = nI (n + 1) ∧ mz1.1 14 = nI c ∧ mz1.2.1 15 = mz.2.1 15 ∧ (∀ t, frC n t mz mz1) ∧ HP Wl mz1 n (if tm (eF Wl ln p) = sd then (p.1, p.2.1, ln) else (p.1, ln, p.2.2)) := by
        rw [hpart]
        by_cases q : tm (eF Wl ln p) = sd
        · rw [if_pos q, if_pos q]
          obtain ⟨mz1, x1, x2, x3, x4, x5, y1, y2, y3, y4, y5⟩ := pieceR h13 (by omega) p.1 (qE w (wAt Wl p.2.1) 0).1 (qE w (wAt Wl p.2.1) 0).2 (qE w (some l) 1).1 (qE w (some l) 1).2
          exact ⟨mz1, x1, x2, x3.trans h14, x4, x5, y1, w, hw, y2, y3, by rw [hl]; exact y4, by rw [hl]; exact y5⟩
        · rw [if_neg q, if_neg q]
          obtain ⟨mz1, x1, x2, x3, x4, x5, y1, y2, y3, y4, y5⟩ := pieceR h13 (by omega) p.1 (qE w (some l) 0).1 (qE w (some l) 0).2 (qE w (wAt Wl p.2.2) 1).1 (qE w (wAt Wl p.2.2) 1).2
          exact ⟨mz1, x1, x2, x3.trans h14, x4, x5, y1, w, hw, by rw [hl]; exact y2, by rw [hl]; exact y3, y4, y5⟩
      obtain ⟨mz1, x1, x2, x3, x4, x5, x6⟩ := main
      rw [t2, if_neg s2, if_pos rfl, x1]
      simp only []
      rw [nI_add, if_pos (vpin_nI (by omega) (by decide)), mI_1, x3, nI_1, nI_1, nI_1]
      have f1 : ∀ v, frC n (to_ + k) mz (mV 14 v (mI 15 (nI (to_ + k)) (nI n) mz1)) := fun v => (x5 (to_ + k)).trans (frC_row (n := n) (by omega) (Nat.le_refl _)) (Nat.le_refl _) (Nat.le_refl _)
      have go : ∀ (v c1 : Nat), v = c1 → ∃ mz', sColL (nI fr) (nI m) ln sd (nI to_) N (mV 14 (nI c1) (mI 15 (nI (to_ + k)) (nI n) mz1)) (nI (k + 1)) (nI (i + 1)) = some (mz', nI (k + (0 + 1 + (sdL Wl ln sd T).length)), nI m) ∧ frC n (to_ + k) mz mz' ∧ HL Wl mz' (n + (ctN Wl ln T + 1)) (to_ + k) ([if tm (eF Wl ln p) = sd then (p.1, p.2.1, ln) else (p.1, ln, p.2.2)] ++ sdL Wl ln sd T) ∧ mz'.1 13 = nI (n + (ctN Wl ln T + 1)) ∧ mz'.1 14 = nI (c1 + if sd = 1 then ctN Wl ln T else 0) := by
        intro v c1 _
        have ff := f1 (nI c1)
        obtain ⟨mz', z1, z2, z3, z4, z5⟩ := ih N (i + 1) (k + 1) (n + 1) c1 (mV 14 (nI c1) (mI 15 (nI (to_ + k)) (nI n) mz1)) (hA.fr ff) hO2 ((hT.fr ff (Nat.le_succ n) (by omega))) (by omega) (by omega) (by omega) (by rw [mV_n _ _ (by decide)]; exact x2) (by omega) (mV_s _ _ _)
        refine ⟨mz', ?_, ff.trans z2 (by omega) (by omega), ?_, ?_, z5⟩
        · rw [z1, show k + 1 + (sdL Wl ln sd T).length = k + (0 + 1 + (sdL Wl ln sd T).length) by omega]
        · refine HL.cons (j := n) (by omega) ?_ ?_ ?_
          · rw [z2.2.2.2.2 _ (by omega), mV_2, mI_s _ _ (by omega)]
          · refine HP.fr (n := n + 1) ?_ z2 (by omega)
            exact x6.fr (frC_row (n := n + 1) (t := 0) (by omega) (Nat.zero_le _)) (by omega)
          · rw [show n + (ctN Wl ln T + 1) = n + 1 + ctN Wl ln T by omega]
            exact z3
        · rw [z4]
          congr 1
          omega
      by_cases q1 : sd = 1
      · rw [if_pos q1]
        obtain ⟨mz', z1, z2, z3, z4, z5⟩ := go (c + 1) (c + 1) rfl
        refine ⟨mz', z1, z2, z3, z4, ?_⟩
        rw [z5, if_pos q1, if_pos q1]
        congr 1
        omega
      · rw [if_neg q1]
        obtain ⟨mz', z1, z2, z3, z4, z5⟩ := go (c + 0) (c + 0) rfl
        refine ⟨mz', ?_, z2, z3, z4, ?_⟩
        · rw [show nI c + 0 = nI (c + 0) from nI_add c 0]
          exact z1
        · rw [z5, if_neg q1, if_neg q1]
    · have t2 : ¬ tl (wh Wl ln p) = 2 := by
        unfold wh eF eL at *
        rcases end_cases (fun _ => []) Wl ln p.1 p.2.1 0 with a | a | a <;> rcases end_cases (fun _ => []) Wl ln p.1 p.2.2 1 with b | b | b <;> rw [a, b] at h3 ⊢ <;> revert h3 <;> decide
      rw [if_neg h3] at hn ⊢
      rw [Nat.add_zero] at hn ⊢
      by_cases q : tl (wh Wl ln p) = sd
      · have sp : sdP Wl ln sd p = [p] := by unfold sdP; rw [if_neg h3, if_pos q]
        rw [sp] at ht ⊢
        simp only [List.length_cons, List.length_nil] at ht ⊢
        rw [if_pos q, if_neg t2, nI_add, if_pos (vpin_nI (by omega) (by decide)), mI_1, h14, nI_1, nI_1, show nI c + 0 = nI c from nI_add c 0]
        have ff : frC n (to_ + k) mz (mV 14 (nI c) (mI 15 (nI (to_ + k)) (nI j) mz)) := frC_row (by omega) (Nat.le_refl _)
        obtain ⟨mz', z1, z2, z3, z4, z5⟩ := ih N (i + 1) (k + 1) n c (mV 14 (nI c) (mI 15 (nI (to_ + k)) (nI j) mz)) (hA.fr ff) hO2 ((hT.fr ff (Nat.le_refl n) (by omega))) (by omega) (by omega) (by omega) (by rw [mV_n _ _ (by decide)]; exact h13) (by omega) (mV_s _ _ _)
        refine ⟨mz', ?_, ff.trans z2 (by omega) (by omega), ?_, z4, z5⟩
        · rw [z1, show k + 1 + (sdL Wl ln sd T).length = k + (0 + 1 + (sdL Wl ln sd T).length) by omega]
        · refine HL.cons (j := j) (by omega) ?_ ?_ z3
          · rw [z2.2.2.2.2 _ (by omega), mV_2, mI_s _ _ (by omega)]
          · exact (e2.fr ff hj).fr z2 hj
      · have sp : sdP Wl ln sd p = [] := by unfold sdP; rw [if_neg h3, if_neg q]
        rw [sp] at ht ⊢
        simp only [List.length_nil, Nat.zero_add, List.nil_append] at ht ⊢
        rw [if_neg q, if_neg t2, nI_1]
        obtain ⟨mz', z1, z2, z3, z4, z5⟩ := ih N (i + 1) k n c mz hA hO2 hT (by omega) (by omega) (by omega) h13 (by omega) h14
        exact ⟨mz', z1, z2, z3, z4, z5⟩
