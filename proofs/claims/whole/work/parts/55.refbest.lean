theorem whv (Wl : Nat → Option WV) (ln : Int32) (p : Pc) : wh Wl ln p = 0 ∨ wh Wl ln p = 1 ∨ wh Wl ln p = 2 ∨ wh Wl ln p = 3 := by
  unfold wh eF eL
  rcases end_cases (fun _ => []) Wl ln p.1 p.2.1 0 with a | a | a <;> rcases end_cases (fun _ => []) Wl ln p.1 p.2.2 1 with b | b | b <;> rw [a, b] <;> decide
theorem i32_a (b : Int32) : b + 0 - 0 = b + 0 := by rw [Int32.add_zero, Int32.sub_zero]
theorem i32_b (b : Int32) : b + 1 - 0 = b + 1 := by rw [Int32.sub_zero]
theorem i32_c (b : Int32) : b + 0 - 1 = b + -1 := by rw [Int32.add_zero, Int32.sub_eq_add_neg]
theorem i32_d (b : Int32) : b + 1 - 1 = b + 0 := by rw [Int32.add_sub_cancel, Int32.add_zero]
theorem boInR {Wl : Nat → Option WV} {ln : Int32} {l : WV} (hl : wAt Wl ln = some l) {mz : MSt} (hA : AG Wl mz) {fr m n : Nat} (hn : n ≤ 8300) (hf : fr + m ≤ 9000) : ∀ (T : List Pc) (N i : Nat) (c b : Int32), (∀ p, p ∈ T → okP Wl p) → HL Wl mz n (fr + i) T → i + T.length = m → T.length < N → sBoIn mz (nI fr) (nI m) ln N c b (nI i) = some ((cs Wl ln T c b).1, (cs Wl ln T c b).2, nI m) := by
  intro T
  induction T with
  | nil =>
    intro N i c b _ _ hi hN
    obtain ⟨N, rfl⟩ : ∃ N', N = N' + 1 := ⟨N - 1, by simp only [List.length_nil] at hN; omega⟩
    obtain rfl : i = m := hi
    unfold sBoIn
    rw [if_pos (nI_le (Nat.le_refl _) (by omega))]
    rfl
  | cons p T ih =>
    intro N i c b hO hH hi hN
    rw [List.length_cons] at hi hN
    obtain ⟨N, rfl⟩ : ∃ N', N = N' + 1 := ⟨N - 1, by omega⟩
    obtain ⟨⟨j, hj, e1, e2⟩, hT⟩ := hH.tail
    have hO2 : ∀ q, q ∈ T → okP Wl q := fun q hq => hO q (List.mem_cons_of_mem _ hq)
    have hlie := lieOfR hA hl (show j < 8300 by omega) (hO p List.mem_cons_self) e2
    have go := fun c b => ih N (i + 1) c b hO2 hT (by omega) (by omega)
    unfold sBoIn
    rw [if_neg (nI_ge (by omega) (by omega)), nI_add, if_pos (vpin_nI (by omega) (by decide)), nI_clamp (by omega), e1, hlie]
    simp only []
    rw [nI_1, go, go]
    show _ = some ((cs Wl ln T _ _).1, (cs Wl ln T _ _).2, nI m)
    rcases whv Wl ln p with e | e | e | e
    · rw [e, if_neg (by decide), if_neg (by decide), if_pos (by decide), if_pos (by decide), i32_a]; rfl
    · rw [e, if_neg (by decide), if_neg (by decide), if_neg (by decide), if_pos (by decide), i32_b]; rfl
    · rw [e, if_neg (by decide), if_neg (by decide), if_pos (by decide), if_neg (by decide), i32_c]; rfl
    · rw [e, if_pos (by decide), if_pos (by decide), if_neg (by decide), if_neg (by decide), i32_d]
/-- the price is small -/
theorem cs_bd (Wl : Nat → Option WV) (ln : Int32) : ∀ (T : List Pc) (c b : Int32) (x : Nat), x + T.length ≤ 1000 → 0 ≤ c.toInt → c.toInt ≤ x → -(x : Int) ≤ b.toInt → b.toInt ≤ x → 0 ≤ (cs Wl ln T c b).1.toInt ∧ (cs Wl ln T c b).1.toInt ≤ 1000 ∧ -1000 ≤ (cs Wl ln T c b).2.toInt ∧ (cs Wl ln T c b).2.toInt ≤ 1000 := by
  intro T
  induction T with
  | nil => intro c b x h h0 h1 h2 h3; rw [List.length_nil] at h; exact ⟨h0, by show c.toInt ≤ 1000; omega, by show -1000 ≤ b.toInt; omega, by show b.toInt ≤ 1000; omega⟩
  | cons p T ih =>
    intro c b x h h0 h1 h2 h3
    rw [List.length_cons] at h
    have z0 : (0 : Int32).toInt = 0 := by decide
    have z1 : (1 : Int32).toInt = 1 := by decide
    have zm : (-1 : Int32).toInt = -1 := by decide
    have a1 : (c + 1).toInt = c.toInt + 1 := by rw [add32 (by omega) (by omega), z1]
    have b1 : (b + 1).toInt = b.toInt + 1 := by rw [add32 (by omega) (by omega), z1]
    have b2 : (b + -1).toInt = b.toInt - 1 := by rw [add32 (by omega) (by omega), zm]; omega
    show 0 ≤ (cs Wl ln T _ _).1.toInt ∧ (cs Wl ln T _ _).1.toInt ≤ 1000 ∧ -1000 ≤ (cs Wl ln T _ _).2.toInt ∧ (cs Wl ln T _ _).2.toInt ≤ 1000
    rcases whv Wl ln p with e | e | e | e
    · rw [e, if_neg (by decide), if_pos (by decide), if_pos (by decide), i32_a, Int32.add_zero, Int32.add_zero]
      exact ih c b (x + 1) (by omega) (by omega) (by omega) (by omega) (by omega)
    · rw [e, if_neg (by decide), if_neg (by decide), if_pos (by decide), i32_b, Int32.add_zero]
      exact ih c (b + 1) (x + 1) (by omega) (by omega) (by omega) (by omega) (by omega)
    · rw [e, if_neg (by decide), if_pos (by decide), if_neg (by decide), i32_c, Int32.add_zero]
      exact ih c (b + -1) (x + 1) (by omega) (by omega) (by omega) (by omega) (by omega)
    · rw [e, if_pos (by decide), if_neg (by decide), if_neg (by decide), i32_d, Int32.add_zero]
      exact ih (c + 1) b (x + 1) (by omega) (by omega) (by omega) (by omega) (by omega)
theorem mul4 {c : Int32} (h0 : 0 ≤ c.toInt) (h1 : c.toInt ≤ 1000) : (4 * c).toInt = 4 * c.toInt := by
  rw [Int32.toInt_mul, show (4 : Int32).toInt = 4 from by decide]
  exact bm32 (by omega) (by omega)
theorem pr_bd (Wl : Nat → Option WV) (ln : Int32) (L : List Pc) (h : L.length ≤ 1000) : ¬ (1073741824 : Int32) ≤ pr Wl ln L := by
  obtain ⟨h0, h1, h2, h3⟩ := cs_bd Wl ln L 0 0 0 (by omega) (by decide) (by decide) (by decide) (by decide)
  unfold pr sBlP
  generalize (cs Wl ln L 0 0).1 = c at *
  generalize (cs Wl ln L 0 0).2 = b at *
  have m := mul4 h0 h1
  have z0 : (0 : Int32).toInt = 0 := by decide
  rw [Int32.le_iff_toInt_le, show (1073741824 : Int32).toInt = 1073741824 from by decide]
  split
  · rw [add32 (by omega) (by omega)]; omega
  · have n := sub32 (a := 0) (b := b) (by omega) (by omega)
    rw [add32 (by omega) (by omega)]; omega
theorem boOutR {Wl : Nat → Option WV} {mz : MSt} (hA : AG Wl mz) {L : List Pc} {fr n : Nat} (hn : n ≤ 8300) (hf : fr + L.length ≤ 9000) (hO : ∀ p, p ∈ L → okP Wl p) (hH : HL Wl mz n fr L) {N2 : Nat} (hN2 : L.length < N2) (h1000 : L.length ≤ 1000) : ∀ (q N i : Nat) (T : List Pc) (be be' le : Int32), q = min 16 L.length - i → L.drop i = T → i ≤ min 16 L.length → q < N → ((be = be' ∧ be ≠ -1) ∨ (be = -1 ∧ le = 1073741824 ∧ 0 < q)) → ∃ le' i', sBoOut mz (nI fr) (nI L.length) N2 N be' le (nI i) = some (bs Wl L (T.take q) be le, le', i') := by
  intro q
  induction q with
  | zero =>
    intro N i T be be' le hq hT hi hN hb
    obtain ⟨N, rfl⟩ : ∃ N', N = N' + 1 := ⟨N - 1, by omega⟩
    rcases hb with ⟨rfl, hb⟩ | ⟨_, _, hb⟩
    · refine ⟨le, nI i, ?_⟩
      unfold sBoOut
      by_cases e : L.length ≤ i
      · rw [if_pos (nI_le e (by omega))]; rfl
      · rw [if_neg (nI_ge (by omega) (by omega)), if_pos (show (16 : Int32) ≤ nI i from nI_le (a := 16) (by omega) (by omega))]; rfl
    · omega
  | succ q ih =>
    intro N i T be be' le hq hT hi hN hb
    obtain ⟨N, rfl⟩ : ∃ N', N = N' + 1 := ⟨N - 1, by omega⟩
    cases T with
    | nil =>
      exfalso
      have := congrArg List.length hT
      rw [List.length_drop, List.length_nil] at this
      omega
    | cons p T =>
      obtain ⟨e1, e2⟩ := drop_cons hT
      obtain ⟨j, hj, ej, hp⟩ := hH i p e1
      have hpL : p ∈ L := List.mem_of_getElem? e1
      obtain ⟨w, hw, -, -⟩ := hO p hpL
      have np : p.1 ≠ -1 := fun e => by rw [e, wAt_neg] at hw; cases hw
      have hin := boInR hw hA hn hf L N2 0 0 0 hO (by rw [Nat.add_zero]; exact hH) (Nat.zero_add _) hN2
      have hpr : (if 0 ≤ (cs Wl p.1 L 0 0).2 then 4 * (cs Wl p.1 L 0 0).1 + (cs Wl p.1 L 0 0).2 else 4 * (cs Wl p.1 L 0 0).1 + -(cs Wl p.1 L 0 0).2) = pr Wl p.1 L := by
        unfold pr sBlP
        split
        · rfl
        · rw [Int32.zero_sub]
      have hpb := pr_bd Wl p.1 L h1000
      unfold sBoOut
      rw [if_neg (nI_ge (show i < L.length by omega) (by omega)), if_neg (show ¬ (16 : Int32) ≤ nI i from nI_ge (b := 16) (by omega) (by decide)), nI_add, if_pos (vpin_nI (by omega) (by decide)), nI_clamp (by omega), ej, if_pos (vpin_nI (by omega) (by decide)), nI_clamp (by omega), hp.1]
      rw [show (0 : Int32) = nI 0 from rfl] at hin ⊢
      rw [hin]
      dsimp only
      have s1 : ∀ x : Int32, ∃ le' i', sBoOut mz (nI fr) (nI L.length) N2 N p.1 x (nI i + 1) = some (bs Wl L (T.take q) p.1 x, le', i') := fun x => by
        rw [nI_1]
        exact ih N (i + 1) T p.1 p.1 x (by omega) e2 (by omega) (by omega) (Or.inl ⟨rfl, np⟩)
      have tk : (p :: T).take (q + 1) = p :: T.take q := rfl
      rw [tk]
      show ∃ le' i', _ = some (if be = -1 then bs Wl L (T.take q) p.1 (pr Wl p.1 L) else if le ≤ pr Wl p.1 L then bs Wl L (T.take q) be le else bs Wl L (T.take q) p.1 (pr Wl p.1 L), le', i')
      rw [show nI 0 = (0 : Int32) from rfl]
      rcases hb with ⟨rfl, hb⟩ | ⟨rfl, rfl, hb⟩
      · have s2 : ∃ le' i', sBoOut mz (nI fr) (nI L.length) N2 N be le (nI i + 1) = some (bs Wl L (T.take q) be le, le', i') := by
          rw [nI_1]
          exact ih N (i + 1) T be be le (by omega) e2 (by omega) (by omega) (Or.inl ⟨rfl, hb⟩)
        rw [if_neg hb]
        by_cases a : 0 ≤ (cs Wl p.1 L 0 0).2
        · rw [if_pos a] at hpr ⊢
          rw [hpr]
          by_cases c : le ≤ pr Wl p.1 L
          · rw [if_pos c, if_pos c]; exact s2
          · rw [if_neg c, if_neg c]; exact s1 _
        · rw [if_neg a] at hpr ⊢
          rw [hpr]
          by_cases c : le ≤ pr Wl p.1 L
          · rw [if_pos c, if_pos c]; exact s2
          · rw [if_neg c, if_neg c]; exact s1 _
      · rw [if_pos rfl]
        by_cases a : 0 ≤ (cs Wl p.1 L 0 0).2
        · rw [if_pos a] at hpr ⊢
          rw [hpr, if_neg hpb]; exact s1 _
        · rw [if_neg a] at hpr ⊢
          rw [hpr, if_neg hpb]; exact s1 _
theorem bestR {Wl : Nat → Option WV} {mz : MSt} (hA : AG Wl mz) {L : List Pc} {fr n : Nat} (hn : n ≤ 8300) (hf : fr + L.length ≤ 9000) (hO : ∀ p, p ∈ L → okP Wl p) (hH : HL Wl mz n fr L) {N9 N2 : Nat} (hN2 : L.length < N2) (hN9 : 16 < N9) (h1000 : L.length ≤ 1000) (h0 : L ≠ []) : sM_bestOf mz (nI fr) (nI L.length) N9 N2 = some (bst Wl L) := by
  have hl : 0 < L.length := List.length_pos_iff.2 h0
  obtain ⟨le', i', e⟩ := boOutR hA hn hf hO hH hN2 h1000 (min 16 L.length) N9 0 L (-1) 0 1073741824 (by omega) rfl (by omega) (by omega) (Or.inr ⟨rfl, rfl, by omega⟩)
  unfold sM_bestOf
  rw [show (0 : Int32) = nI 0 from rfl] at e ⊢
  rw [e]
  show some (bs Wl L (L.take (min 16 L.length)) (-1) 1073741824) = some (bs Wl L (L.take (min 16 L.length)) (-1) 0)
  congr 1
  obtain ⟨x, hx⟩ : ∃ x, min 16 L.length = x + 1 := ⟨min 16 L.length - 1, by omega⟩
  rw [hx]
  cases L with
  | nil => exact absurd rfl h0
  | cons p T => rfl
/-- how many pieces of a wall -/
def cW (w : Int32) : List Pc → Nat
  | [] => 0
  | p :: T => cW w T + if p.1 = w then 1 else 0
theorem cW_app (w : Int32) (A B : List Pc) : cW w (A ++ B) = cW w A + cW w B := by
  induction A with
  | nil => show cW w B = 0 + cW w B; omega
  | cons p T ih => show cW w (T ++ B) + _ = cW w T + _ + cW w B; rw [ih]; omega
/-- the array on holds the list from an index on -/
def HQ (Wl : Nat → Option WV) (mz : MSt) (n q : Nat) (L : List Pc) : Prop := ∀ i p, L[i]? = some p → ∃ j, j < n ∧ mz.2.1 27 (q + i) = nI j ∧ HP Wl mz j p
theorem HQ.nil {Wl : Nat → Option WV} {mz : MSt} {n q : Nat} : HQ Wl mz n q [] := fun i p e => by simp at e
theorem HQ.cons {Wl : Nat → Option WV} {mz : MSt} {n q j : Nat} {p : Pc} {T : List Pc} (hj : j < n) (e1 : mz.2.1 27 q = nI j) (e2 : HP Wl mz j p) (h : HQ Wl mz n (q + 1) T) : HQ Wl mz n q (p :: T) := by
  intro i r e
  cases i with
  | zero =>
    obtain rfl : p = r := Option.some.inj e
    exact ⟨j, hj, e1, e2⟩
  | succ i =>
    obtain ⟨j, hj, e1, e2⟩ := h i r e
    exact ⟨j, hj, by rw [Nat.add_comm i 1, ← Nat.add_assoc]; exact e1, e2⟩
theorem HQ.app {Wl : Nat → Option WV} {mz : MSt} {n q : Nat} {A B : List Pc} (h : HQ Wl mz n q A) (h2 : HQ Wl mz n (q + A.length) B) : HQ Wl mz n q (A ++ B) := by
  intro i p e
  by_cases hi : i < A.length
  · rw [List.getElem?_append_left hi] at e
    exact h i p e
  · rw [List.getElem?_append_right (by omega)] at e
    obtain ⟨j, hj, e1, e2⟩ := h2 _ p e
    exact ⟨j, hj, by rw [show q + i = q + A.length + (i - A.length) by omega]; exact e1, e2⟩
/-- what gathering the pieces on the line leaves as it was -/
def frO (q : Nat) (mz mz' : MSt) : Prop := (∀ k, k ≠ 30 → mz'.1 k = mz.1 k) ∧ (∀ k, k ≠ 27 → k ≠ 32 → mz'.2.1 k = mz.2.1 k) ∧ mz'.2.2 = mz.2.2 ∧ (∀ j, j < q → mz'.2.1 27 j = mz.2.1 27 j)
theorem frO.refl (q : Nat) (mz : MSt) : frO q mz mz := ⟨fun _ _ => rfl, fun _ _ _ => rfl, rfl, fun _ _ => rfl⟩
theorem frO.trans {q q' : Nat} {a b c : MSt} (h : frO q a b) (h2 : frO q' b c) (hq : q ≤ q') : frO q a c :=
  ⟨fun k x => (h2.1 k x).trans (h.1 k x), fun k x y => (h2.2.1 k x y).trans (h.2.1 k x y), h2.2.2.1.trans h.2.2.1, fun j x => (h2.2.2.2 j (Nat.lt_of_lt_of_le x hq)).trans (h.2.2.2 j x)⟩
theorem HP.frO {Wl : Nat → Option WV} {q j : Nat} {p : Pc} {a b : MSt} (h : HP Wl a j p) (f : frO q a b) : HP Wl b j p := by
  obtain ⟨e8, w, hw, e⟩ := h
  exact ⟨by rw [f.2.1 8 (by decide) (by decide)]; exact e8, w, hw, by rw [f.2.2.1]; exact e⟩
theorem HL.frO {Wl : Nat → Option WV} {q n fr : Nat} {L : List Pc} {a b : MSt} (h : HL Wl a n fr L) (f : frO q a b) : HL Wl b n fr L := by
  intro i p e
  obtain ⟨j, hj, e1, e2⟩ := h i p e
  exact ⟨j, hj, by rw [f.2.1 15 (by decide) (by decide)]; exact e1, e2.frO f⟩
theorem onR {Wl : Nat → Option WV} {ln : Int32} {l : WV} (hl : wAt Wl ln = some l) {fr m n : Nat} (hn : n ≤ 8300) (hf : fr + m ≤ 9000) : ∀ (T : List Pc) (N i q : Nat) (mz : MSt), AG Wl mz → (∀ p, p ∈ T → okP Wl p) → HL Wl mz n (fr + i) T → i + T.length = m → T.length < N → mz.1 30 = nI q → q + (onL Wl ln T).length ≤ 8300 → ∃ mz', sDivL (nI fr) (nI m) ln N mz (nI i) = some (mz', nI m) ∧ frO q mz mz' ∧ mz'.1 30 = nI (q + (onL Wl ln T).length) ∧ HQ Wl mz' n q (onL Wl ln T) ∧ ∀ w, w < 64 → mz'.2.1 32 w = mz.2.1 32 w + nI (cW (nI w) (onL Wl ln T)) := by
  intro T
  induction T with
  | nil =>
    intro N i q mz hA hO hH hi hN h30 hq
    obtain ⟨N, rfl⟩ : ∃ N', N = N' + 1 := ⟨N - 1, by simp only [List.length_nil] at hN; omega⟩
    obtain rfl : i = m := hi
    refine ⟨mz, ?_, frO.refl _ _, h30, HQ.nil, fun w _ => ?_⟩
    · unfold sDivL
      rw [if_pos (nI_le (Nat.le_refl _) (by omega))]
    · show _ = _ + nI 0
      rw [nI_0, Int32.add_zero]
  | cons p T ih =>
    intro N i q mz hA hO hH hi hN h30 hq
    rw [List.length_cons] at hi hN
    obtain ⟨N, rfl⟩ : ∃ N', N = N' + 1 := ⟨N - 1, by omega⟩
    obtain ⟨⟨j, hj, e1, e2⟩, hT⟩ := hH.tail
    have hO2 : ∀ q, q ∈ T → okP Wl q := fun q hq => hO q (List.mem_cons_of_mem _ hq)
    have hlie := lieOfR hA hl (show j < 8300 by omega) (hO p List.mem_cons_self) e2
    have hol : onL Wl ln (p :: T) = onP Wl ln p ++ onL Wl ln T := List.flatMap_cons
    rw [hol] at hq ⊢
    rw [List.length_append] at hq ⊢
    unfold sDivL
    rw [if_neg (nI_ge (by omega) (by omega)), nI_add, if_pos (vpin_nI (by omega) (by decide)), nI_clamp (by omega), e1, hlie]
    simp only []
    by_cases h0 : wh Wl ln p = 0
    · have op1 : onP Wl ln p = [p] := by unfold onP; rw [if_pos h0]
      rw [op1] at hq ⊢
      simp only [List.length_cons, List.length_nil] at hq ⊢
      obtain ⟨w, hw, -, -⟩ := hO p List.mem_cons_self
      obtain ⟨x, hx, ex, -⟩ := wAt_some hw
      have q15 : (mI 27 (nI q) (nI j) mz).2.1 15 = mz.2.1 15 := mI_n _ _ _ (by decide)
      have q8 : (mI 27 (nI q) (nI j) mz).2.1 8 = mz.2.1 8 := mI_n _ _ _ (by decide)
      have q32 : (mI 27 (nI q) (nI j) mz).2.1 32 = mz.2.1 32 := mI_n _ _ _ (by decide)
      rw [h0, if_pos (by decide), h30, if_pos (vpin_nI (by omega) (by decide)), q15, e1, if_pos (vpin_nI (by omega) (by decide)), nI_clamp (n := j) (by omega), q8, e2.1, ex, if_pos (vpin_nI hx (by decide)), nI_clamp (n := x) (by omega), q32, mI_1, mI_1, h30, nI_1, nI_1]
      have ff : frO q mz (mV 30 (nI (q + 1)) (mI 32 (nI x) (mz.2.1 32 x + 1) (mI 27 (nI q) (nI j) mz))) := by
        refine ⟨fun k a => ?_, fun k a b => ?_, rfl, fun y a => ?_⟩
        · rw [mV_n _ _ a]; rfl
        · rw [mV_2, mI_n _ _ _ b, mI_n _ _ _ a]
        · rw [mV_2, mI_n _ _ _ (by decide), mI_o _ _ (by omega) (by omega)]
      obtain ⟨mz', z1, z2, z3, z4, z5⟩ := ih N (i + 1) (q + 1) _ (hA.move (fun k hk => ff.2.1 k (by omega) (by omega))) hO2 (hT.frO ff) (by omega) (by omega) (mV_s _ _ _) (by omega)
      refine ⟨mz', z1, ff.trans z2 (by omega), ?_, ?_, ?_⟩
      · rw [z3]; congr 1; omega
      · refine HQ.cons hj ?_ ((e2.frO ff).frO z2) z4
        rw [z2.2.2.2 _ (by omega), mV_2, mI_n _ _ _ (by decide), mI_s _ _ (by omega)]
      · intro y hy
        rw [z5 y hy, mV_2]
        show _ = _ + nI (cW (nI y) (onL Wl ln T) + if p.1 = nI y then 1 else 0)
        by_cases exy : y = x
        · subst exy
          rw [mI_s _ _ (by omega), if_pos ex, Int32.add_assoc, Int32.add_comm 1, nI_1]
        · rw [mI_o _ _ (by omega) exy, mI_n _ _ _ (by decide), if_neg (by rw [ex]; exact fun h => exy ((nI_eq (by omega) (by omega)).1 h).symm)]
          rfl
    · have op1 : onP Wl ln p = [] := by unfold onP; rw [if_neg h0]
      have t0 : ¬ tl (wh Wl ln p) = 0 := by
        rcases whv Wl ln p with e | e | e | e
        · exact absurd e h0
        · rw [e]; decide
        · rw [e]; decide
        · rw [e]; decide
      rw [op1] at hq ⊢
      simp only [List.length_nil, Nat.zero_add, List.nil_append] at hq ⊢
      rw [if_neg t0, nI_1]
      exact ih N (i + 1) q mz hA hO2 hT (by omega) (by omega) h30 hq
