theorem m1n_ex : ∃ f : Nat → Int32, ∀ l, f l = (-1) - nI l := ⟨fun l => (-1) - nI l, fun _ => rfl⟩
/-- -1 less a number, as a word that the kernel doesn't open -/
noncomputable def m1n : Nat → Int32 := m1n_ex.choose
theorem m1n_eq (l : Nat) : m1n l = (-1) - nI l := m1n_ex.choose_spec l
noncomputable def lk (m l0 k0 : Nat) : Int32 := if m = 0 then m1n l0 else nI k0
def NR (b : MSt) (x : Nd) : Prop := b.2.1 21 x.2.2.2.2.2.2.1 = x.1 ∧ b.2.1 22 x.2.2.2.2.2.2.1 = lk x.2.2.2.2.1 x.2.2.2.2.2.2.2 (x.2.2.2.2.2.2.1 + 1) ∧ b.2.1 23 x.2.2.2.2.2.2.1 = lk x.2.2.2.2.2.1 (x.2.2.2.2.2.2.2 + (x.2.2.2.2.1 + 1)) (x.2.2.2.2.2.2.1 + (x.2.2.2.2.1 + 1)) ∧ b.2.1 24 x.2.2.2.2.2.2.1 = nI x.2.1 ∧ b.2.1 25 x.2.2.2.2.2.2.1 = nI x.2.2.1 ∧ b.2.1 26 x.2.2.2.2.2.2.1 = nI x.2.2.2.1
theorem NR.frT {t fr k0 p0 n kk jd : Nat} {a b : MSt} {x : Nd} (h : NR a x) (f : frT t fr k0 p0 n kk jd a b) (h1 : x.2.2.2.2.2.2.1 < k0) (h2 : x.2.2.2.2.2.2.1 ≠ jd) : NR b x := by
  have g := fun k y z => f.2.2.2.2.2.2.1 k x.2.2.2.2.2.2.1 y z h1 (fun q => h2 q.2)
  obtain ⟨e1, e2, e3, e4, e5, e6⟩ := h
  exact ⟨(g 21 (by decide) (by decide)).trans e1, (g 22 (by decide) (by decide)).trans e2, (g 23 (by decide) (by decide)).trans e3, (g 24 (by decide) (by decide)).trans e4, (g 25 (by decide) (by decide)).trans e5, (g 26 (by decide) (by decide)).trans e6⟩
theorem nds_k (Wl : Nat → Option WV) : ∀ (D : Nat) (L : List Pc) (k0 p0 l0 : Nat) (x : Nd), x ∈ nds Wl D L k0 p0 l0 → k0 ≤ x.2.2.2.2.2.2.1 ∧ x.2.2.2.2.2.2.1 < k0 + nN Wl D L := by
  intro D
  induction D with
  | zero => intro L k0 p0 l0 x h; cases h
  | succ D ih =>
    intro L k0 p0 l0 x h
    cases L with
    | nil => cases h
    | cons p T =>
      have hn : nN Wl (D + 1) (p :: T) = nN Wl D (lfL Wl (bst Wl (p :: T)) (p :: T)) + nN Wl D (rgL Wl (bst Wl (p :: T)) (p :: T)) + 1 := rfl
      rw [hn]
      rcases List.mem_cons.1 h with rfl | h
      · show k0 ≤ k0 ∧ k0 < _
        omega
      · rcases List.mem_append.1 h with h | h
        · have := ih _ _ _ _ _ h
          omega
        · have := ih _ _ _ _ _ h
          omega
/-- all cuts of a list's tree -/
def ctT (Wl : Nat → Option WV) : Nat → List Pc → Nat
  | 0, _ => 0
  | _ + 1, [] => 0
  | D + 1, p :: T => ctN Wl (bst Wl (p :: T)) (p :: T) + (ctT Wl D (lfL Wl (bst Wl (p :: T)) (p :: T)) + ctT Wl D (rgL Wl (bst Wl (p :: T)) (p :: T)))
theorem split_len (Wl : Nat → Option WV) (ln : Int32) : ∀ L : List Pc, (onL Wl ln L).length + (lfL Wl ln L).length + (rgL Wl ln L).length = L.length + ctN Wl ln L := by
  intro L
  induction L with
  | nil => rfl
  | cons p T ih =>
    have h1 : onL Wl ln (p :: T) = onP Wl ln p ++ onL Wl ln T := List.flatMap_cons
    have h2 : lfL Wl ln (p :: T) = lfP Wl ln p ++ lfL Wl ln T := List.flatMap_cons
    have h3 : rgL Wl ln (p :: T) = rgP Wl ln p ++ rgL Wl ln T := List.flatMap_cons
    have h4 : ctN Wl ln (p :: T) = ctN Wl ln T + if wh Wl ln p = 3 then 1 else 0 := rfl
    rw [h1, h2, h3, h4, List.length_append, List.length_append, List.length_append, List.length_cons]
    have k : (onP Wl ln p).length + (lfP Wl ln p).length + (rgP Wl ln p).length = 1 + if wh Wl ln p = 3 then 1 else 0 := by
      unfold onP lfP rgP
      rcases whv Wl ln p with e | e | e | e <;> rw [e] <;> rfl
    omega
theorem pcs_len (Wl : Nat → Option WV) : ∀ (D : Nat) (L : List Pc), L.length ≤ D → (pcs Wl D L).length = L.length + ctT Wl D L := by
  intro D
  induction D with
  | zero => intro L h; rw [List.eq_nil_of_length_eq_zero (Nat.le_zero.1 h)]; rfl
  | succ D ih =>
    intro L h
    cases L with
    | nil => rfl
    | cons p T =>
      have l1 := lf_lt Wl p T
      have l2 := rg_lt Wl p T
      rw [List.length_cons] at h
      have s := split_len Wl (bst Wl (p :: T)) (p :: T)
      show List.length (_ ++ (_ ++ _)) = (p :: T).length + (_ + (_ + _))
      rw [List.length_append, List.length_append, ih _ (by omega), ih _ (by omega)]
      omega
theorem divTR {Wl : Nat → Option WV} {p : Pc} {T : List Pc} {l : WV} (hl : wAt Wl (bst Wl (p :: T)) = some l) {a : MSt} {n c t k0 l0 p0 fr N9 N2 kk jd dep : Nat} {h nd sd : Int32} (hI : MI a n c t k0 l0 p0 h) (hA : AG Wl a) (hO : ∀ q, q ∈ p :: T → okP Wl q) (hH : HL Wl a n fr (p :: T)) (hpar : par k0 kk jd nd sd) (hdp : dpt a kk jd dep) (hN9 : (p :: T).length < N9) (h16 : 16 < N9) (hN2 : (p :: T).length < N2) (hL : (p :: T).length ≤ 1000) (hk : k0 < 4200) (hn : n + 2 * ctN Wl (bst Wl (p :: T)) (p :: T) ≤ 8300) (ht : t + 2 ≤ 140) (hf : fr + 3 * (p :: T).length ≤ 9000) (hp : p0 + (onL Wl (bst Wl (p :: T)) (p :: T)).length ≤ 8300) : ∃ a5 b, sDivT (nI fr) (nI (p :: T).length) nd N9 N2 a = some b ∧ sDivU (nI fr) (nI (p :: T).length) N9 N2 a5 (nI k0) (bst Wl (p :: T)) = some b ∧ frT t fr k0 p0 n kk jd a a5 ∧ MI a5 n c t (k0 + 1) l0 p0 (plH dep h) ∧ a5.2.1 21 k0 = bst Wl (p :: T) ∧ a5.2.1 24 k0 = nI dep ∧ (∀ k, k ≠ 21 → k ≠ 24 → a5.2.1 k = a.2.1 k) ∧ a5.2.2 = a.2.2 := by
  obtain ⟨i13, i14, i20, i28, i29, i30, i31⟩ := hI
  have A2 : AG Wl (mV 28 (nI (k0 + 1)) a) := hA.move (fun k _ => rfl)
  have H2 : HL Wl (mV 28 (nI (k0 + 1)) a) n fr (p :: T) := hH
  have eb := bestR A2 (show n ≤ 8300 by omega) (show fr + (p :: T).length ≤ 9000 by omega) hO H2 hN2 h16 hL (by simp)
  have key : ∀ (x : Int32), x = plH dep h → frT t fr k0 p0 n kk jd a (mV 31 x (mI 24 (nI k0) (nI dep) (mI 21 (nI k0) (bst Wl (p :: T)) (mV 28 (nI (k0 + 1)) a)))) ∧ MI (mV 31 x (mI 24 (nI k0) (nI dep) (mI 21 (nI k0) (bst Wl (p :: T)) (mV 28 (nI (k0 + 1)) a)))) n c t (k0 + 1) l0 p0 (plH dep h) ∧ (mV 31 x (mI 24 (nI k0) (nI dep) (mI 21 (nI k0) (bst Wl (p :: T)) (mV 28 (nI (k0 + 1)) a)))).2.1 21 k0 = bst Wl (p :: T) ∧ (mV 31 x (mI 24 (nI k0) (nI dep) (mI 21 (nI k0) (bst Wl (p :: T)) (mV 28 (nI (k0 + 1)) a)))).2.1 24 k0 = nI dep ∧ (∀ k, k ≠ 21 → k ≠ 24 → (mV 31 x (mI 24 (nI k0) (nI dep) (mI 21 (nI k0) (bst Wl (p :: T)) (mV 28 (nI (k0 + 1)) a)))).2.1 k = a.2.1 k) ∧ (mV 31 x (mI 24 (nI k0) (nI dep) (mI 21 (nI k0) (bst Wl (p :: T)) (mV 28 (nI (k0 + 1)) a)))).2.2 = a.2.2 := by
    intro x hx
    refine ⟨(frT.ofV (by decide)).then ((frT.ofI (by omega) (Or.inl ⟨by decide, by decide, Or.inl (Nat.le_refl _)⟩)).then ((frT.ofI (by omega) (Or.inl ⟨by decide, by decide, Or.inl (Nat.le_refl _)⟩)).then (frT.ofV (by decide)))), ⟨?_, ?_, ?_, ?_, ?_, ?_, ?_⟩, ?_, ?_, ?_, rfl⟩
    · rw [mV_n _ _ (by decide), mI_1, mI_1, mV_n _ _ (by decide)]; exact i13
    · rw [mV_n _ _ (by decide), mI_1, mI_1, mV_n _ _ (by decide)]; exact i14
    · rw [mV_n _ _ (by decide), mI_1, mI_1, mV_n _ _ (by decide)]; exact i20
    · rw [mV_n _ _ (by decide), mI_1, mI_1, mV_s]
    · rw [mV_n _ _ (by decide), mI_1, mI_1, mV_n _ _ (by decide)]; exact i29
    · rw [mV_n _ _ (by decide), mI_1, mI_1, mV_n _ _ (by decide)]; exact i30
    · rw [mV_s]; exact hx
    · rw [mV_2, mI_n _ _ _ (by decide), mI_s _ _ (by omega)]
    · rw [mV_2, mI_s _ _ (by omega)]
    · intro k h1 h2
      rw [mV_2, mI_n _ _ _ h2, mI_n _ _ _ h1, mV_2]
  have e31 : (mI 24 (nI k0) (nI dep) (mI 21 (nI k0) (bst Wl (p :: T)) (mV 28 (nI (k0 + 1)) a))).1 31 = h := by
    rw [mI_1, mI_1, mV_n _ _ (by decide)]; exact i31
  have e24 : (mI 24 (nI k0) (nI dep) (mI 21 (nI k0) (bst Wl (p :: T)) (mV 28 (nI (k0 + 1)) a))).2.1 24 k0 = nI dep := mI_s _ _ (by omega)
  have fin : ∃ a5, (if nI dep + 1 ≤ h then sDivU (nI fr) (nI (p :: T).length) N9 N2 (mV 31 h (mI 24 (nI k0) (nI dep) (mI 21 (nI k0) (bst Wl (p :: T)) (mV 28 (nI (k0 + 1)) a)))) (nI k0) (bst Wl (p :: T)) else sDivU (nI fr) (nI (p :: T).length) N9 N2 (mV 31 (nI dep + 1) (mI 24 (nI k0) (nI dep) (mI 21 (nI k0) (bst Wl (p :: T)) (mV 28 (nI (k0 + 1)) a)))) (nI k0) (bst Wl (p :: T))) = sDivU (nI fr) (nI (p :: T).length) N9 N2 a5 (nI k0) (bst Wl (p :: T)) ∧ frT t fr k0 p0 n kk jd a a5 ∧ MI a5 n c t (k0 + 1) l0 p0 (plH dep h) ∧ a5.2.1 21 k0 = bst Wl (p :: T) ∧ a5.2.1 24 k0 = nI dep ∧ (∀ k, k ≠ 21 → k ≠ 24 → a5.2.1 k = a.2.1 k) ∧ a5.2.2 = a.2.2 := by
    have pe := plH_eq dep h
    by_cases e : nI dep + 1 ≤ h
    · rw [if_pos e] at pe ⊢
      exact ⟨_, rfl, key h pe⟩
    · rw [if_neg e] at pe ⊢
      exact ⟨_, rfl, key _ pe⟩
  obtain ⟨a5, f1, f2, f3, f4, f5, f6, f7⟩ := fin
  obtain ⟨b, hb, -⟩ := divVR (N2 := N2) hl f3 (hA.frT f2) hO (by
    intro i q e
    obtain ⟨j, hj, q1, q2⟩ := hH i q e
    exact ⟨j, hj, by rw [f6 15 (by decide) (by decide)]; exact q1, q2.frT f2 hj⟩) hN9 hk hn ht hf hp kk jd
  refine ⟨a5, b, ?_, hb, f2, f3, f4, f5, f6, f7⟩
  rw [hb] at f1
  rw [← f1]
  unfold sDivT
  rw [i28, nI_1, eb]
  dsimp only
  rw [if_pos (vpin_nI hk (by decide)), nI_clamp (n := k0) (by omega)]
  rcases hpar with ⟨rfl, rfl⟩ | ⟨rfl, hjd, hkk⟩
  · rw [if_neg (by decide)]
    have d0 : (0 : Int32) = nI dep := by rw [hdp.1 rfl]; rfl
    rw [d0, e24, e31]
  · have kk0 : kk ≠ 0 := by rcases hkk with ⟨_, rfl⟩ | ⟨_, rfl⟩ <;> decide
    rw [if_pos (nI_pos' (by omega)), if_pos (vpin_nI (by omega) (by decide)), nI_clamp (n := jd) (by omega)]
    have d1 : ((mI 21 (nI k0) (bst Wl (p :: T)) (mV 28 (nI (k0 + 1)) a)).2.1 24) jd + 1 = nI dep := by
      rw [mI_n _ _ _ (by decide), mV_2]; exact hdp.2 kk0
    rw [d1, e24, e31]
theorem divR {Wl : Nat → Option WV} {p : Pc} {T : List Pc} {l : WV} (hl : wAt Wl (bst Wl (p :: T)) = some l) {a : MSt} {n c t k0 l0 p0 fr N9 N2 kk jd dep : Nat} {h nd sd : Int32} (hI : MI a n c t k0 l0 p0 h) (hA : AG Wl a) (hO : ∀ q, q ∈ p :: T → okP Wl q) (hH : HL Wl a n fr (p :: T)) (hpar : par k0 kk jd nd sd) (hdp : dpt a kk jd dep) (hN9 : (p :: T).length < N9) (h16 : 16 < N9) (hN2 : (p :: T).length < N2) (hL : (p :: T).length ≤ 1000) (hk : k0 < 4200) (hn : n + 2 * ctN Wl (bst Wl (p :: T)) (p :: T) ≤ 8300) (ht : t + 2 ≤ 140) (hf : fr + 3 * (p :: T).length ≤ 9000) (hp : p0 + (onL Wl (bst Wl (p :: T)) (p :: T)).length ≤ 8300) : ∃ b, sM_divide a (nI fr) (nI (p :: T).length) nd sd N9 N2 = some b ∧ frT t fr k0 p0 n kk jd a b ∧ MI b (n + 2 * ctN Wl (bst Wl (p :: T)) (p :: T)) (c + ctN Wl (bst Wl (p :: T)) (p :: T)) (t + 2) (k0 + 1) l0 (p0 + (onL Wl (bst Wl (p :: T)) (p :: T)).length) (plH dep h) ∧ (kk ≠ 0 → b.2.1 kk jd = nI k0) ∧ b.2.1 21 k0 = bst Wl (p :: T) ∧ b.2.1 24 k0 = nI dep ∧ b.2.1 25 k0 = nI p0 ∧ b.2.1 26 k0 = nI (onL Wl (bst Wl (p :: T)) (p :: T)).length ∧ HQ Wl b n p0 (onL Wl (bst Wl (p :: T)) (p :: T)) ∧ HL Wl b (n + 2 * ctN Wl (bst Wl (p :: T)) (p :: T)) (fr + (p :: T).length) (rgL Wl (bst Wl (p :: T)) (p :: T)) ∧ HL Wl b (n + 2 * ctN Wl (bst Wl (p :: T)) (p :: T)) (fr + (p :: T).length + (rgL Wl (bst Wl (p :: T)) (p :: T)).length) (lfL Wl (bst Wl (p :: T)) (p :: T)) ∧ (∀ w, w < 64 → b.2.1 32 w = a.2.1 32 w + nI (cW (nI w) (onL Wl (bst Wl (p :: T)) (p :: T)))) ∧ (b.2.1 16 t = nI (fr + (p :: T).length) ∧ b.2.1 17 t = nI (rgL Wl (bst Wl (p :: T)) (p :: T)).length ∧ b.2.1 18 t = nI k0 ∧ b.2.1 19 t = 1) ∧ (b.2.1 16 (t + 1) = nI (fr + (p :: T).length + (rgL Wl (bst Wl (p :: T)) (p :: T)).length) ∧ b.2.1 17 (t + 1) = nI (lfL Wl (bst Wl (p :: T)) (p :: T)).length ∧ b.2.1 18 (t + 1) = nI k0 ∧ b.2.1 19 (t + 1) = 0) := by
  -- the state with the link from above
  have nn0 : ¬ nI (p :: T).length = 0 := nI_ne0 (by rw [List.length_cons]; omega) (by omega)
  have main : ∃ a1, sM_divide a (nI fr) (nI (p :: T).length) nd sd N9 N2 = sDivT (nI fr) (nI (p :: T).length) nd N9 N2 a1 ∧ frT t fr k0 p0 n kk jd a a1 ∧ a1.1 = a.1 ∧ a1.2.2 = a.2.2 ∧ (∀ k, k ≠ 22 → k ≠ 23 → a1.2.1 k = a.2.1 k) ∧ (kk ≠ 0 → (kk = 22 ∨ kk = 23) ∧ a1.2.1 kk jd = nI k0) := by
    unfold sM_divide
    rw [if_neg nn0, hI.2.2.2.1]
    rcases hpar with ⟨rfl, rfl⟩ | ⟨rfl, hjd, ⟨rfl, rfl⟩ | ⟨rfl, rfl⟩⟩
    · rw [if_pos (by decide)]
      exact ⟨a, rfl, frT.refl _ _ _ _ _ _ _ _, rfl, rfl, fun _ _ _ => rfl, fun e => absurd rfl e⟩
    · rw [if_neg (nI_pos (by omega)), if_pos rfl, if_pos (vpin_nI (by omega) (by decide))]
      exact ⟨_, rfl, frT.ofI (by omega) (Or.inl ⟨by decide, by decide, Or.inr ⟨rfl, rfl⟩⟩), rfl, rfl, fun k h1 _ => mI_n _ _ _ h1, fun _ => ⟨Or.inl rfl, mI_s _ _ (by omega)⟩⟩
    · rw [if_neg (nI_pos (by omega)), if_neg (by decide), if_pos (vpin_nI (by omega) (by decide))]
      exact ⟨_, rfl, frT.ofI (by omega) (Or.inl ⟨by decide, by decide, Or.inr ⟨rfl, rfl⟩⟩), rfl, rfl, fun k _ h1 => mI_n _ _ _ h1, fun _ => ⟨Or.inr rfl, mI_s _ _ (by omega)⟩⟩
  obtain ⟨a1, m1, m2, m3, m4, m5, m6⟩ := main
  have I1 : MI a1 n c t k0 l0 p0 h := by unfold MI; rw [m3]; exact hI
  have A1 := hA.frT m2
  have H1 : HL Wl a1 n fr (p :: T) := by
    intro i q e
    obtain ⟨j, hj, q1, q2⟩ := hH i q e
    exact ⟨j, hj, by rw [m5 15 (by decide) (by decide)]; exact q1, q2.frT m2 hj⟩
  have dp1 : dpt a1 kk jd dep := by unfold dpt; rw [m5 24 (by decide) (by decide)]; exact hdp
  obtain ⟨a5, b, e1, e2, e3, e4, e5, e6, e7, e8⟩ := divTR hl I1 A1 hO H1 hpar dp1 hN9 h16 hN2 hL hk hn ht hf hp
  have H5 : HL Wl a5 n fr (p :: T) := by
    intro i q e
    obtain ⟨j, hj, q1, q2⟩ := H1 i q e
    exact ⟨j, hj, by rw [e7 15 (by decide) (by decide)]; exact q1, q2.frT e3 hj⟩
  obtain ⟨b', z1, z2, z3, z4, z5, z6, z7, z8, z9, z10, s0, s1, s2, s3, s4, s5, s6, s7⟩ := divVR (N2 := N2) hl e4 (A1.frT e3) hO H5 hN9 hk hn ht hf hp kk jd
  obtain rfl : b' = b := Option.some.inj (z1.symm.trans e2)
  refine ⟨b', by rw [m1, e1], m2.then (e3.then z2), z3, ?_, ?_, ?_, z5, z6, z7, z8, z9, ?_, ⟨s0, s1, s2, s3⟩, ⟨s4, s5, s6, s7⟩⟩
  · intro hk0
    obtain ⟨g1, g2⟩ := m6 hk0
    rw [z4 kk (by omega) (by omega), e7 kk (by omega) (by omega)]
    exact g2
  · rw [z4 21 (by decide) (by decide)]; exact e5
  · rw [z4 24 (by decide) (by decide)]; exact e6
  · intro w hw
    rw [z10 w hw, e7 32 (by decide) (by decide), m5 32 (by decide) (by decide)]
theorem ok_line {Wl : Nat → Option WV} {p : Pc} {T : List Pc} (hO : ∀ q, q ∈ p :: T → okP Wl q) : ∃ l, wAt Wl (bst Wl (p :: T)) = some l := by
  obtain ⟨q, hq, e⟩ := bst_mem Wl p T
  obtain ⟨w, hw, -⟩ := hO q hq
  exact ⟨w, by rw [e]; exact hw⟩
theorem ok_lf {Wl : Nat → Option WV} {ln : Int32} {l : WV} (hl : wAt Wl ln = some l) {a : MSt} (hA : AG Wl a) {L : List Pc} (hO : ∀ q, q ∈ L → okP Wl q) : (∀ q, q ∈ lfL Wl ln L → okP Wl q) ∧ (∀ q, q ∈ rgL Wl ln L → okP Wl q) := by
  constructor
  · intro q hq
    obtain ⟨p, hp, h⟩ := List.mem_flatMap.1 hq
    rw [← sdP_1] at h
    exact okP_cut hl (hA.ok hl) (hO p hp) (fun w hw => hA.ok hw) q h
  · intro q hq
    obtain ⟨p, hp, h⟩ := List.mem_flatMap.1 hq
    rw [← sdP_2] at h
    exact okP_cut hl (hA.ok hl) (hO p hp) (fun w hw => hA.ok hw) q h
theorem leafR {N9 N2 N : Nat} {Wl : Nat → Option WV} {a : MSt} {n c t k0 l0 p0 fr kk jd : Nat} {h nd sd : Int32} (hI : MI a n c (t + 1) k0 l0 p0 h) (hpar : par k0 kk jd nd sd) (s0 : a.2.1 16 t = nI fr) (s1 : a.2.1 17 t = nI 0) (s2 : a.2.1 18 t = nd) (s3 : a.2.1 19 t = sd) (ht : t < 140) (hk : k0 ≤ 4200) : ∃ b, sMakM N9 N2 (N + 1) a = sMakM N9 N2 N b ∧ frT t fr k0 p0 n kk jd a b ∧ MI b n c t k0 (l0 + 1) p0 h ∧ (kk ≠ 0 → b.2.1 kk jd = m1n l0) ∧ b.2.1 32 = a.2.1 32 := by
  obtain ⟨i13, i14, i20, i28, i29, i30, i31⟩ := hI
  have n1 : ¬ nI (t + 1) ≤ 0 := nI_nle (by omega) (by omega)
  have em : (-1 : Int32) - nI l0 = m1n l0 := (m1n_eq l0).symm
  rw [sMakM, i20, if_neg n1, nI_pred, mV_s, if_pos (vpin_nI ht (by decide)), nI_clamp (by omega), mV_2, s0, s1, s2, s3]
  have main : ∃ b, sM_divide (mV 20 (nI t) a) (nI fr) (nI 0) nd sd N9 N2 = some b ∧ frT t fr k0 p0 n kk jd a b ∧ MI b n c t k0 (l0 + 1) p0 h ∧ (kk ≠ 0 → b.2.1 kk jd = m1n l0) ∧ b.2.1 32 = a.2.1 32 := by
    unfold sM_divide
    have i2 : (mV 20 (nI t) a).1 29 = nI l0 := by rw [mV_n _ _ (by decide)]; exact i29
    rw [if_pos (show nI 0 = 0 from rfl), i2, em, mI_1, mI_1, i2, nI_1]
    have f0 : frT t fr k0 p0 n kk jd a (mV 20 (nI t) a) := frT.ofV (by decide)
    have fI : ∀ b : MSt, b.1 = (mV 20 (nI t) a).1 → MI (mV 29 (nI (l0 + 1)) b) n c t k0 (l0 + 1) p0 h := by
      intro b hb
      refine ⟨?_, ?_, ?_, ?_, ?_, ?_, ?_⟩
      · rw [mV_n _ _ (by decide), hb, mV_n _ _ (by decide)]; exact i13
      · rw [mV_n _ _ (by decide), hb, mV_n _ _ (by decide)]; exact i14
      · rw [mV_n _ _ (by decide), hb, mV_s]
      · rw [mV_n _ _ (by decide), hb, mV_n _ _ (by decide)]; exact i28
      · rw [mV_s]
      · rw [mV_n _ _ (by decide), hb, mV_n _ _ (by decide)]; exact i30
      · rw [mV_n _ _ (by decide), hb, mV_n _ _ (by decide)]; exact i31
    rcases hpar with ⟨rfl, rfl⟩ | ⟨rfl, hjd, ⟨rfl, rfl⟩ | ⟨rfl, rfl⟩⟩
    · rw [if_pos (by decide)]
      exact ⟨_, rfl, f0.then (frT.ofV (by decide)), fI _ rfl, fun e => absurd rfl e, rfl⟩
    · rw [if_neg (nI_pos (by omega)), if_pos rfl, if_pos (vpin_nI (by omega) (by decide))]
      refine ⟨_, rfl, f0.then ((frT.ofI (by omega) (Or.inl ⟨by decide, by decide, Or.inr ⟨rfl, rfl⟩⟩)).then (frT.ofV (by decide))), fI _ rfl, fun _ => ?_, ?_⟩
      · rw [mV_2, mI_s _ _ (by omega)]
      · rw [mV_2, mI_n _ _ _ (by decide), mV_2]
    · rw [if_neg (nI_pos (by omega)), if_neg (by decide), if_pos (vpin_nI (by omega) (by decide))]
      refine ⟨_, rfl, f0.then ((frT.ofI (by omega) (Or.inl ⟨by decide, by decide, Or.inr ⟨rfl, rfl⟩⟩)).then (frT.ofV (by decide))), fI _ rfl, fun _ => ?_, ?_⟩
      · rw [mV_2, mI_s _ _ (by omega)]
      · rw [mV_2, mI_n _ _ _ (by decide), mV_2]
  obtain ⟨b, e1, e2, e3, e4, e5⟩ := main
  rw [e1]
  exact ⟨b, rfl, e2, e3, e4, e5⟩
