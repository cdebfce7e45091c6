theorem ini_up {Wl Wl' : Nat → Option WV} {m : Nat} (he : ∀ j, j ≠ m → Wl' j = Wl j) (h0 : Wl m = none) (h1 : Wl' m ≠ none) : ∀ n i, i + n ≤ 64 → (iniL Wl' n i).length = (iniL Wl n i).length + if i ≤ m ∧ m < i + n then 1 else 0 := by
  intro n
  induction n with
  | zero => intro i _; rw [if_neg (by omega)]; rfl
  | succ n ih =>
    intro i hi
    have e1 : iniL Wl (n + 1) i = (if wAt Wl (nI i) = none then [] else [(nI i, -1, -1)]) ++ iniL Wl n (i + 1) := rfl
    have e2 : iniL Wl' (n + 1) i = (if wAt Wl' (nI i) = none then [] else [(nI i, -1, -1)]) ++ iniL Wl' n (i + 1) := rfl
    rw [e1, e2, List.length_append, List.length_append, ih (i + 1) (by omega), wAt_nI (by omega), wAt_nI (by omega)]
    by_cases e : i = m
    · subst e
      rw [if_pos h0, if_neg h1, if_neg (by omega), if_pos (by omega)]
      simp only [List.length_cons, List.length_nil]
      omega
    · rw [he i e]
      by_cases q : i + 1 ≤ m ∧ m < i + 1 + n
      · rw [if_pos q, if_pos (show i ≤ m ∧ m < i + (n + 1) by omega)]; omega
      · rw [if_neg q, if_neg (show ¬ (i ≤ m ∧ m < i + (n + 1)) by omega)]; omega
theorem ini_none {Wl : Nat → Option WV} (h : ∀ j, j < 64 → Wl j = none) : ∀ n i, i + n ≤ 64 → iniL Wl n i = [] := by
  intro n
  induction n with
  | zero => intro i _; rfl
  | succ n ih =>
    intro i hi
    show (if wAt Wl (nI i) = none then [] else [(nI i, -1, -1)]) ++ iniL Wl n (i + 1) = []
    rw [wAt_nI (by omega), h i (by omega), if_pos rfl, ih (i + 1) (by omega)]
    rfl
theorem AG.set {Wl Wl' : Nat → Option WV} {a b : MSt} (h : AG Wl a) {m : Nat} (he : ∀ j, j ≠ m → Wl' j = Wl j) (hb : ∀ k j, j ≠ m → b.2.1 k j = a.2.1 k j) (hm : (Wl' m = none → b.2.1 1 m = 0) ∧ ∀ v, Wl' m = some v → b.2.1 1 m = 1 ∧ okW v ∧ b.2.1 2 m = v.1 ∧ b.2.1 3 m = v.2.1 ∧ b.2.1 4 m = v.2.2.1 ∧ b.2.1 5 m = v.2.2.2) : AG Wl' b := by
  intro i hi
  by_cases e : i = m
  · subst e; exact hm
  · rw [he i e, hb 1 i e, hb 2 i e, hb 3 i e, hb 4 i e, hb 5 i e]
    exact h i hi
theorem mI_at (k q : Nat) {x j : Nat} (v : Int32) (m : MSt) (hx : x < 2 ^ 31) (h : j ≠ x) : (mI k (nI x) v m).2.1 q j = m.2.1 q j := by
  by_cases e : q = k
  · subst e; exact mI_o _ _ hx h
  · rw [mI_n _ _ _ e]
section CALLS2
variable {Wl : Nat → Option WV} {s0 : TSt} {h st cnt hw wx wy : Int32} {a : MSt} {N9 : Nat}
theorem callTake (H : REL Wl s0 h st cnt hw wx wy a) (i : Int32) : ∃ b, sM_take a i = some (b, (if wAt Wl i = none then 0 else 1 : Int32)) ∧ REL (wlDrop Wl i) s0 h (if st = 0 then (if (if wAt Wl i = none then 0 else 1 : Int32) = 0 then 0 else 1) else 1 : Int32) (if wAt Wl i = none then cnt else cnt - 1) hw wx wy b := by
  unfold sM_take wlDrop
  rw [isWallR H.zero.1]
  dsimp only
  cases e : wAt Wl i with
  | none =>
    rw [if_pos rfl, if_pos rfl, if_pos rfl, if_pos rfl, if_pos rfl]
    refine ⟨_, rfl, ?_⟩
    obtain ⟨hA, h1, h2, h3⟩ := H.zero
    refine ⟨hA, fun q => h1 ?_, h2, h3⟩
    by_cases s : st = 0
    · exact s
    · rw [if_neg s] at q; exact absurd q (by decide)
  | some v =>
    obtain ⟨j, hj, rfl, ej⟩ := wAt_some e
    rw [show (if (some v : Option WV) = none then (0 : Int32) else 1) = 1 from if_neg (by simp), if_neg (show ¬ (1 : Int32) = 0 by decide), if_neg (show ¬ (1 : Int32) = 0 by decide), if_neg (show ¬ (some v : Option WV) = none by simp), if_neg (show ¬ (some v : Option WV) = none by simp), if_pos (vpin_nI hj (by decide)), nI_clamp (n := j) (by omega)]
    refine ⟨_, rfl, ?_⟩
    obtain ⟨hA, h1, h2, h3, h5, h6, h7, h8, h9, h10⟩ := H
    have il := ini_up (Wl := va_up Wl j none) (Wl' := Wl) (m := j) (fun i hi => (va_up_ne _ _ hi).symm) (va_up_self _ _ _) (by rw [ej]; simp) 64 0 (by omega)
    rw [if_pos (by omega)] at il
    refine ⟨?_, fun q => ?_, fun q => absurd rfl q, h3, ?_, ?_, h7, h8, h9, h10⟩
    · refine hA.set (m := j) (fun i hi => va_up_ne _ _ hi) (fun k i hi => ?_) ⟨fun _ => ?_, fun v hv => ?_⟩
      · exact mI_at 1 k _ _ (by omega) hi
      · exact mI_s (k := 1) (x := j) 0 (mV 0 0 a) (by omega)
      · rw [va_up_self] at hv; cases hv
    · split at q
      · exact absurd q (by decide)
      · exact absurd q (by decide)
    · rw [h5, il]; exact nI_pred _
    · show (mV 0 0 a).1 6 - 1 = cnt - 1
      rw [mV_n _ _ (by decide), h6]
theorem clrR : ∀ (n i N : Nat) (a : MSt), i + n = 64 → n < N → (∀ j, j < i → a.2.1 1 j = 0) → ∃ b, sClrL N a (nI i) = some (b, nI 64) ∧ b.1 = a.1 ∧ b.2.2 = a.2.2 ∧ (∀ k, k ≠ 1 → b.2.1 k = a.2.1 k) ∧ ∀ j, j < 64 → b.2.1 1 j = 0 := by
  intro n
  induction n with
  | zero =>
    intro i N a hi hN h0
    obtain ⟨N, rfl⟩ : ∃ N', N = N' + 1 := ⟨N - 1, by omega⟩
    obtain rfl : i = 64 := hi
    refine ⟨a, ?_, rfl, rfl, fun _ _ => rfl, h0⟩
    unfold sClrL
    rw [if_pos (by decide)]
  | succ n ih =>
    intro i N a hi hN h0
    obtain ⟨N, rfl⟩ : ∃ N', N = N' + 1 := ⟨N - 1, by omega⟩
    unfold sClrL
    rw [if_neg (show ¬ (64 : Int32) ≤ nI i from nI_ge (b := 64) (by omega) (by decide)), if_pos (vpin_nI (by omega) (by decide)), nI_1]
    obtain ⟨b, z1, z2, z3, z4, z5⟩ := ih (i + 1) N (mI 1 (nI i) 0 a) (by omega) (by omega) (fun j hj => by
      by_cases e : j = i
      · subst e; exact mI_s _ _ (by omega)
      · rw [mI_o _ _ (by omega) e]; exact h0 j (by omega))
    exact ⟨b, z1, z2, z3, fun k hk => by rw [z4 k hk, mI_n _ _ _ hk], z5⟩
theorem callClear (H : REL Wl s0 h st cnt hw wx wy a) (hN9 : 9000 < N9) (Wl' : Nat → Option WV) (hW : ∀ j, j < 64 → Wl' j = none) : ∃ b, sM_clear a N9 = some b ∧ REL Wl' s0 h 1 0 hw wx wy b := by
  obtain ⟨b, z1, z2, z3, z4, z5⟩ := clrR 64 0 N9 (mV 0 0 a) rfl (by omega) (fun j hj => by omega)
  obtain ⟨hA, h1, h2, h3, h5, h6, h7, h8, h9, h10⟩ := H
  refine ⟨mV 7 0 (mV 6 0 b), ?_, ?_, fun q => absurd q (by decide), fun q => absurd rfl q, h3, ?_, rfl, ?_, ?_, ?_, h10⟩
  · unfold sM_clear
    rw [show (0 : Int32) = nI 0 from rfl] at z1 ⊢
    rw [z1]
  · intro i hi
    refine ⟨fun _ => z5 i hi, fun v hv => ?_⟩
    rw [hW i hi] at hv
    cases hv
  · rw [ini_none hW 64 0 (by omega)]
    rfl
  · show b.1 33 = hw
    rw [z2, mV_n _ _ (by decide)]; exact h7
  · show b.1 34 = wx
    rw [z2, mV_n _ _ (by decide)]; exact h8
  · show b.1 35 = wy
    rw [z2, mV_n _ _ (by decide)]; exact h9
/-- the first free number -/
def fr9 (Wl : Nat → Option WV) : Nat → Nat → Nat
  | 0, i => i
  | n + 1, i => if Wl i = none then i else fr9 Wl n (i + 1)
theorem fr9_bd (Wl : Nat → Option WV) : ∀ n i, i ≤ fr9 Wl n i ∧ fr9 Wl n i ≤ i + n ∧ (fr9 Wl n i < i + n → Wl (fr9 Wl n i) = none) := by
  intro n
  induction n with
  | zero => intro i; exact ⟨Nat.le_refl _, Nat.le_refl _, fun q => absurd q (Nat.lt_irrefl _)⟩
  | succ n ih =>
    intro i
    show i ≤ (if Wl i = none then i else fr9 Wl n (i + 1)) ∧ (if Wl i = none then i else fr9 Wl n (i + 1)) ≤ i + (n + 1) ∧ ((if Wl i = none then i else fr9 Wl n (i + 1)) < i + (n + 1) → Wl (if Wl i = none then i else fr9 Wl n (i + 1)) = none)
    by_cases e : Wl i = none
    · rw [if_pos e]; exact ⟨Nat.le_refl _, by omega, fun _ => e⟩
    · rw [if_neg e]
      obtain ⟨a, b, c⟩ := ih (i + 1)
      exact ⟨by omega, by omega, fun q => c (by omega)⟩
theorem fr9_succ (Wl : Nat → Option WV) : ∀ n i, fr9 Wl (n + 1) i = if fr9 Wl n i = i + n then (if Wl (i + n) = none then i + n else i + n + 1) else fr9 Wl n i := by
  intro n
  induction n with
  | zero =>
    intro i
    show (if Wl i = none then i else i + 1) = if i = i + 0 then (if Wl (i + 0) = none then i + 0 else i + 0 + 1) else i
    rw [if_pos (show i = i + 0 from rfl)]
    rfl
  | succ n ih =>
    intro i
    show (if Wl i = none then i else fr9 Wl (n + 1) (i + 1)) = if (if Wl i = none then i else fr9 Wl n (i + 1)) = i + (n + 1) then (if Wl (i + (n + 1)) = none then i + (n + 1) else i + (n + 1) + 1) else (if Wl i = none then i else fr9 Wl n (i + 1))
    by_cases e : Wl i = none
    · rw [if_pos e, if_pos e, if_neg (by omega)]
    · rw [if_neg e, if_neg e, ih (i + 1), show i + 1 + n = i + (n + 1) by omega]
theorem slo {Wl : Nat → Option WV} {v : WV} : ∀ (k : Nat) (fr : Int32), (∀ j o, j < k → Wl j = some o → sW_clashes o v = 0) → sS_loop Wl v k fr = some (if fr9 Wl k 0 = k then fr else nI (fr9 Wl k 0)) := by
  intro k
  induction k with
  | zero => intro fr _; rfl
  | succ k ih =>
    intro fr hc
    have hs := fr9_succ Wl k 0
    obtain ⟨-, hb, -⟩ := fr9_bd Wl k 0
    rw [Nat.zero_add] at hs hb
    unfold sS_loop
    cases e : Wl k with
    | none =>
      dsimp only
      rw [ih (nI k) (fun j o hj ho => hc j o (by omega) ho), hs]
      by_cases q : fr9 Wl k 0 = k
      · rw [if_pos q, if_pos q, if_pos e, if_neg (by omega)]
      · rw [if_neg q, if_neg q, if_neg (by omega)]
    | some o =>
      dsimp only
      rw [if_pos (hc k o (by omega) e), ih fr (fun j o hj ho => hc j o (by omega) ho), hs]
      by_cases q : fr9 Wl k 0 = k
      · rw [if_pos q, if_pos q, if_neg (show ¬ Wl k = none by rw [e]; simp), if_pos rfl]
      · rw [if_neg q, if_neg q, if_neg (by omega)]
theorem slo2 {Wl : Nat → Option WV} {v : WV} : ∀ (k : Nat) (fr : Int32), (∃ j o, j < k ∧ Wl j = some o ∧ sW_clashes o v ≠ 0) → sS_loop Wl v k fr = none := by
  intro k
  induction k with
  | zero => intro fr h; obtain ⟨j, _, hj, _⟩ := h; omega
  | succ k ih =>
    intro fr h
    obtain ⟨j, o, hj, ho, hc⟩ := h
    unfold sS_loop
    by_cases e : j = k
    · subst e
      rw [ho]
      dsimp only
      rw [if_neg hc]
    · have g := fun fr => ih fr ⟨j, o, by omega, ho, hc⟩
      cases Wl k with
      | none => exact g _
      | some u =>
        dsimp only
        split
        · exact g _
        · rfl
theorem freeR (hA : AG Wl a) : ∀ (n i N : Nat), i + n = 64 → n < N → sFreeL a N (nI i) = some (nI (fr9 Wl n i)) := by
  intro n
  induction n with
  | zero =>
    intro i N hi hN
    obtain ⟨N, rfl⟩ : ∃ N', N = N' + 1 := ⟨N - 1, by omega⟩
    obtain rfl : i = 64 := hi
    unfold sFreeL
    rw [if_pos (by decide)]
    rfl
  | succ n ih =>
    intro i N hi hN
    obtain ⟨N, rfl⟩ : ∃ N', N = N' + 1 := ⟨N - 1, by omega⟩
    unfold sFreeL
    rw [if_neg (show ¬ (64 : Int32) ≤ nI i from nI_ge (b := 64) (by omega) (by decide)), if_pos (vpin_nI (by omega) (by decide)), nI_clamp (by omega), nI_1]
    show _ = some (nI (if Wl i = none then i else fr9 Wl n (i + 1)))
    obtain ⟨g1, g2⟩ := hA i (by omega)
    cases e : Wl i with
    | none => rw [if_pos (g1 e), if_pos rfl]
    | some v => rw [(g2 v e).1, if_neg (by decide), if_neg (by simp)]; exact ih (i + 1) N (by omega) (by omega)
theorem putLR {z : MSt} {m : Nat} (hm : m < 64) {v : WV} (hv : CO z m v) (hth : ∀ j, j < 64 → (Wl j = none → z.2.1 1 j = 0) ∧ ∀ o, Wl j = some o → z.2.1 1 j = 1 ∧ CO z j o) : ∀ (n i N : Nat), i + n = 64 → n < N → ((∀ j o, i ≤ j → j < 64 → Wl j = some o → sW_clashes o v = 0) → sPutL (nI m) N z (nI i) = some (mV 7 0 (mV 6 (z.1 6 + 1) (mI 1 (nI m) 1 z)), nI m)) ∧ ((∃ j o, i ≤ j ∧ j < 64 ∧ Wl j = some o ∧ sW_clashes o v ≠ 0) → sPutL (nI m) N z (nI i) = some (z, -1)) := by
  intro n
  induction n with
  | zero =>
    intro i N hi hN
    obtain ⟨N, rfl⟩ : ∃ N', N = N' + 1 := ⟨N - 1, by omega⟩
    obtain rfl : i = 64 := hi
    refine ⟨fun _ => ?_, fun q => ?_⟩
    · unfold sPutL
      rw [if_pos (by decide), if_pos (vpin_nI hm (by decide))]
      rfl
    · obtain ⟨j, o, h1, h2, _⟩ := q
      omega
  | succ n ih =>
    intro i N hi hN
    obtain ⟨N, rfl⟩ : ∃ N', N = N' + 1 := ⟨N - 1, by omega⟩
    obtain ⟨i1, i2⟩ := ih (i + 1) N (by omega) (by omega)
    obtain ⟨g1, g2⟩ := hth i (by omega)
    have st : sPutL (nI m) (N + 1) z (nI i) = (if z.2.1 1 i = 0 then sPutL (nI m) N z (nI (i + 1)) else (match sM_touch z (nI m) (nI i) with | none => none | some r => if r = 0 then sPutL (nI m) N z (nI (i + 1)) else some (z, -1))) := by
      rw [sPutL, if_neg (show ¬ (64 : Int32) ≤ nI i from nI_ge (b := 64) (by omega) (by decide)), if_pos (vpin_nI (by omega) (by decide)), nI_clamp (by omega), nI_1]
      rfl
    rw [st]
    cases e : Wl i with
    | none =>
      rw [if_pos (g1 e)]
      refine ⟨fun q => i1 (fun j o h1 h2 h3 => q j o (by omega) h2 h3), fun q => i2 ?_⟩
      obtain ⟨j, o, h1, h2, h3, h4⟩ := q
      have : j ≠ i := fun q => by rw [q, e] at h3; cases h3
      exact ⟨j, o, by omega, h2, h3, h4⟩
    | some o =>
      obtain ⟨t1, t2⟩ := g2 o e
      obtain ⟨t, u1, u2⟩ := touchCO hm (show i < 64 by omega) hv t2
      rw [t1, if_neg (by decide), u1]
      dsimp only
      refine ⟨fun q => ?_, fun q => ?_⟩
      · rw [if_pos (u2.2 (q i o (Nat.le_refl _) (by omega) e))]
        exact i1 (fun j o h1 h2 h3 => q j o (by omega) h2 h3)
      · by_cases c : t = 0
        · rw [if_pos c]
          refine i2 ?_
          obtain ⟨j, o', h1, h2, h3, h4⟩ := q
          have : j ≠ i := fun q => by
            rw [q, e] at h3
            obtain rfl := Option.some.inj h3
            exact h4 (u2.1 c)
          exact ⟨j, o', by omega, h2, h3, h4⟩
        · rw [if_neg c]
theorem callPut (H : REL Wl s0 h st cnt hw wx wy a) (hN9 : 9000 < N9) (x0 y0 x1 y1 : Int32) : ∃ b, sM_put a x0 y0 x1 y1 N9 = some (b, sN_put Wl x0 y0 x1 y1) ∧ REL (wlAdd Wl (sN_put Wl x0 y0 x1 y1) (x0, y0, x1, y1)) s0 h (if sN_bad x0 y0 x1 y1 = 0 then (if st = 0 then (if sN_put Wl x0 y0 x1 y1 = -1 then 0 else 1) else 1) else st : Int32) (if sN_put Wl x0 y0 x1 y1 = -1 then cnt else cnt + 1) hw wx wy b := by
  have fr := freeR (Wl := Wl) (a := mV 0 0 a) H.zero.1 64 0 N9 rfl (by omega)
  obtain ⟨-, fb, fn⟩ := fr9_bd Wl 64 0
  rw [Nat.zero_add] at fb fn
  have fre : sM_free (mV 0 0 a) N9 = some (if fr9 Wl 64 0 = 64 then -1 else nI (fr9 Wl 64 0)) := by
    unfold sM_free
    rw [nI_0] at fr
    rw [fr]
    dsimp only
    by_cases q : fr9 Wl 64 0 = 64
    · rw [if_pos q, q, if_pos (by decide)]
    · rw [if_neg q, if_neg (show ¬ (64 : Int32) ≤ nI (fr9 Wl 64 0) from nI_ge (b := 64) (by omega) (by decide))]
  -- nothing comes of it
  have no : ∀ b : MSt, sM_put a x0 y0 x1 y1 N9 = some (b, -1) → sN_put Wl x0 y0 x1 y1 = -1 → REL Wl s0 h st cnt hw wx wy b → ∃ b, sM_put a x0 y0 x1 y1 N9 = some (b, sN_put Wl x0 y0 x1 y1) ∧ REL (wlAdd Wl (sN_put Wl x0 y0 x1 y1) (x0, y0, x1, y1)) s0 h (if sN_bad x0 y0 x1 y1 = 0 then (if st = 0 then (if sN_put Wl x0 y0 x1 y1 = -1 then 0 else 1) else 1) else st : Int32) (if sN_put Wl x0 y0 x1 y1 = -1 then cnt else cnt + 1) hw wx wy b := by
    intro b e1 e2 R
    rw [e2, if_pos rfl, if_pos rfl]
    unfold wlAdd
    rw [if_pos rfl]
    obtain ⟨r1, r2, r3⟩ := R
    refine ⟨b, e1, r1, fun q => r2 ?_, r3⟩
    by_cases s : st = 0
    · exact s
    · exfalso
      by_cases bd : sN_bad x0 y0 x1 y1 = 0
      · rw [if_pos bd, if_neg s] at q
        exact absurd q (by decide)
      · rw [if_neg bd] at q
        exact s q
  by_cases p0 : sM_isPlace x0 = 0
  · refine no (mV 0 0 a) ?_ ?_ H.zero
    · unfold sM_put; rw [fre]; dsimp only; rw [if_pos p0]
    · unfold sN_put sN_bad; rw [isPlace_eq, if_pos p0, if_pos rfl, if_neg (by decide)]
  by_cases p1 : sM_isPlace y0 = 0
  · refine no (mV 0 0 a) ?_ ?_ H.zero
    · unfold sM_put; rw [fre]; dsimp only; rw [if_neg p0, if_pos p1]
    · unfold sN_put sN_bad; rw [isPlace_eq, if_neg p0, if_pos p1, if_neg (by decide)]
  by_cases p2 : sM_isPlace x1 = 0
  · refine no (mV 0 0 a) ?_ ?_ H.zero
    · unfold sM_put; rw [fre]; dsimp only; rw [if_neg p0, if_neg p1, if_pos p2]
    · unfold sN_put sN_bad; rw [isPlace_eq, isPlace_eq, if_neg p0, if_neg p1, if_pos p2, if_pos rfl, if_neg (by decide)]
  by_cases p3 : sM_isPlace y1 = 0
  · refine no (mV 0 0 a) ?_ ?_ H.zero
    · unfold sM_put; rw [fre]; dsimp only; rw [if_neg p0, if_neg p1, if_neg p2, if_pos p3]
    · unfold sN_put sN_bad; rw [isPlace_eq, isPlace_eq, if_neg p0, if_neg p1, if_neg p2, if_pos p3, if_neg (by decide)]
  by_cases same : x0 = x1 ∧ y0 = y1
  · refine no (mV 0 0 a) ?_ ?_ H.zero
    · unfold sM_put; rw [fre]; dsimp only; rw [if_neg p0, if_neg p1, if_neg p2, if_neg p3, if_pos same.1, if_pos same.2]
    · unfold sN_put sN_bad; rw [isPlace_eq, isPlace_eq, if_neg p0, if_neg p1, if_neg p2, if_neg p3, if_pos same.1, if_pos same.2, if_neg (by decide)]
  have bad : sN_bad x0 y0 x1 y1 = 0 := by
    unfold sN_bad
    rw [isPlace_eq, isPlace_eq, if_neg p0, if_neg p1, if_neg p2, if_neg p3]
    by_cases e : x0 = x1
    · rw [if_pos e, if_neg (fun q => same ⟨e, q⟩)]
    · rw [if_neg e]
  have put : sN_put Wl x0 y0 x1 y1 = sS_add Wl (x0, y0, x1, y1) := by unfold sN_put; rw [if_pos bad]
  have okv : okW (x0, y0, x1, y1) := ⟨isPlace_ok p0, isPlace_ok p1, isPlace_ok p2, isPlace_ok p3⟩
  have ref : sM_put a x0 y0 x1 y1 N9 = if fr9 Wl 64 0 = 64 then some (mV 0 0 a, -1) else sPutL (nI (fr9 Wl 64 0)) N9 (mI 5 (nI (fr9 Wl 64 0)) y1 (mI 4 (nI (fr9 Wl 64 0)) x1 (mI 3 (nI (fr9 Wl 64 0)) y0 (mI 2 (nI (fr9 Wl 64 0)) x0 (mV 0 0 a))))) 0 := by
    unfold sM_put
    rw [fre]
    dsimp only
    rw [if_neg p0, if_neg p1, if_neg p2, if_neg p3]
    by_cases q : fr9 Wl 64 0 = 64
    · rw [if_pos q, if_pos q]
      by_cases e : x0 = x1
      · rw [if_pos e, if_neg (fun q => same ⟨e, q⟩), if_neg (show ¬ (0 : Int32) ≤ -1 by decide)]
      · rw [if_neg e, if_neg (show ¬ (0 : Int32) ≤ -1 by decide)]
    · rw [if_neg q, if_neg q]
      by_cases e : x0 = x1
      · rw [if_pos e, if_neg (fun q => same ⟨e, q⟩), if_pos (nI_pos' (show fr9 Wl 64 0 < 2 ^ 31 by omega)), if_pos (vpin_nI (show fr9 Wl 64 0 < 64 by omega) (by decide))]
      · rw [if_neg e, if_pos (nI_pos' (show fr9 Wl 64 0 < 2 ^ 31 by omega)), if_pos (vpin_nI (show fr9 Wl 64 0 < 64 by omega) (by decide))]
  by_cases q : fr9 Wl 64 0 = 64
  · refine no (mV 0 0 a) (by rw [ref, if_pos q]) ?_ H.zero
    rw [put]
    unfold sS_add
    by_cases c : ∃ j o, j < 64 ∧ Wl j = some o ∧ sW_clashes o (x0, y0, x1, y1) ≠ 0
    · rw [slo2 64 (-1) c]; rfl
    · rw [slo 64 (-1) (fun j o hj ho => Decidable.byContradiction (fun x => c ⟨j, o, hj, ho, x⟩)), if_pos q]; rfl
  · have hm : fr9 Wl 64 0 < 64 := by omega
    have free := fn hm
    generalize hmm : fr9 Wl 64 0 = m at *
    have z1 : (mI 5 (nI m) y1 (mI 4 (nI m) x1 (mI 3 (nI m) y0 (mI 2 (nI m) x0 (mV 0 0 a))))).1 = (mV 0 0 a).1 := rfl
    have z2 : (mI 5 (nI m) y1 (mI 4 (nI m) x1 (mI 3 (nI m) y0 (mI 2 (nI m) x0 (mV 0 0 a))))).2.2 = a.2.2 := rfl
    have z3 : ∀ k j, j ≠ m → (mI 5 (nI m) y1 (mI 4 (nI m) x1 (mI 3 (nI m) y0 (mI 2 (nI m) x0 (mV 0 0 a))))).2.1 k j = a.2.1 k j := fun k j hj => by
      rw [mI_at _ _ _ _ (by omega) hj, mI_at _ _ _ _ (by omega) hj, mI_at _ _ _ _ (by omega) hj, mI_at _ _ _ _ (by omega) hj, mV_2]
    have z4 : ∀ k, k ≠ 2 → k ≠ 3 → k ≠ 4 → k ≠ 5 → (mI 5 (nI m) y1 (mI 4 (nI m) x1 (mI 3 (nI m) y0 (mI 2 (nI m) x0 (mV 0 0 a))))).2.1 k = a.2.1 k := fun k k2 k3 k4 k5 => by
      rw [mI_n _ _ _ k5, mI_n _ _ _ k4, mI_n _ _ _ k3, mI_n _ _ _ k2, mV_2]
    have co : CO (mI 5 (nI m) y1 (mI 4 (nI m) x1 (mI 3 (nI m) y0 (mI 2 (nI m) x0 (mV 0 0 a))))) m (x0, y0, x1, y1) := by
      refine ⟨okv, ?_, ?_, ?_, ?_⟩
      · rw [mI_n _ _ _ (by decide), mI_n _ _ _ (by decide), mI_n _ _ _ (by decide), mI_s _ _ (by omega)]
      · rw [mI_n _ _ _ (by decide), mI_n _ _ _ (by decide), mI_s _ _ (by omega)]
      · rw [mI_n _ _ _ (by decide), mI_s _ _ (by omega)]
      · rw [mI_s _ _ (by omega)]
    generalize mI 5 (nI m) y1 (mI 4 (nI m) x1 (mI 3 (nI m) y0 (mI 2 (nI m) x0 (mV 0 0 a)))) = z at *
    have hA := H.1
    have th : ∀ j, j < 64 → (Wl j = none → z.2.1 1 j = 0) ∧ ∀ o, Wl j = some o → z.2.1 1 j = 1 ∧ CO z j o := by
      intro j hj
      obtain ⟨g1, g2⟩ := hA j hj
      rw [z4 1 (by decide) (by decide) (by decide) (by decide)]
      refine ⟨g1, fun o ho => ?_⟩
      have jm : j ≠ m := fun e => by rw [e, free] at ho; cases ho
      obtain ⟨t1, t2, t3, t4, t5, t6⟩ := g2 o ho
      exact ⟨t1, t2, by rw [z3 2 j jm]; exact t3, by rw [z3 3 j jm]; exact t4, by rw [z3 4 j jm]; exact t5, by rw [z3 5 j jm]; exact t6⟩
    obtain ⟨l1, l2⟩ := putLR hm co th 64 0 N9 rfl (by omega)
    rw [show nI 0 = (0 : Int32) from rfl] at l1 l2
    rw [if_neg q] at ref
    have Az : AG Wl z := fun j hj => ⟨(th j hj).1, fun o ho => by
      obtain ⟨t1, t2⟩ := (th j hj).2 o ho
      exact ⟨t1, t2⟩⟩
    obtain ⟨-, h1, h2, h3, h5, h6, h7, h8, h9, h10⟩ := H
    have i6 : ∀ k, k ≠ 0 → z.1 k = a.1 k := fun k hk => by rw [z1, mV_n _ _ hk]
    by_cases c : ∃ j o, j < 64 ∧ Wl j = some o ∧ sW_clashes o (x0, y0, x1, y1) ≠ 0
    · refine no z ?_ ?_ ⟨Az, h1, fun x => (h2 (by rw [← i6 7 (by decide)]; exact x)).move (fun k k0 _ _ _ => i6 k k0) (fun k k8 _ => z4 k (by omega) (by omega) (by omega) (by omega)) z2, h3, h5, by rw [i6 6 (by decide)]; exact h6, by rw [i6 33 (by decide)]; exact h7, by rw [i6 34 (by decide)]; exact h8, by rw [i6 35 (by decide)]; exact h9, h10⟩
      · rw [ref]
        obtain ⟨j, o, hj, ho, hc⟩ := c
        exact l2 ⟨j, o, Nat.zero_le _, hj, ho, hc⟩
      · rw [put]
        unfold sS_add
        rw [slo2 64 (-1) c]; rfl
    · have nc : ∀ j o, j < 64 → Wl j = some o → sW_clashes o (x0, y0, x1, y1) = 0 := fun j o hj ho => Decidable.byContradiction (fun x => c ⟨j, o, hj, ho, x⟩)
      have add : sN_put Wl x0 y0 x1 y1 = nI m := by
        rw [put]
        unfold sS_add
        rw [slo 64 (-1) nc, hmm, if_neg q]; rfl
      have nm : ¬ nI m = -1 := fun e => absurd (show nI m < 0 by rw [e]; decide) (nI_pos (by omega))
      rw [add, if_neg nm, if_neg nm, bad, if_pos rfl, ref, l1 (fun j o _ hj ho => nc j o hj ho)]
      unfold wlAdd
      rw [if_neg nm, nI_clamp (by omega)]
      refine ⟨_, rfl, ?_, fun x => ?_, fun x => absurd rfl x, h3, ?_, ?_, ?_, ?_, ?_, h10⟩
      · refine Az.set (m := m) (fun j hj => va_up_ne _ _ hj) (fun k j hj => ?_) ⟨fun x => ?_, fun v hv => ?_⟩
        · exact mI_at 1 k _ _ (by omega) hj
        · rw [va_up_self] at x; cases x
        · rw [va_up_self] at hv
          obtain rfl := Option.some.inj hv
          obtain ⟨_, d2, d3, d4, d5⟩ := co
          refine ⟨mI_s (k := 1) (x := m) 1 z (by omega), okv, ?_, ?_, ?_, ?_⟩
          · rw [mV_2, mV_2, mI_n _ _ _ (by decide)]; exact d2
          · rw [mV_2, mV_2, mI_n _ _ _ (by decide)]; exact d3
          · rw [mV_2, mV_2, mI_n _ _ _ (by decide)]; exact d4
          · rw [mV_2, mV_2, mI_n _ _ _ (by decide)]; exact d5
      · split at x
        · exact absurd x (by decide)
        · exact absurd x (by decide)
      · have il := ini_up (Wl := Wl) (Wl' := va_up Wl m (some (x0, y0, x1, y1))) (m := m) (fun j hj => va_up_ne _ _ hj) free (by rw [va_up_self]; simp) 64 0 (by omega)
        rw [if_pos (by omega)] at il
        rw [il, h5, nI_1]
      · show z.1 6 + 1 = cnt + 1
        rw [i6 6 (by decide), h6]
      · show z.1 33 = hw
        rw [i6 33 (by decide)]; exact h7
      · show z.1 34 = wx
        rw [i6 34 (by decide)]; exact h8
      · show z.1 35 = wy
        rw [i6 35 (by decide)]; exact h9
end CALLS2
