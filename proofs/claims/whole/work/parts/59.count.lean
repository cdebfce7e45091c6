theorem seg_id (cA cB lA lB a1 b1 a3 b3 : Int) : (-(lA * b3 + lB * a3)) * (cA * b1 + cB * a1) + (lA * b1 + lB * a1) * (cA * b3 + cB * a3) = (a3 * b1 - a1 * b3) * (cB * lA - cA * lB) := by
  grind
theorem pos_of_mul {a b : Int} (h : 0 < a * b) (hb : 0 < b) : 0 < a := by
  rcases Int.lt_trichotomy a 0 with x | x | x
  · have := Int.mul_neg_of_neg_of_pos x hb
    omega
  · subst x; rw [Int.zero_mul] at h; omega
  · exact x
/-- a cut lies between the piece's ends: every line's value there is a mean of its values at the ends -/
theorem seg {lA lB a1 b1 a3 b3 : Int} (h1 : 0 ≤ a1) (h2 : 0 ≤ b1) (h3 : 0 ≤ a3) (h4 : 0 ≤ b3) (p1 : 0 < a1 + b1) (p3 : 0 < a3 + b3) (ol : op (lA * b1 + lB * a1) (lA * b3 + lB * a3)) (oA : op lA lB) : ∃ k x y : Int, 0 < k ∧ 0 < x ∧ 0 < y ∧ ∀ cA cB : Int, k * (cA * abZ lB + cB * abZ lA) = x * (cA * b1 + cB * a1) + y * (cA * b3 + cB * a3) := by
  have id := fun cA cB => seg_id cA cB lA lB a1 b1 a3 b3
  have i1 := id 0 1
  have i2 := id 1 0
  simp only [Int.zero_mul, Int.one_mul, Int.zero_add, Int.add_zero, Int.sub_zero, Int.zero_sub] at i1 i2
  generalize hz1 : lA * b1 + lB * a1 = z1 at *
  generalize hz3 : lA * b3 + lB * a3 = z3 at *
  generalize hD : a3 * b1 - a1 * b3 = d at *
  unfold op at ol oA
  unfold abZ
  rcases ol with ⟨s1, s3⟩ | ⟨s1, s3⟩
  · have t1 : 0 ≤ -z3 * a1 := Int.mul_nonneg (by omega) h1
    have t2 : 0 ≤ z1 * a3 := Int.mul_nonneg (by omega) h3
    have t3 : 0 ≤ -z3 * b1 := Int.mul_nonneg (by omega) h2
    have t4 : 0 ≤ z1 * b3 := Int.mul_nonneg (by omega) h4
    have t5 : 0 < z1 * (a3 + b3) := Int.mul_pos s1 p3
    rw [Int.mul_add] at t5
    rw [Int.mul_neg] at i2
    rcases oA with ⟨q1, q2⟩ | ⟨q1, q2⟩
    · have kd : 0 < d := pos_of_mul (b := lA - lB) (by rw [Int.mul_sub]; omega) (by omega)
      refine ⟨d, -z3, z1, kd, by omega, s1, fun cA cB => ?_⟩
      rw [if_neg (by omega), if_pos q1, id cA cB, Int.mul_neg, Int.add_comm, ← Int.sub_eq_add_neg]
    · have kd : 0 < -d := pos_of_mul (b := lB - lA) (by rw [Int.mul_sub, Int.neg_mul, Int.neg_mul]; omega) (by omega)
      refine ⟨-d, -z3, z1, kd, by omega, s1, fun cA cB => ?_⟩
      rw [if_pos q2, if_neg (by omega), id cA cB, Int.mul_neg, ← Int.sub_eq_add_neg, Int.neg_mul, ← Int.mul_neg, Int.neg_sub]
  · have t1 : 0 ≤ z3 * a1 := Int.mul_nonneg (by omega) h1
    have t2 : 0 ≤ -z1 * a3 := Int.mul_nonneg (by omega) h3
    have t3 : 0 ≤ z3 * b1 := Int.mul_nonneg (by omega) h2
    have t4 : 0 ≤ -z1 * b3 := Int.mul_nonneg (by omega) h4
    have t5 : 0 < z3 * (a1 + b1) := Int.mul_pos s3 p1
    rw [Int.mul_add] at t5
    rw [Int.mul_neg] at i2
    rw [Int.neg_mul] at i1 i2 t2 t4
    rcases oA with ⟨q1, q2⟩ | ⟨q1, q2⟩
    · have kd : 0 < -d := pos_of_mul (b := lA - lB) (by rw [Int.mul_sub, Int.neg_mul, Int.neg_mul]; omega) (by omega)
      refine ⟨-d, z3, -z1, kd, s3, by omega, fun cA cB => ?_⟩
      have := id cA cB
      rw [Int.neg_mul] at this
      rw [if_neg (by omega), if_pos q1, Int.mul_neg, Int.add_comm (-(cA * lB)), ← Int.sub_eq_add_neg, Int.neg_mul, ← this, Int.neg_mul]
      omega
    · have kd : 0 < d := pos_of_mul (b := lB - lA) (by rw [Int.mul_sub]; omega) (by omega)
      refine ⟨d, z3, -z1, kd, s3, by omega, fun cA cB => ?_⟩
      have := id cA cB
      rw [Int.neg_mul] at this
      rw [if_pos q2, if_neg (by omega), Int.mul_neg, ← Int.sub_eq_add_neg, ← Int.neg_sub, Int.mul_neg, ← this, Int.neg_mul]
      omega
theorem mean_op {k x y z1 z2 z3 : Int} (hk : 0 < k) (hx : 0 < x) (hy : 0 < y) (e : k * z2 = x * z1 + y * z3) : (op z1 z2 → op z1 z3 ∧ ¬ op z2 z3) ∧ (op z2 z3 → op z1 z3 ∧ ¬ op z1 z2) := by
  have sg : ∀ {m z : Int}, 0 < m → (0 < z → 0 < m * z) ∧ (z < 0 → m * z < 0) ∧ (z = 0 → m * z = 0) := by
    intro m z hm
    refine ⟨fun h => Int.mul_pos hm h, fun h => ?_, fun h => by rw [h, Int.mul_zero]⟩
    have := Int.mul_neg_of_neg_of_pos h hm
    rw [Int.mul_comm] at this
    exact this
  obtain ⟨a1, a2, a3⟩ := sg (m := k) (z := z2) hk
  obtain ⟨b1, b2, b3⟩ := sg (m := x) (z := z1) hx
  obtain ⟨c1, c2, c3⟩ := sg (m := y) (z := z3) hy
  generalize k * z2 = K at *
  generalize x * z1 = X at *
  generalize y * z3 = Y at *
  unfold op
  omega
/-- how many walls' lines part a piece -/
def phi (Wl : Nat → Option WV) (p : Pc) : Nat → Nat
  | 0 => 0
  | n + 1 => phi Wl p n + if wh Wl (nI n) p = 3 then 1 else 0
theorem phi_le (Wl : Nat → Option WV) (p : Pc) : ∀ n, phi Wl p n ≤ n := by
  intro n
  induction n with
  | zero => exact Nat.le_refl _
  | succ n ih =>
    show phi Wl p n + (if _ then 1 else 0) ≤ n + 1
    split <;> omega
theorem phi_lt (Wl : Nat → Option WV) (p : Pc) (i : Nat) (h : wh Wl (nI i) p ≠ 3) : ∀ n, i < n → phi Wl p n < n := by
  intro n
  induction n with
  | zero => intro h; omega
  | succ n ih =>
    intro hi
    show phi Wl p n + (if _ then 1 else 0) < n + 1
    by_cases e : i = n
    · subst e
      have := phi_le Wl p i
      rw [if_neg h]
      omega
    · have := ih (by omega)
      split <;> omega
theorem phi_add {Wl : Nat → Option WV} {p q r : Pc} (h : ∀ i, (wh Wl (nI i) q = 3 → wh Wl (nI i) p = 3 ∧ wh Wl (nI i) r ≠ 3) ∧ (wh Wl (nI i) r = 3 → wh Wl (nI i) p = 3 ∧ wh Wl (nI i) q ≠ 3)) : ∀ n, phi Wl q n + phi Wl r n ≤ phi Wl p n := by
  intro n
  induction n with
  | zero => exact Nat.le_refl _
  | succ n ih =>
    show phi Wl q n + (if _ then 1 else 0) + (phi Wl r n + (if _ then 1 else 0)) ≤ phi Wl p n + (if _ then 1 else 0)
    obtain ⟨h1, h2⟩ := h n
    by_cases a : wh Wl (nI n) q = 3
    · rw [if_pos a, if_neg (h1 a).2, if_pos (h1 a).1]; omega
    · rw [if_neg a]
      by_cases b : wh Wl (nI n) r = 3
      · rw [if_pos b, if_pos (h2 b).1]; omega
      · rw [if_neg b]; omega
theorem phi_cut {Wl : Nat → Option WV} {p q r : Pc} (h : ∀ i, (wh Wl (nI i) q = 3 → wh Wl (nI i) p = 3 ∧ wh Wl (nI i) r ≠ 3) ∧ (wh Wl (nI i) r = 3 → wh Wl (nI i) p = 3 ∧ wh Wl (nI i) q ≠ 3)) (j : Nat) (h1 : wh Wl (nI j) p = 3) (h2 : wh Wl (nI j) q ≠ 3) (h3 : wh Wl (nI j) r ≠ 3) : ∀ n, j < n → phi Wl q n + phi Wl r n + 1 ≤ phi Wl p n := by
  intro n
  induction n with
  | zero => intro h; omega
  | succ n ih =>
    intro hj
    show phi Wl q n + (if _ then 1 else 0) + (phi Wl r n + (if _ then 1 else 0)) + 1 ≤ phi Wl p n + (if _ then 1 else 0)
    by_cases e : j = n
    · subst e
      have := phi_add h j
      rw [if_pos h1, if_neg h2, if_neg h3]
      omega
    · have := ih (by omega)
      obtain ⟨g1, g2⟩ := h n
      by_cases a : wh Wl (nI n) q = 3
      · rw [if_pos a, if_neg (g1 a).2, if_pos (g1 a).1]; omega
      · rw [if_neg a]
        by_cases b : wh Wl (nI n) r = 3
        · rw [if_pos b, if_pos (g2 b).1]; omega
        · rw [if_neg b]; omega
theorem wh_none {Wl : Nat → Option WV} {ln : Int32} {p : Pc} (h : wAt Wl ln = none) : wh Wl ln p = 0 := by
  have k : ∀ c b, sT_sideOfEnd (fun _ => []) Wl ln p.1 c b = 0 := by
    intro c b
    unfold sT_sideOfEnd
    rw [h]
    cases wAt Wl p.1 <;> rfl
  unfold wh eF eL
  rw [k, k]
  rfl
theorem wh3_iff {Wl : Nat → Option WV} {ln : Int32} {p : Pc} {l w : WV} (hl : wAt Wl ln = some l) (okl : okW l) (hw : wAt Wl p.1 = some w) (okw : okW w) (h1 : okC w (wAt Wl p.2.1)) (h2 : okC w (wAt Wl p.2.2)) : wh Wl ln p = 3 ↔ op (valE l w (wAt Wl p.2.1) 0) (valE l w (wAt Wl p.2.2) 1) := by
  constructor
  · exact fun h => (wh3 hl okl hw okw h1 h2 h).1
  · intro h
    obtain ⟨c1, c2⟩ := wh_cases hl okl hw okw h1 h2
    unfold wh
    rw [c1, c2]
    unfold op at h
    rcases sg_cases (valE l w (wAt Wl p.2.1) 0) with ⟨x, a, b⟩ | ⟨x, a, b⟩ | ⟨x, a, b⟩ <;> rcases sg_cases (valE l w (wAt Wl p.2.2) 1) with ⟨y, c, d⟩ | ⟨y, c, d⟩ | ⟨y, c, d⟩
    all_goals first | (exfalso; omega) | (rw [a, c]; decide)
theorem cut_phi {Wl : Nat → Option WV} (hW : ∀ i v, wAt Wl i = some v → okW v) {ln : Int32} {l : WV} (hl : wAt Wl ln = some l) {p : Pc} (hp : okP Wl p) (h3 : wh Wl ln p = 3) : phi Wl (p.1, p.2.1, ln) 64 + phi Wl (p.1, ln, p.2.2) 64 + 1 ≤ phi Wl p 64 := by
  obtain ⟨w, hw, h1, h2⟩ := hp
  have okl := hW ln l hl
  have okw := hW _ w hw
  obtain ⟨ov, oA⟩ := wh3 hl okl hw okw h1 h2 h3
  have oc : okC w (wAt Wl ln) := fun c ec => by
    rw [hl] at ec
    obtain rfl := Option.some.inj ec
    exact ⟨okl, oA⟩
  obtain ⟨u1, -, u2, -, u3⟩ := eW_bd (b := 0) okw h1
  obtain ⟨v1, -, v2, -, v3⟩ := eW_bd (b := 1) okw h2
  obtain ⟨k, x, y, hk, hx, hy, me⟩ := seg u1 u2 v1 v2 u3 v3 ov oA
  obtain ⟨j, hj, ej, -⟩ := wAt_some hl
  have mid : ∀ (c : WV) (b : Int32), valE c w (wAt Wl ln) b = sdZ c w.1 w.2.1 * abZ (sdZ l w.2.2.1 w.2.2.2) + sdZ c w.2.2.1 w.2.2.2 * abZ (sdZ l w.1 w.2.1) := by
    intro c b
    rw [hl]
    rfl
  have main : ∀ i, (wh Wl (nI i) (p.1, p.2.1, ln) = 3 → wh Wl (nI i) p = 3 ∧ wh Wl (nI i) (p.1, ln, p.2.2) ≠ 3) ∧ (wh Wl (nI i) (p.1, ln, p.2.2) = 3 → wh Wl (nI i) p = 3 ∧ wh Wl (nI i) (p.1, p.2.1, ln) ≠ 3) := by
    intro i
    cases hc : wAt Wl (nI i) with
    | none => rw [wh_none hc, wh_none hc, wh_none hc]; exact ⟨fun h => absurd h (by decide), fun h => absurd h (by decide)⟩
    | some c =>
      have okc := hW _ c hc
      have e1 := wh3_iff (p := (p.1, p.2.1, ln)) hc okc hw okw h1 oc
      have e2 := wh3_iff (p := (p.1, ln, p.2.2)) hc okc hw okw oc h2
      have e3 := wh3_iff hc okc hw okw h1 h2
      have m := mean_op hk hx hy (me (sdZ c w.1 w.2.1) (sdZ c w.2.2.1 w.2.2.2))
      rw [e3]
      refine ⟨fun h => ?_, fun h => ?_⟩
      · have h' := e1.1 h
        dsimp only at h'
        rw [mid] at h'
        refine ⟨(m.1 h').1, fun q => ?_⟩
        have q' := e2.1 q
        dsimp only at q'
        rw [mid] at q'
        exact (m.1 h').2 q'
      · have h' := e2.1 h
        dsimp only at h'
        rw [mid] at h'
        refine ⟨(m.2 h').1, fun q => ?_⟩
        have q' := e1.1 q
        dsimp only at q'
        rw [mid] at q'
        exact (m.2 h').2 q'
  have z : ∀ b, valE l w (wAt Wl ln) b = 0 := by
    intro b
    rw [mid]
    unfold abZ
    unfold op at oA
    rcases oA with ⟨s, t⟩ | ⟨s, t⟩
    · rw [if_neg (by omega), if_pos s, Int.mul_neg, Int.mul_comm]
      omega
    · rw [if_pos t, if_neg (by omega), Int.mul_neg, Int.mul_comm]
      omega
  subst ej
  refine phi_cut main j h3 (fun q => ?_) (fun q => ?_) 64 hj
  · have := (wh3_iff (p := (p.1, p.2.1, nI j)) hl okl hw okw h1 oc).1 q
    dsimp only at this
    rw [z] at this
    unfold op at this
    omega
  · have := (wh3_iff (p := (p.1, nI j, p.2.2)) hl okl hw okw oc h2).1 q
    dsimp only at this
    rw [z] at this
    unfold op at this
    omega
def sm (Wl : Nat → Option WV) : List Pc → Nat
  | [] => 0
  | p :: T => sm Wl T + (phi Wl p 64 + 1)
theorem sm_app (Wl : Nat → Option WV) (A B : List Pc) : sm Wl (A ++ B) = sm Wl A + sm Wl B := by
  induction A with
  | nil => show sm Wl B = 0 + sm Wl B; omega
  | cons p T ih => show sm Wl (T ++ B) + _ = sm Wl T + _ + sm Wl B; rw [ih]; omega
theorem sm_split {Wl : Nat → Option WV} (hW : ∀ i v, wAt Wl i = some v → okW v) {ln : Int32} {l : WV} (hl : wAt Wl ln = some l) : ∀ L : List Pc, (∀ q, q ∈ L → okP Wl q) → (onL Wl ln L).length + sm Wl (lfL Wl ln L) + sm Wl (rgL Wl ln L) ≤ sm Wl L := by
  intro L
  induction L with
  | nil => intro _; exact Nat.le_refl _
  | cons p T ih =>
    intro hO
    have hp := hO p List.mem_cons_self
    have i := ih (fun q hq => hO q (List.mem_cons_of_mem _ hq))
    have h1 : onL Wl ln (p :: T) = onP Wl ln p ++ onL Wl ln T := List.flatMap_cons
    have h2 : lfL Wl ln (p :: T) = lfP Wl ln p ++ lfL Wl ln T := List.flatMap_cons
    have h3 : rgL Wl ln (p :: T) = rgP Wl ln p ++ rgL Wl ln T := List.flatMap_cons
    have h4 : sm Wl (p :: T) = sm Wl T + (phi Wl p 64 + 1) := rfl
    have one : ∀ q, sm Wl [q] = phi Wl q 64 + 1 := fun q => by show 0 + _ = _; omega
    rw [h1, h2, h3, h4, List.length_append, sm_app, sm_app]
    have k : (onP Wl ln p).length + sm Wl (lfP Wl ln p) + sm Wl (rgP Wl ln p) ≤ phi Wl p 64 + 1 := by
      rcases whv Wl ln p with e | e | e | e
      · have a1 : onP Wl ln p = [p] := by unfold onP; rw [e]; rfl
        have a2 : lfP Wl ln p = [] := by unfold lfP; rw [e]; rfl
        have a3 : rgP Wl ln p = [] := by unfold rgP; rw [e]; rfl
        rw [a1, a2, a3]
        show 1 + 0 + 0 ≤ _
        omega
      · have a1 : onP Wl ln p = [] := by unfold onP; rw [e]; rfl
        have a2 : lfP Wl ln p = [p] := by unfold lfP; rw [e]; rfl
        have a3 : rgP Wl ln p = [] := by unfold rgP; rw [e]; rfl
        rw [a1, a2, a3, one]
        show 0 + _ + 0 ≤ _
        omega
      · have a1 : onP Wl ln p = [] := by unfold onP; rw [e]; rfl
        have a2 : lfP Wl ln p = [] := by unfold lfP; rw [e]; rfl
        have a3 : rgP Wl ln p = [p] := by unfold rgP; rw [e]; rfl
        rw [a1, a2, a3, one]
        show 0 + 0 + _ ≤ _
        omega
      · have c := cut_phi hW hl hp e
        have a1 : onP Wl ln p = [] := by unfold onP; rw [e]; rfl
        rw [a1]
        by_cases f : eF Wl ln p = 1
        · have a2 : lfP Wl ln p = [(p.1, p.2.1, ln)] := by unfold lfP; rw [e, if_neg (by decide), if_pos rfl, if_pos f]
          have a3 : rgP Wl ln p = [(p.1, ln, p.2.2)] := by unfold rgP; rw [e, if_neg (by decide), if_pos rfl, if_pos f]
          rw [a2, a3, one, one]
          show 0 + _ + _ ≤ _
          omega
        · have a2 : lfP Wl ln p = [(p.1, ln, p.2.2)] := by unfold lfP; rw [e, if_neg (by decide), if_pos rfl, if_neg f]
          have a3 : rgP Wl ln p = [(p.1, p.2.1, ln)] := by unfold rgP; rw [e, if_neg (by decide), if_pos rfl, if_neg f]
          rw [a2, a3, one, one]
          show 0 + _ + _ ≤ _
          omega
    omega
theorem ok_lf2 {Wl : Nat → Option WV} (hW : ∀ i v, wAt Wl i = some v → okW v) {ln : Int32} {l : WV} (hl : wAt Wl ln = some l) {L : List Pc} (hO : ∀ q, q ∈ L → okP Wl q) : (∀ q, q ∈ lfL Wl ln L → okP Wl q) ∧ (∀ q, q ∈ rgL Wl ln L → okP Wl q) := by
  constructor
  · intro q hq
    obtain ⟨p, hp, h⟩ := List.mem_flatMap.1 hq
    rw [← sdP_1] at h
    exact okP_cut hl (hW _ _ hl) (hO p hp) (fun w hw => hW _ w hw) q h
  · intro q hq
    obtain ⟨p, hp, h⟩ := List.mem_flatMap.1 hq
    rw [← sdP_2] at h
    exact okP_cut hl (hW _ _ hl) (hO p hp) (fun w hw => hW _ w hw) q h
theorem pcs_le {Wl : Nat → Option WV} (hW : ∀ i v, wAt Wl i = some v → okW v) : ∀ (D : Nat) (L : List Pc), (∀ q, q ∈ L → okP Wl q) → (pcs Wl D L).length ≤ sm Wl L := by
  intro D
  induction D with
  | zero => intro L _; exact Nat.zero_le _
  | succ D ih =>
    intro L hO
    cases L with
    | nil => exact Nat.zero_le _
    | cons p T =>
      obtain ⟨l, hl⟩ := ok_line hO
      obtain ⟨olf, org⟩ := ok_lf2 hW hl hO
      have s := sm_split hW hl (p :: T) hO
      have i1 := ih _ olf
      have i2 := ih _ org
      show List.length (_ ++ (_ ++ _)) ≤ _
      rw [List.length_append, List.length_append]
      omega
theorem on_pos (Wl : Nat → Option WV) (p : Pc) (T : List Pc) : 1 ≤ (onL Wl (bst Wl (p :: T)) (p :: T)).length := by
  obtain ⟨q, hq, e⟩ := bst_mem Wl p T
  have : q ∈ onL Wl (bst Wl (p :: T)) (p :: T) := List.mem_flatMap.2 ⟨q, hq, by rw [e, own_nil.2.2]; exact List.mem_singleton.2 rfl⟩
  exact List.length_pos_of_mem this
theorem nN_le (Wl : Nat → Option WV) : ∀ (D : Nat) (L : List Pc), nN Wl D L ≤ (pcs Wl D L).length := by
  intro D
  induction D with
  | zero => intro L; exact Nat.zero_le _
  | succ D ih =>
    intro L
    cases L with
    | nil => exact Nat.zero_le _
    | cons p T =>
      have o := on_pos Wl p T
      have i1 := ih (lfL Wl (bst Wl (p :: T)) (p :: T))
      have i2 := ih (rgL Wl (bst Wl (p :: T)) (p :: T))
      show _ + _ + 1 ≤ List.length (_ ++ (_ ++ _))
      rw [List.length_append, List.length_append]
      omega
/-- the list of all walls -/
def iniL (Wl : Nat → Option WV) : Nat → Nat → List Pc
  | 0, _ => []
  | n + 1, i => (if wAt Wl (nI i) = none then [] else [(nI i, -1, -1)]) ++ iniL Wl n (i + 1)
theorem iniL_ok {Wl : Nat → Option WV} : ∀ (n i : Nat), i + n ≤ 64 → (iniL Wl n i).length ≤ n ∧ ∀ q, q ∈ iniL Wl n i → okP Wl q ∧ phi Wl q 64 ≤ 63 := by
  intro n
  induction n with
  | zero => intro i _; exact ⟨Nat.le_refl _, fun q h => by cases h⟩
  | succ n ih =>
    intro i hi
    obtain ⟨g1, g2⟩ := ih (i + 1) (by omega)
    show List.length (_ ++ _) ≤ n + 1 ∧ ∀ q, q ∈ _ ++ _ → _
    by_cases e : wAt Wl (nI i) = none
    · rw [if_pos e]
      exact ⟨by rw [List.nil_append]; omega, g2⟩
    · rw [if_neg e]
      refine ⟨by rw [List.length_append]; simp only [List.length_cons, List.length_nil]; omega, fun q hq => ?_⟩
      rcases List.mem_append.1 hq with h | h
      · rw [List.mem_singleton] at h
        subst h
        obtain ⟨w, hw⟩ := Option.ne_none_iff_exists'.1 e
        have no : okC w (wAt Wl (-1)) := by
          rw [wAt_neg]
          intro c ec
          cases ec
        refine ⟨⟨w, hw, no, no⟩, ?_⟩
        have := phi_lt Wl (nI i, -1, -1) i (by
          have := wh_own Wl (nI i, -1, -1)
          dsimp only at this
          rw [this]
          decide) 64 (by omega)
        omega
      · exact g2 q h
theorem sm_le {Wl : Nat → Option WV} : ∀ L : List Pc, (∀ q, q ∈ L → phi Wl q 64 ≤ 63) → sm Wl L ≤ 64 * L.length := by
  intro L
  induction L with
  | nil => intro _; exact Nat.le_refl _
  | cons p T ih =>
    intro h
    have h1 := ih (fun q hq => h q (List.mem_cons_of_mem _ hq))
    have h2 := h p List.mem_cons_self
    show sm Wl T + (phi Wl p 64 + 1) ≤ 64 * (T.length + 1)
    omega
/-- all pieces, and all nodes, of the walls' tree -/
theorem all_le {Wl : Nat → Option WV} (hW : ∀ i v, wAt Wl i = some v → okW v) : (iniL Wl 64 0).length ≤ 64 ∧ (∀ q, q ∈ iniL Wl 64 0 → okP Wl q) ∧ (pcs Wl 64 (iniL Wl 64 0)).length ≤ 4096 ∧ nN Wl 64 (iniL Wl 64 0) ≤ 4096 ∧ (iniL Wl 64 0).length + 2 * ctT Wl 64 (iniL Wl 64 0) ≤ 8200 := by
  obtain ⟨g1, g2⟩ := iniL_ok (Wl := Wl) 64 0 (by omega)
  have p1 := pcs_le hW 64 (iniL Wl 64 0) (fun q hq => (g2 q hq).1)
  have p2 := sm_le (Wl := Wl) (iniL Wl 64 0) (fun q hq => (g2 q hq).2)
  have p3 := nN_le Wl 64 (iniL Wl 64 0)
  have p4 := pcs_len Wl 64 (iniL Wl 64 0) g1
  exact ⟨g1, fun q hq => (g2 q hq).1, by omega, by omega, by omega⟩
