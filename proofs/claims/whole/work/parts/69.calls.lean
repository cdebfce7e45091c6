theorem powC {R : Nat → List Int32} {Q : List Pc} (h6 : R 6 = Q.map (fun p => p.1)) (hl : Q.length < 2 ^ 31) (num : Int32) : ∀ (T : List Pc) (i : Nat) (fo : Int32), Q.drop i = T → sT_powL R num T.length (nI i) fo = fo + nI (cW num T) := by
  intro T
  induction T with
  | nil => intro i fo _; show fo = fo + nI 0; rw [nI_0, Int32.add_zero]
  | cons p T ih =>
    intro i fo e
    obtain ⟨e1, e2⟩ := drop_cons e
    have q : rAt (R 6) (nI i) = p.1 := by rw [h6]; exact rAt_map e1 hl
    show sT_powL R num T.length (nI i + 1) (fo + if rAt (R 6) (nI i) = num then 1 else 0) = fo + nI (cW num T + if p.1 = num then 1 else 0)
    rw [q, nI_1, ih (i + 1) _ e2]
    by_cases e3 : p.1 = num
    · rw [if_pos e3, if_pos e3, Int32.add_assoc, Int32.add_comm 1, nI_1]
    · rw [if_neg e3, if_neg e3, Int32.add_zero]
      rfl
theorem lookEq {Wl : Nat → Option WV} {s : TSt} {a b : MSt} (h : BT Wl s b) (wh9 h1 cnt : Int32) {N9 N2 : Nat} (kn : sM_know (mV 0 0 a) N9 N2 = some b) (hh : h1 = hgt Wl 64 (iniL Wl 64 0) 0) (hc : cnt = nI (iniL Wl 64 0).length) (h6 : b.1 6 = cnt) : sM_look a wh9 N9 N2 = some (b, if wh9 = 0 then cnt else if wh9 = 1 then sT_nodeCount s.2 Wl else if wh9 = 2 then sT_nodeCount s.2 Wl + 1 else if wh9 = 3 then sT_pieceCount s.2 Wl else if wh9 = 4 then h1 else if wh9 = 5 then sT_pieceCount s.2 Wl - cnt else -1) := by
  have hA := h.2.2
  obtain ⟨⟨F, hF, hC⟩, ⟨⟨n, hn, hq⟩, e14, e28, e29, e30, e31, hx, hw⟩, -⟩ := h
  obtain ⟨a1, a2, a3, a4, a5⟩ := all_le (Wl := Wl) (fun i v h => hA.ok h)
  have nc : sT_nodeCount s.2 Wl = nI (nN Wl 64 (iniL Wl 64 0)) := by
    unfold sT_nodeCount
    rw [hC.1 0 (by decide), List.length_map, nds_len]
  have pc : sT_pieceCount s.2 Wl = nI (pcs Wl 64 (iniL Wl 64 0)).length := by
    unfold sT_pieceCount
    rw [hC.2.1.1, List.length_map]
  have ct : nI (pcs Wl 64 (iniL Wl 64 0)).length - cnt = nI (ctT Wl 64 (iniL Wl 64 0)) := by
    rw [hc, pcs_len Wl 64 _ a1, nI_subl]
  unfold sM_look
  rw [kn]
  dsimp only
  rw [h6, e14, e28, e29, e30, e31, nc, pc, ct, hh, nI_1]
  repeat' split
  all_goals rfl
theorem isWallR {Wl : Nat → Option WV} {a : MSt} (hA : AG Wl a) (i : Int32) : sM_isWall a i = some (if wAt Wl i = none then 0 else 1) := by
  unfold sM_isWall
  by_cases i0 : i < 0
  · rw [if_pos i0]
    have : wAt Wl i = none := by unfold wAt; rw [if_pos i0]
    rw [this, if_pos rfl]
  · rw [if_neg i0]
    by_cases i6 : 64 ≤ i
    · rw [if_pos i6]
      have : wAt Wl i = none := by unfold wAt; rw [if_neg i0, if_pos i6]
      rw [this, if_pos rfl]
    · rw [if_neg i6]
      rcases pk_ix i (n := 64) (by decide) with q | q | ⟨j, hj, rfl⟩
      · exact absurd q i0
      · exact absurd q i6
      · obtain ⟨g1, g2⟩ := hA j hj
        rw [if_pos (vpin_nI hj (by decide)), nI_clamp (by omega), wAt_nI hj]
        cases e : Wl j with
        | none => rw [if_pos (g1 e), if_pos rfl]
        | some v => rw [(g2 v e).1, if_neg (by decide), if_neg (by simp)]
/-- the two objects at a call -/
def REL (Wl : Nat → Option WV) (s0 : TSt) (h st cnt hw wx wy : Int32) (a : MSt) : Prop := AG Wl a ∧ (st = 0 → CG Wl s0 ∧ h = hgt Wl 64 (iniL Wl 64 0) 0) ∧ (a.1 7 ≠ 0 → RG Wl a) ∧ ((∀ k, k < 19 → (s0.2 k).length < 2 ^ 31) ∧ ∃ F, cols 13 F s0.2) ∧ cnt = nI (iniL Wl 64 0).length ∧ a.1 6 = cnt ∧ a.1 33 = hw ∧ a.1 34 = wx ∧ a.1 35 = wy ∧ (hw ≠ 0 → okI wx ∧ okI wy)
theorem CG.len {Wl : Nat → Option WV} {s : TSt} (h : CG Wl s) (hW : ∀ i v, wAt Wl i = some v → okW v) : (∀ k, k < 19 → (s.2 k).length < 2 ^ 31) ∧ ∃ F, cols 13 F s.2 := by
  obtain ⟨F, ⟨hF, h3⟩, hN, ⟨c6, c7, c8⟩, c9, ⟨c10, c11, c12⟩, ⟨c13, c14, c15⟩⟩ := h
  have c16 : s.2 16 = [] := congrArg (fun x => x.1) h3
  have c17 : s.2 17 = [] := congrArg (fun x => x.2.1) h3
  have c18 : s.2 18 = [] := congrArg (fun x => x.2.2) h3
  obtain ⟨a1, a2, a3, a4, a5⟩ := all_le hW
  refine ⟨fun k hk => ?_, F, ⟨c13, c14, c15⟩⟩
  by_cases k6 : k < 6
  · rw [hN k k6, List.length_map, nds_len]; omega
  · rcases (show k = 6 ∨ k = 7 ∨ k = 8 ∨ k = 9 ∨ k = 10 ∨ k = 11 ∨ k = 12 ∨ k = 13 ∨ k = 14 ∨ k = 15 ∨ k = 16 ∨ k = 17 ∨ k = 18 by omega) with rfl | rfl | rfl | rfl | rfl | rfl | rfl | rfl | rfl | rfl | rfl | rfl | rfl
    · rw [c6, List.length_map]; omega
    · rw [c7, List.length_map]; omega
    · rw [c8, List.length_map]; omega
    · rw [c9, hms_len]; omega
    · rw [c10]; decide
    · rw [c11]; decide
    · rw [c12]; decide
    · rw [c13, List.length_map]; exact hF
    · rw [c14, List.length_map]; exact hF
    · rw [c15, List.length_map]; exact hF
    · rw [c16]; decide
    · rw [c17]; decide
    · rw [c18]; decide
/-- both grow their trees -/
theorem REL.grow {Wl : Nat → Option WV} {s0 : TSt} {h st cnt hw wx wy : Int32} {a : MSt} (H : REL Wl s0 h st cnt hw wx wy a) : CG Wl (sT_grow Wl s0 h st).1 ∧ (sT_grow Wl s0 h st).2.1 = hgt Wl 64 (iniL Wl 64 0) 0 ∧ (sT_grow Wl s0 h st).2.2 = 0 := by
  obtain ⟨hA, h1, h2, ⟨h3, F, h4⟩, -⟩ := H
  unfold sT_grow
  by_cases e : st = 0
  · rw [if_pos e]
    obtain ⟨g1, g2⟩ := h1 e
    exact ⟨g1, g2, e⟩
  · rw [if_neg e]
    obtain ⟨g1, g2⟩ := growC (Wl := Wl) (fun i v q => hA.ok q) h3 h4
    dsimp only
    exact ⟨g1, g2, rfl⟩
theorem REL.know {Wl : Nat → Option WV} {s0 : TSt} {h st cnt hw wx wy : Int32} {a : MSt} (H : REL Wl s0 h st cnt hw wx wy a) {N9 N2 : Nat} (hN9 : 9000 < N9) (hN2 : 64 < N2) : ∃ b, sM_know (mV 0 0 a) N9 N2 = some b ∧ RG Wl b ∧ AG Wl b ∧ b.1 7 ≠ 0 ∧ b.1 6 = cnt ∧ b.1 33 = hw ∧ b.1 34 = wx ∧ b.1 35 = wy := by
  obtain ⟨hA, h1, h2, h3, h5, h6, h7, h8, h9, h10⟩ := H
  obtain ⟨b, z1, z2, z3, z4, z5, z6⟩ := knowR (Wl := Wl) (a := mV 0 0 a) (hA.move (fun _ _ => rfl)) (fun q => (h2 (by rw [mV_n _ _ (by decide)] at q; exact q)).move (fun k hk _ _ _ => mV_n _ _ hk) (fun _ _ _ => rfl) rfl) hN9 hN2
  refine ⟨b, z1, z2, z3, z4, ?_, ?_, ?_, ?_⟩
  · rw [z5 6 (by decide), mV_n _ _ (by decide)]; exact h6
  · rw [z5 33 (by decide), mV_n _ _ (by decide)]; exact h7
  · rw [z5 34 (by decide), mV_n _ _ (by decide)]; exact h8
  · rw [z5 35 (by decide), mV_n _ _ (by decide)]; exact h9
/-- the class grown or not, the reference grown or not: still the same walls -/
theorem REL.both {Wl : Nat → Option WV} {s0 : TSt} {h st cnt hw wx wy : Int32} {a b : MSt} (H : REL Wl s0 h st cnt hw wx wy a) (r : RG Wl b) (hA : AG Wl b) (h6 : b.1 6 = cnt) (h33 : b.1 33 = hw) (h34 : b.1 34 = wx) (h35 : b.1 35 = wy) : REL Wl s0 h st cnt hw wx wy b ∧ REL Wl (sT_grow Wl s0 h st).1 (sT_grow Wl s0 h st).2.1 (sT_grow Wl s0 h st).2.2 cnt hw wx wy b := by
  have g := H.grow
  obtain ⟨-, q1, q2, q3, q5, q6, q7, q8, q9, q10⟩ := H
  exact ⟨⟨hA, q1, fun _ => r, q3, q5, h6, h33, h34, h35, q10⟩, ⟨hA, fun _ => ⟨g.1, g.2.1⟩, fun _ => r, g.1.len (fun i v q => hA.ok q), q5, h6, h33, h34, h35, q10⟩⟩
theorem REL.zero {Wl : Nat → Option WV} {s0 : TSt} {h st cnt hw wx wy : Int32} {a : MSt} (H : REL Wl s0 h st cnt hw wx wy a) : REL Wl s0 h st cnt hw wx wy (mV 0 0 a) := by
  obtain ⟨hA, h1, h2, h3, h5, h6, h7, h8, h9, h10⟩ := H
  exact ⟨hA.move (fun _ _ => rfl), h1, fun q => (h2 (by rw [mV_n _ _ (by decide)] at q; exact q)).move (fun k hk _ _ _ => mV_n _ _ hk) (fun _ _ _ => rfl) rfl, h3, h5, by rw [mV_n _ _ (by decide)]; exact h6, by rw [mV_n _ _ (by decide)]; exact h7, by rw [mV_n _ _ (by decide)]; exact h8, by rw [mV_n _ _ (by decide)]; exact h9, h10⟩
section CALLS
variable {Wl : Nat → Option WV} {s0 : TSt} {h st cnt hw wx wy : Int32} {a : MSt} {N9 N2 : Nat}
theorem callNode (H : REL Wl s0 h st cnt hw wx wy a) (hN9 : 9000 < N9) (hN2 : 64 < N2) (k what : Int32) : ∃ b, sM_node a k what N9 N2 = some (b, (sN_node Wl s0 h st cnt hw wx wy k what).2) ∧ REL Wl (sN_node Wl s0 h st cnt hw wx wy k what).1.1 (sN_node Wl s0 h st cnt hw wx wy k what).1.2.1 (sN_node Wl s0 h st cnt hw wx wy k what).1.2.2 cnt hw wx wy b := by
  obtain ⟨b, z1, z2, z3, z4, z5, z6, z7, z8⟩ := H.know hN9 hN2
  obtain ⟨-, g⟩ := H.both z2 z3 z5 z6 z7 z8
  obtain ⟨r, e1, e2⟩ := nodeEq (⟨H.grow.1, z2, z3⟩ : BT Wl (sT_grow Wl s0 h st).1 b) k what hN9 z1
  have e : sN_node Wl s0 h st cnt hw wx wy k what = (((sT_grow Wl s0 h st).1, (sT_grow Wl s0 h st).2.1, (sT_grow Wl s0 h st).2.2), r) := by
    rw [e2]
    unfold sN_node
    repeat' split
    all_goals rfl
  rw [e]
  exact ⟨b, e1, g⟩
theorem callWall (H : REL Wl s0 h st cnt hw wx wy a) (hN9 : 9000 < N9) (hN2 : 64 < N2) (k i : Int32) : ∃ b, sM_wall a k i N9 N2 = some (b, (sN_wall Wl s0 h st cnt hw wx wy k i).2) ∧ REL Wl (sN_wall Wl s0 h st cnt hw wx wy k i).1.1 (sN_wall Wl s0 h st cnt hw wx wy k i).1.2.1 (sN_wall Wl s0 h st cnt hw wx wy k i).1.2.2 cnt hw wx wy b := by
  obtain ⟨b, z1, z2, z3, z4, z5, z6, z7, z8⟩ := H.know hN9 hN2
  obtain ⟨-, g⟩ := H.both z2 z3 z5 z6 z7 z8
  exact ⟨b, wallEq (⟨H.grow.1, z2, z3⟩ : BT Wl (sT_grow Wl s0 h st).1 b) k i z1 z4, g⟩
theorem callQuotient (H : REL Wl s0 h st cnt hw wx wy a) (hN9 : 9000 < N9) (hN2 : 64 < N2) (k i w9 : Int32) : ∃ b, sM_quotient a k i w9 N9 N2 = some (b, (sN_quotient Wl s0 h st cnt hw wx wy k i w9).2) ∧ REL Wl (sN_quotient Wl s0 h st cnt hw wx wy k i w9).1.1 (sN_quotient Wl s0 h st cnt hw wx wy k i w9).1.2.1 (sN_quotient Wl s0 h st cnt hw wx wy k i w9).1.2.2 cnt hw wx wy b := by
  obtain ⟨b, z1, z2, z3, z4, z5, z6, z7, z8⟩ := H.know hN9 hN2
  obtain ⟨-, g⟩ := H.both z2 z3 z5 z6 z7 z8
  have q := quotEq (⟨H.grow.1, z2, z3⟩ : BT Wl (sT_grow Wl s0 h st).1 b) k i w9 hN9 z1 z4
  have e : sN_quotient Wl s0 h st cnt hw wx wy k i w9 = (((sT_grow Wl s0 h st).1, (sT_grow Wl s0 h st).2.1, (sT_grow Wl s0 h st).2.2), if sT_pieceAt (sT_grow Wl s0 h st).1.2 Wl k i = -1 then -1 else if w9 < 0 then -1 else if w9 ≤ 3 then (if w9 < 2 then (if (w9 - w9 / 2 * 2) = 0 then sT_quotientOf (sT_grow Wl s0 h st).1.2 Wl (sT_pieceAt (sT_grow Wl s0 h st).1.2 Wl k i) 0 1 else sT_quotientOf (sT_grow Wl s0 h st).1.2 Wl (sT_pieceAt (sT_grow Wl s0 h st).1.2 Wl k i) 0 0) else (if (w9 - w9 / 2 * 2) = 0 then sT_quotientOf (sT_grow Wl s0 h st).1.2 Wl (sT_pieceAt (sT_grow Wl s0 h st).1.2 Wl k i) 1 1 else sT_quotientOf (sT_grow Wl s0 h st).1.2 Wl (sT_pieceAt (sT_grow Wl s0 h st).1.2 Wl k i) 1 0)) else -1) := by
    unfold sN_quotient
    repeat' split
    all_goals rfl
  rw [e]
  exact ⟨b, q, g⟩
theorem callLeaf (H : REL Wl s0 h st cnt hw wx wy a) (hN9 : 9000 < N9) (hN2 : 64 < N2) (x y : Int32) : ∃ b, sM_leaf a x y N9 N2 = some (b, (sN_leaf Wl s0 h st cnt hw wx wy x y).2) ∧ REL Wl (sN_leaf Wl s0 h st cnt hw wx wy x y).1.1 (sN_leaf Wl s0 h st cnt hw wx wy x y).1.2.1 (sN_leaf Wl s0 h st cnt hw wx wy x y).1.2.2 cnt hw wx wy b := by
  unfold sN_leaf
  rw [isPlace_eq]
  by_cases px : sM_isPlace x = 0
  · rw [if_pos px, if_pos rfl]
    refine ⟨_, ?_, H.zero⟩
    unfold sM_leaf
    rw [if_pos px]
  · rw [if_neg px]
    by_cases py : sM_isPlace y = 0
    · rw [if_pos py]
      refine ⟨_, ?_, H.zero⟩
      unfold sM_leaf
      rw [if_neg px, if_pos py]
    · rw [if_neg py]
      obtain ⟨b, z1, z2, z3, z4, z5, z6, z7, z8⟩ := H.know hN9 hN2
      obtain ⟨-, g⟩ := H.both z2 z3 z5 z6 z7 z8
      exact ⟨b, leafEq (⟨H.grow.1, z2, z3⟩ : BT Wl (sT_grow Wl s0 h st).1 b) x y hN9 z1 px py, g⟩
theorem callLook (H : REL Wl s0 h st cnt hw wx wy a) (hN9 : 9000 < N9) (hN2 : 64 < N2) (w9 : Int32) : ∃ b, sM_look a w9 N9 N2 = some (b, (sN_look Wl s0 h st cnt hw wx wy w9).2) ∧ REL Wl (sN_look Wl s0 h st cnt hw wx wy w9).1.1 (sN_look Wl s0 h st cnt hw wx wy w9).1.2.1 (sN_look Wl s0 h st cnt hw wx wy w9).1.2.2 cnt hw wx wy b := by
  obtain ⟨b, z1, z2, z3, z4, z5, z6, z7, z8⟩ := H.know hN9 hN2
  obtain ⟨-, g⟩ := H.both z2 z3 z5 z6 z7 z8
  have q := lookEq (⟨H.grow.1, z2, z3⟩ : BT Wl (sT_grow Wl s0 h st).1 b) w9 (sT_grow Wl s0 h st).2.1 cnt z1 H.grow.2.1 H.2.2.2.2.1 z5
  have e : sN_look Wl s0 h st cnt hw wx wy w9 = (((sT_grow Wl s0 h st).1, (sT_grow Wl s0 h st).2.1, (sT_grow Wl s0 h st).2.2), if w9 = 0 then cnt else if w9 = 1 then sT_nodeCount (sT_grow Wl s0 h st).1.2 Wl else if w9 = 2 then sT_nodeCount (sT_grow Wl s0 h st).1.2 Wl + 1 else if w9 = 3 then sT_pieceCount (sT_grow Wl s0 h st).1.2 Wl else if w9 = 4 then (sT_grow Wl s0 h st).2.1 else if w9 = 5 then sT_pieceCount (sT_grow Wl s0 h st).1.2 Wl - cnt else -1) := by
    unfold sN_look
    repeat' split
    all_goals rfl
  rw [e]
  exact ⟨b, q, g⟩
theorem callStep {m1s : Int32 → Int32} (hm : ∀ x, m1s x = -1 - x) (H : REL Wl s0 h st cnt hw wx wy a) (hN9 : 9000 < N9) (hN2 : 64 < N2) (i what : Int32) : ∃ b, sM_step m1s a i what N9 N2 = some (b, (sN_step Wl s0 h st cnt hw wx wy i what).2) ∧ REL Wl (sN_step Wl s0 h st cnt hw wx wy i what).1.1 (sN_step Wl s0 h st cnt hw wx wy i what).1.2.1 (sN_step Wl s0 h st cnt hw wx wy i what).1.2.2 cnt hw wx wy b := by
  obtain ⟨b, z1, z2, z3, z4, z5, z6, z7, z8⟩ := H.know hN9 hN2
  have bt : BT Wl (sT_grow Wl s0 h st).1 b := ⟨H.grow.1, z2, z3⟩
  obtain ⟨c, r, e1, e2, e3⟩ := stepEq hm bt i what hN9 z1 (by rw [z6, z7, z8]; exact H.2.2.2.2.2.2.2.2.2)
  obtain ⟨-, z2', z3'⟩ := bt.fr36 e2
  obtain ⟨g0, g⟩ := H.both z2' z3' (by rw [e2.1]; exact z5) (by rw [e2.1]; exact z6) (by rw [e2.1]; exact z7) (by rw [e2.1]; exact z8)
  rw [z6, z7, z8] at e3
  by_cases w : hw = 0
  · have e : sN_step Wl s0 h st cnt hw wx wy i what = ((s0, h, st), -1) := by unfold sN_step; rw [if_pos w]
    rw [if_pos w] at e3
    rw [e, ← e3]
    exact ⟨c, e1, g0⟩
  · rw [if_neg w] at e3
    have e : sN_step Wl s0 h st cnt hw wx wy i what = (((sT_grow Wl s0 h st).1, (sT_grow Wl s0 h st).2.1, (sT_grow Wl s0 h st).2.2), r) := by
      rw [e3]
      unfold sN_step
      rw [if_neg w]
      repeat' split
      all_goals rfl
    rw [e]
    exact ⟨c, e1, g⟩
theorem callWay (H : REL Wl s0 h st cnt hw wx wy a) (hN9 : 9000 < N9) (hN2 : 64 < N2) (x y : Int32) : ∃ b, sM_way a x y N9 N2 = some (b, (sN_way Wl s0 h st cnt hw wx wy x y).2) ∧ REL Wl (sN_way Wl s0 h st cnt hw wx wy x y).1.1 (sN_way Wl s0 h st cnt hw wx wy x y).1.2.1 (sN_way Wl s0 h st cnt hw wx wy x y).1.2.2 cnt (if sN_isPlace x y = 0 then hw else 1) (if sN_isPlace x y = 0 then wx else x) (if sN_isPlace x y = 0 then wy else y) b := by
  unfold sN_way
  rw [isPlace_eq]
  by_cases px : sM_isPlace x = 0
  · rw [if_pos px, if_pos rfl, if_pos rfl, if_pos rfl, if_pos rfl]
    refine ⟨_, ?_, H.zero⟩
    unfold sM_way
    rw [if_pos px]
  · rw [if_neg px]
    by_cases py : sM_isPlace y = 0
    · rw [if_pos py, if_pos py, if_pos py, if_pos py]
      refine ⟨_, ?_, H.zero⟩
      unfold sM_way
      rw [if_neg px, if_pos py]
    · rw [if_neg py, if_neg py, if_neg py, if_neg py]
      have H2 : REL Wl s0 h st cnt 1 x y (mV 35 y (mV 34 x (mV 33 1 (mV 0 0 a)))) := by
        obtain ⟨hA, h1, h2, h3, h5, h6, h7, h8, h9, h10⟩ := H
        exact ⟨hA.move (fun _ _ => rfl), h1, fun q => (h2 q).move (fun k k0 k7 k33 _ => by rw [mV_n _ _ (by omega), mV_n _ _ (by omega), mV_n _ _ (by omega), mV_n _ _ k0]) (fun _ _ _ => rfl) rfl, h3, h5, h6, rfl, rfl, rfl, fun _ => ⟨isPlace_ok px, isPlace_ok py⟩⟩
      obtain ⟨b, z1, z2, z3, z4, z5, z6⟩ := knowR (Wl := Wl) (a := mV 35 y (mV 34 x (mV 33 1 (mV 0 0 a)))) H2.1 H2.2.2.1 hN9 hN2
      obtain ⟨-, g⟩ := H2.both z2 z3 (by rw [z5 6 (by decide)]; exact H2.2.2.2.2.2.1) (by rw [z5 33 (by decide)]; rfl) (by rw [z5 34 (by decide)]; rfl) (by rw [z5 35 (by decide)]; rfl)
      refine ⟨b, ?_, g⟩
      obtain ⟨⟨F, hF, hC⟩, -, -⟩ := H.grow
      unfold sM_way
      rw [if_neg px, if_neg py, z1]
      dsimp only
      unfold sT_pieceCount
      rw [hC.2.1.1, List.length_map, z2.2.2.2.2.1]
theorem callOf (H : REL Wl s0 h st cnt hw wx wy a) (hN9 : 9000 < N9) (hN2 : 64 < N2) (i what : Int32) : ∃ b, sM_of a i what N9 N2 = some (b, (sN_of Wl s0 h st cnt hw wx wy i what).2) ∧ REL Wl (sN_of Wl s0 h st cnt hw wx wy i what).1.1 (sN_of Wl s0 h st cnt hw wx wy i what).1.2.1 (sN_of Wl s0 h st cnt hw wx wy i what).1.2.2 cnt hw wx wy b := by
  obtain ⟨b, z1, z2, z3, z4, z5, z6, z7, z8⟩ := H.know hN9 hN2
  obtain ⟨g0, g⟩ := H.both z2 z3 z5 z6 z7 z8
  unfold sM_of sN_of
  rw [isWallR H.zero.1]
  dsimp only
  cases e : wAt Wl i with
  | none =>
    rw [if_pos rfl, if_pos rfl]
    exact ⟨_, rfl, H.zero⟩
  | some v =>
    obtain ⟨j, hj, rfl, ej⟩ := wAt_some e
    obtain ⟨-, ok, e2, e3, e4, e5⟩ := (z3 j hj).2 v ej
    rw [show (if (some v : Option WV) = none then (0 : Int32) else 1) = 1 from if_neg (by simp), if_neg (show ¬ (1 : Int32) = 0 by decide), z1]
    dsimp only
    simp only [if_pos (vpin_nI hj (show 64 < 2 ^ 31 by decide)), nI_clamp (show j < 2 ^ 31 by omega), e2, e3, e4, e5]
    have pw : b.2.1 32 j = sT_piecesOfWall (sT_grow Wl s0 h st).1.2 Wl (nI j) := by
      obtain ⟨⟨F, hF, hC⟩, -, -⟩ := H.grow
      obtain ⟨a1, a2, a3, a4, a5⟩ := all_le (Wl := Wl) (fun i v h => z3.ok h)
      have c := powC (R := (sT_grow Wl s0 h st).1.2) hC.2.1.1 (by omega) (nI j) (pcs Wl 64 (iniL Wl 64 0)) 0 0 rfl
      unfold sT_piecesOfWall
      rw [hC.2.1.1, List.length_map]
      rw [show nI 0 = (0 : Int32) from rfl, Int32.zero_add] at c
      rw [z2.2.2.2.2.2.2.2 j hj, ← c]
    rw [pw]
    by_cases w0 : what = 0
    · subst w0
      rw [if_neg (show ¬ (0 : Int32) < 0 by decide), if_pos (show (0 : Int32) ≤ 4 by decide), if_pos (show (0 : Int32) = 0 from rfl), if_pos (show (0 : Int32) = 0 from rfl)]
      exact ⟨_, rfl, g0⟩
    · rw [if_neg w0, if_neg w0]
      by_cases w1 : what = 1
      · subst w1
        rw [if_neg (show ¬ (1 : Int32) < 0 by decide), if_pos (show (1 : Int32) ≤ 4 by decide), if_pos (show (1 : Int32) = 1 from rfl), if_pos (show (1 : Int32) = 1 from rfl)]
        exact ⟨_, rfl, g0⟩
      · rw [if_neg w1, if_neg w1]
        by_cases w2 : what = 2
        · subst w2
          rw [if_neg (show ¬ (2 : Int32) < 0 by decide), if_pos (show (2 : Int32) ≤ 4 by decide), if_pos (show (2 : Int32) = 2 from rfl), if_pos (show (2 : Int32) = 2 from rfl)]
          exact ⟨_, rfl, g0⟩
        · rw [if_neg w2, if_neg w2]
          by_cases w3 : what = 3
          · subst w3
            rw [if_neg (show ¬ (3 : Int32) < 0 by decide), if_pos (show (3 : Int32) ≤ 4 by decide), if_pos (show (3 : Int32) = 3 from rfl), if_pos (show (3 : Int32) = 3 from rfl)]
            exact ⟨_, rfl, g0⟩
          · rw [if_neg w3, if_neg w3]
            by_cases w4 : what = 4
            · subst w4
              rw [if_neg (show ¬ (4 : Int32) < 0 by decide), if_pos (show (4 : Int32) ≤ 4 by decide), if_pos (show (4 : Int32) = 4 from rfl)]
              exact ⟨_, rfl, g⟩
            · rw [if_neg w4]
              by_cases wn : what < 0
              · rw [if_pos wn]
                exact ⟨_, rfl, H.zero⟩
              · rw [if_neg wn, if_neg (fun q => by
                  rw [Int32.lt_iff_toInt_lt, Int32.toInt_zero] at wn
                  rw [Int32.le_iff_toInt_le, show (4 : Int32).toInt = 4 from by decide] at q
                  have t0 : what.toInt ≠ 0 := fun q => w0 (Int32.toInt_inj.1 q)
                  have t1 : what.toInt ≠ 1 := fun q => w1 (Int32.toInt_inj.1 q)
                  have t2 : what.toInt ≠ 2 := fun q => w2 (Int32.toInt_inj.1 q)
                  have t3 : what.toInt ≠ 3 := fun q => w3 (Int32.toInt_inj.1 q)
                  have t4 : what.toInt ≠ 4 := fun q => w4 (Int32.toInt_inj.1 q)
                  omega)]
                exact ⟨_, rfl, H.zero⟩
end CALLS
