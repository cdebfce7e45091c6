theorem arr_of {args : Array Value} {s : State} {t : FieldType} (h : (Cond.arrayClass t).before args s = true) (ho : ∀ C, t ≠ .object C) : ∃ c : ClassId, ArrOfT s c t ∧ va_RA s c t := by
  obtain ⟨c, k, comp, h1, h2, h3⟩ := Cond.arrayClass_spec h
  refine ⟨c, fun N z => ⟨(fun q hq => by cases hq), k, h2, comp, h3⟩, ?_⟩
  cases t <;> first | exact h1 | exact absurd rfl (ho _)
theorem arr_ofO {args : Array Value} {s : State} {C : String} (h : (Cond.arrayOver (.object C)).before args s = true) : ∃ c : ClassId, ArrOfT s c (.object C) ∧ va_RA s c (.object C) := by
  obtain ⟨comp, c, k, h1, h2, h3, h4, h5⟩ := Cond.arrayOver_spec h
  exact ⟨c, fun N z => ⟨(fun q hq => by cases hq), k, h3, comp, h4⟩, ⟨k, comp, h3, h4, h1, h5⟩⟩
/-- the classes, the arrays' classes, the nest's links, at the law's entry -/
theorem KK_start {s : State} {b : Nat} (hts : ∀ w ∈ lw_tbl, w.before #[Value.ref b] s = true) : ∃ g : CX, KK g s := by
  have ht : ∀ w ∈ wT, w.before #[Value.ref b] s = true := fun w h => hts w (List.mem_filter.mp h).1
  obtain ⟨c0, i0, k0⟩ := u_known (C := "NodeMaker$Row") (T := Fd_R) (N := 2) (n := 2) ht i_R (ht _ q_74)
  obtain ⟨c1, i1, k1⟩ := u_known (C := "NodeMaker$Pieces") (T := Fd_P) (N := 3) (n := 3) ht i_P (ht _ q_88)
  obtain ⟨c2, i2, k2⟩ := u_known (C := "NodeMaker$Wall") (T := Fd_W) (N := 4) (n := 4) ht i_W (ht _ q_175)
  obtain ⟨c3, i3, k3⟩ := u_known (C := "NodeMaker$Walls") (T := Fd_S) (N := 2) (n := 2) ht i_S (ht _ q_59)
  obtain ⟨c4, i4, k4⟩ := u_known (C := "NodeMaker$Tree") (T := Fd_T) (N := 16) (n := 16) ht i_T (ht _ q_53)
  obtain ⟨c5, i5, k5⟩ := u_known (C := "NodeMaker") (T := Fd_N) (N := 4) (n := 4) ht i_N (ht _ q_45)
  obtain ⟨c6, i6, k6⟩ := u_known (C := "NodeMakerModel") (T := Fd_M) (N := 37) (n := 37) ht i_M (ht _ q_520)
  obtain ⟨a0, r0⟩ := arr_of (t := .int) (ht _ q_86) (fun C h => by cases h)
  obtain ⟨a1, r1⟩ := arr_ofO (C := "NodeMaker$Wall") (hts _ q0_65)
  obtain ⟨a2, r2⟩ := arr_of (t := .long) (ht _ q_638) (fun C h => by cases h)
  obtain ⟨a3, r3⟩ := arr_of (t := .boolean) (ht _ q_637) (fun C h => by cases h)
  refine ⟨((fun k => if k = 0 then c0 else if k = 1 then c1 else if k = 2 then c2 else if k = 3 then c3 else if k = 4 then c4 else if k = 5 then c5 else c6, fun k => if k = 0 then i0 else if k = 1 then i1 else if k = 2 then i2 else if k = 3 then i3 else if k = 4 then i4 else if k = 5 then i5 else i6), fun k => if k = 0 then a0 else if k = 1 then a1 else if k = 2 then a2 else a3), ⟨?_, ?_⟩, ?_⟩
  · intro k q hq
    match k, hq with
    | 0, hq => cases hq; exact k0
    | 1, hq => cases hq; exact k1
    | 2, hq => cases hq; exact k2
    | 3, hq => cases hq; exact k3
    | 4, hq => cases hq; exact k4
    | 5, hq => cases hq; exact k5
    | 6, hq => cases hq; exact k6
    | k + 7, hq => simp [vwCl] at hq
  · intro k q hq
    match k, hq with
    | 0, hq => cases hq; exact r0
    | 1, hq => cases hq; exact r1
    | 2, hq => cases hq; exact r2
    | 3, hq => cases hq; exact r3
    | k + 4, hq => simp [tyL] at hq
  · exact ⟨va_Nw.of rfl (hts _ q0_54), va_Nw.of rfl (hts _ q0_60), va_Nw.of rfl (hts _ q0_75), va_Nw.of rfl (hts _ q0_89), va_Nw.of rfl (hts _ q0_94), va_Nw.of rfl (hts _ q0_181), va_Nw.of rfl (hts _ q0_184), va_Nw.of rfl (hts _ q0_187), va_Nw.of rfl (hts _ q0_190), va_Nw.of rfl (hts _ q0_182), va_Nw.of rfl (hts _ q0_185), va_Nw.of rfl (hts _ q0_188), va_Nw.of rfl (hts _ q0_191), va_AO.of (hts _ q0_65)⟩
/-- two new objects agree -/
theorem REL_new : REL (wOf (fun _ => none) (fun _ => ((0, 0, 0, 0) : WV))) (fun _ => 64, fun _ => []) 0 0 0 0 0 0 ((fun _ => 0, fun _ _ => 0, fun _ _ => 0) : MSt) := by
  have hn : ∀ j, j < 64 → wOf (fun _ => none) (fun _ => ((0, 0, 0, 0) : WV)) j = none := fun _ _ => rfl
  have hi : iniL (wOf (fun _ => none) (fun _ => ((0, 0, 0, 0) : WV))) 64 0 = [] := ini_none hn 64 0 (by decide)
  refine ⟨fun i hi => ⟨fun _ => rfl, fun v hv => by cases hv⟩, fun _ => ?_, fun q => absurd rfl q, ⟨fun k _ => by show ([] : List Int32).length < 2 ^ 31; decide, [], rfl, rfl, rfl⟩, ?_, rfl, rfl, rfl, rfl, fun q => absurd rfl q⟩
  · rw [hi]
    refine ⟨?_, rfl⟩
    unfold CG
    rw [hi]
    exact ⟨[], ⟨by decide, rfl⟩, fun k _ => rfl, ⟨rfl, rfl, rfl⟩, rfl, ⟨rfl, rfl, rfl⟩, ⟨rfl, rfl, rfl⟩⟩
  · rw [hi]
    rfl
set_option maxHeartbeats 4000000 in
set_option maxRecDepth 100000 in
theorem whole_start {p : Program} {e : Env} {s : State} {m : MethodId} {below : List Frame} {meth : Method} {c : Code} (l : Launch) {b L : Nat} {xs : Nat → Int32} (hL : L ≤ 2560) (C0 : lw_At p s m meth c b L xs) : W p l e room_1 s m #[Value.ref b] below meth c s.heap [] 0 0 (lw_Z below #[Value.ref b] s) (entryFrame m ([Value.ref b] : List Value).toArray 4) := by
  obtain ⟨hx, hb, hr, hml, hown9, hts, hX, hbl, hlocks, hgv⟩ := id C0
  have hown : s.vm.findClass "NodeMakerLaw" = some m.cls := hown9
  have ht : ∀ w ∈ wT, w.before #[Value.ref b] s = true := fun w h => hts w (List.mem_filter.mp h).1
  have hA : ∀ q : Nat, s.heap.size ≤ q → (fun q : Nat => s.heap.size ≤ q) q := fun _ h => h
  obtain ⟨g, hK⟩ := KK_start hts
  have hS : va_S (fun q : Nat => s.heap.size ≤ q) s.heap s.heap [] := va_S.rf
  have hP : va_P g.1 vwCl [] s.heap := fun k q h => by simp at h
  have hD : va_D (fun q : Nat => s.heap.size ≤ q) [] := ⟨fun i j p q h => by simp at h, fun k q h => by simp at h⟩
  have hl := lv_entry ([.ref b]) (n := 4) (Nat.le_of_ble_eq_true rfl)
  rw [lg_entry_eq]
  generalize (lg_sl ([.ref b]) ++ List.replicate (4 - (lg_sl ([.ref b])).length) Slot.unset).toArray = ls at hl ⊢
  have hl : lv_has ls 4 [(0, .ref b)] := hl
  refine va_new (ci := 5) (fs := [.null, .int 0, .int 0, .int 0]) (C := "NodeMaker") (T := Fd_N) (N := 4) hx hb ht i_N ty_N ty_N_ok hown (ht _ q_44) (ht _ q_45) (ht _ q_34) hK.1 hP hD hS hA rfl (fun j hj => by rcases (show j = 0 ∨ j = 1 ∨ j = 2 ∨ j = 3 by omega) with rfl | rfl | rfl | rfl <;> rfl) (Nat.le_of_ble_eq_true rfl) (Nat.le_of_ble_eq_true rfl) dL_law_0 (fun aN H hP hD hS => ?_)
  have hP : va_P g.1 vwCl ([(aN, .inr (5, [.null, .int 0, .int 0, .int 0]))]) H := hP
  have hD : va_D (fun q : Nat => s.heap.size ≤ q) ([(aN, .inr (5, [.null, .int 0, .int 0, .int 0]))]) := hD
  refine W.widen (k := 1) (n := 4) (by omega) (by omega) ?_
  refine lv_dup hx hb dL_law_3 rfl ?_
  refine rw_v (X := [(aN, .inr (5, [.null, .int 0, .int 0, .int 0]))]) (wc := [(aN, .inr (5, [.null, .int 0, .int 0, .int 0]))]) (wr := []) (w1 := fun (u : (Nat → Nat) × (Nat → Nat)) => nX g aN 0 0 0 u.1 u.2 (fun _ => 64) (fun _ _ => 0) (fun _ => []) (fun _ => none) 0 0 0) (va_runI (As := []) (rest := [.ref aN]) ⟨hx, hb, hml, hown, ht⟩ (cN_init l g H.size aN) (cwI 0 ht (g_all q_48) rfl rfl rfl (ht _ q_34) (ht _ q_46) (ht _ q_47) rfl hd_N_init ⟨Nat.le_of_ble_eq_true rfl, Nat.le_of_ble_eq_true rfl⟩) (rw_S hK hP hD) rfl rfl hl.1 rfl (lv_room (Nat.le_of_ble_eq_true rfl)) dL_law_4 ⟨Nat.le_of_ble_eq_true rfl, Nat.le_of_ble_eq_true rfl⟩) hP hD hS hA [0] [] rfl rfl (by decide) (by decide) (fun u H locs _ hP hD hS => ?_)
  obtain ⟨ad, q⟩ := u
  have hP : va_P g.1 vwCl (nX g aN 0 0 0 ad q (fun _ => 64) (fun _ _ => 0) (fun _ => []) (fun _ => none) 0 0 0) H := hP
  have hD : va_D (fun q : Nat => s.heap.size ≤ q) (nX g aN 0 0 0 ad q (fun _ => 64) (fun _ _ => 0) (fun _ => []) (fun _ => none) 0 0 0) := hD
  refine W.widen (k := 45) (n := 1349) (by omega) (by omega) ?_
  refine lv_astore_n (lv' := [(1, .ref aN), (0, .ref b)]) hx hb dL_law_7 rfl hl (by decide) rfl (fun ls hl => ?_)
  refine va_new (ci := 6) (fs := [.int 0, .null, .null, .null, .null, .null, .int 0, .int 0, .null, .null, .null, .null, .null, .int 0, .int 0, .null, .null, .null, .null, .null, .int 0, .null, .null, .null, .null, .null, .null, .null, .int 0, .int 0, .int 0, .int 0, .null, .int 0, .int 0, .int 0, .null]) (C := "NodeMakerModel") (T := Fd_M) (N := 37) hx hb ht i_M ty_M ty_M_ok hown (ht _ q_519) (ht _ q_520) (ht _ q_39) hK.1 hP hD hS hA rfl (fun j hj => by rcases (show j = 0 ∨ j = 1 ∨ j = 2 ∨ j = 3 ∨ j = 4 ∨ j = 5 ∨ j = 6 ∨ j = 7 ∨ j = 8 ∨ j = 9 ∨ j = 10 ∨ j = 11 ∨ j = 12 ∨ j = 13 ∨ j = 14 ∨ j = 15 ∨ j = 16 ∨ j = 17 ∨ j = 18 ∨ j = 19 ∨ j = 20 ∨ j = 21 ∨ j = 22 ∨ j = 23 ∨ j = 24 ∨ j = 25 ∨ j = 26 ∨ j = 27 ∨ j = 28 ∨ j = 29 ∨ j = 30 ∨ j = 31 ∨ j = 32 ∨ j = 33 ∨ j = 34 ∨ j = 35 ∨ j = 36 by omega) with rfl | rfl | rfl | rfl | rfl | rfl | rfl | rfl | rfl | rfl | rfl | rfl | rfl | rfl | rfl | rfl | rfl | rfl | rfl | rfl | rfl | rfl | rfl | rfl | rfl | rfl | rfl | rfl | rfl | rfl | rfl | rfl | rfl | rfl | rfl | rfl | rfl <;> rfl) (Nat.le_of_ble_eq_true rfl) (Nat.le_of_ble_eq_true rfl) dL_law_8 (fun aM H hP hD hS => ?_)
  have hP : va_P g.1 vwCl (nX g aN 0 0 0 ad q (fun _ => 64) (fun _ _ => 0) (fun _ => []) (fun _ => none) 0 0 0 ++ [(aM, .inr (6, [.int 0, .null, .null, .null, .null, .null, .int 0, .int 0, .null, .null, .null, .null, .null, .int 0, .int 0, .null, .null, .null, .null, .null, .int 0, .null, .null, .null, .null, .null, .null, .null, .int 0, .int 0, .int 0, .int 0, .null, .int 0, .int 0, .int 0, .null]))]) H := hP
  have hD : va_D (fun q : Nat => s.heap.size ≤ q) (nX g aN 0 0 0 ad q (fun _ => 64) (fun _ _ => 0) (fun _ => []) (fun _ => none) 0 0 0 ++ [(aM, .inr (6, [.int 0, .null, .null, .null, .null, .null, .int 0, .int 0, .null, .null, .null, .null, .null, .int 0, .int 0, .null, .null, .null, .null, .null, .int 0, .null, .null, .null, .null, .null, .null, .null, .int 0, .int 0, .int 0, .int 0, .null, .int 0, .int 0, .int 0, .null]))]) := hD
  refine W.widen (k := 46) (n := 1386) (by omega) (by omega) ?_
  refine lv_dup hx hb dL_law_11 rfl ?_
  have hPm : va_P g.1 vwCl [(aM, .inr (6, [.int 0, .null, .null, .null, .null, .null, .int 0, .int 0, .null, .null, .null, .null, .null, .int 0, .int 0, .null, .null, .null, .null, .null, .int 0, .null, .null, .null, .null, .null, .null, .null, .int 0, .int 0, .int 0, .int 0, .null, .int 0, .int 0, .int 0, .null]))] H := hP.sub [45] rfl
  have hDm : va_D (fun q : Nat => s.heap.size ≤ q) [(aM, .inr (6, [.int 0, .null, .null, .null, .null, .null, .int 0, .int 0, .null, .null, .null, .null, .null, .int 0, .int 0, .null, .null, .null, .null, .null, .int 0, .null, .null, .null, .null, .null, .null, .null, .int 0, .int 0, .int 0, .int 0, .null, .int 0, .int 0, .int 0, .null]))] := hD.sub [45] (by decide) rfl
  refine rw_v (X := nX g aN 0 0 0 ad q (fun _ => 64) (fun _ _ => 0) (fun _ => []) (fun _ => none) 0 0 0 ++ [(aM, .inr (6, [.int 0, .null, .null, .null, .null, .null, .int 0, .int 0, .null, .null, .null, .null, .null, .int 0, .int 0, .null, .null, .null, .null, .null, .int 0, .null, .null, .null, .null, .null, .null, .null, .int 0, .int 0, .int 0, .int 0, .null, .int 0, .int 0, .int 0, .null]))]) (wc := [(aM, .inr (6, [.int 0, .null, .null, .null, .null, .null, .int 0, .int 0, .null, .null, .null, .null, .null, .int 0, .int 0, .null, .null, .null, .null, .null, .int 0, .null, .null, .null, .null, .null, .null, .null, .int 0, .int 0, .int 0, .int 0, .null, .int 0, .int 0, .int 0, .null]))]) (wr := nX g aN 0 0 0 ad q (fun _ => 64) (fun _ _ => 0) (fun _ => []) (fun _ => none) 0 0 0) (w1 := fun (u : Nat → Nat) => mX g aM u (fun _ => 0, fun _ _ => 0, fun _ _ => 0)) (va_runI (As := []) (rest := [.ref aM]) ⟨hx, hb, hml, hown, ht⟩ (cM_init l g H.size aM) (cwI 0 ht (g_all q_523) rfl rfl rfl (ht _ q_39) (ht _ q_521) (ht _ q_522) rfl hd_M_init ⟨Nat.le_of_ble_eq_true rfl, Nat.le_of_ble_eq_true rfl⟩) (rw_S hK hPm hDm) rfl rfl hl.1 rfl (lv_room (Nat.le_of_ble_eq_true rfl)) dL_law_12 ⟨Nat.le_of_ble_eq_true rfl, Nat.le_of_ble_eq_true rfl⟩) hP hD hS hA [45] [0, 1, 2, 3, 4, 5, 6, 7, 8, 9, 10, 11, 12, 13, 14, 15, 16, 17, 18, 19, 20, 21, 22, 23, 24, 25, 26, 27, 28, 29, 30, 31, 32, 33, 34, 35, 36, 37, 38, 39, 40, 41, 42, 43, 44] rfl rfl (by decide) (by decide) (fun bM H locs _ hP hD hS => ?_)
  refine W.widen (k := 70) (n := 94930) (show 46 + 24 ≤ 70 by decide) (show 1386 + 93544 ≤ 94930 by decide) ?_
  refine lv_astore_n (lv' := [(2, .ref aM), (1, .ref aN), (0, .ref b)]) hx hb dL_law_15 rfl hl (by decide) rfl (fun ls hl => ?_)
  refine lv_iconst (v := 0) hx hb dL_law_16 (by decide) ?_
  refine lv_istore_n (lv' := [(3, .int 0), (2, .ref aM), (1, .ref aN), (0, .ref b)]) hx hb dL_law_17 rfl hl (by decide) rfl (fun ls hl => ?_)
  have hz : rowsT ((fun _ => 64, fun _ => []) : TSt).1 (fun _ _ => 0) ((fun _ => 64, fun _ => []) : TSt).2 := fun k _ => ⟨by show ([] : List Int32).length ≤ 64; decide, Or.inl rfl, (show 64 ≤ 4096 by decide), fun j hj => absurd hj (by show ¬ j < ([] : List Int32).length; simp)⟩
  have hsl : slOK (fun _ => none) [] := fun i x h => by cases h
  have hm0 : mu (fun _ => 64) = 2432 := rfl
  have K := law_loop (p := p) (l := l) (e := e) (below := below) (aN := aN) (aM := aM) (N9 := 10000) (N2 := 100) (m1s := fun x => -1 - x) (fun _ => rfl) (by decide) (by decide) hL C0 hK (L + 1) 0 (by omega) (by omega)
  have hP : va_P g.1 vwCl ((nX g aN 0 0 0 ad q ((fun _ => 64, fun _ => []) : TSt).1 (fun _ _ => 0) ((fun _ => 64, fun _ => []) : TSt).2 (fun _ => none) 0 0 0 ++ mX g aM bM (fun _ => 0, fun _ _ => 0, fun _ _ => 0)) ++ plW [] (fun _ => (0, 0, 0, 0))) H := by
    rw [show plW [] (fun _ => ((0, 0, 0, 0) : WV)) = [] from rfl, List.append_nil]; exact hP
  have hD : va_D (fun q : Nat => s.heap.size ≤ q) ((nX g aN 0 0 0 ad q ((fun _ => 64, fun _ => []) : TSt).1 (fun _ _ => 0) ((fun _ => 64, fun _ => []) : TSt).2 (fun _ => none) 0 0 0 ++ mX g aM bM (fun _ => 0, fun _ _ => 0, fun _ _ => 0)) ++ plW [] (fun _ => (0, 0, 0, 0))) := by
    rw [show plW [] (fun _ => ((0, 0, 0, 0) : WV)) = [] from rfl, List.append_nil]; exact hD
  have K2 := K 0 0 0 ad q (fun _ _ => 0) ((fun _ => 64, fun _ => []) : TSt) (fun _ => none) 0 0 0 [] (fun _ => (0, 0, 0, 0)) bM (fun _ => 0, fun _ _ => 0, fun _ _ => 0) H locs ls hz hsl REL_new (by show 2432 ≤ mu (fun _ => 64); rw [hm0]; exact Nat.le_refl _) hP hD hS (lv_sub hl [3, 2, 1, 0] rfl)
  have hm1 : mu ((fun _ => 64, fun _ => []) : TSt).1 = 2432 := rfl
  rw [hm1] at K2
  exact K2
