set_option maxHeartbeats 4000000 in
set_option maxRecDepth 100000 in
theorem law_look {p : Program} {l : Launch} {e : Env} {s : State} {m : MethodId} {below : List Frame} {meth : Method} {c : Code} {b L : Nat} {xs : Nat → Int32} {g : CX} {aN aM : Nat} {x3 : Int32} {jj N9 N2 : Nat} (hN9 : 9000 < N9) (hN2 : 64 < N2) (C0 : lw_At p s m meth c b L xs) (hK : KK g s) (hj : jj < 512) (h1 : vp_in (x3 + 1) L) (kk : KON p l e s m below meth c b g aN aM 444 x3 (jj + 1)) : KON p l e s m below meth c b g aN aM 421 x3 jj := by
  obtain ⟨hx, hb, hr, hml, hown9, hts, hX, hbl, hlocks, hgv⟩ := C0
  have hown : s.vm.findClass "NodeMakerLaw" = some m.cls := hown9
  have ht : ∀ w ∈ wT, w.before #[Value.ref b] s = true := fun w h => hts w (List.mem_filter.mp h).1
  have hA : ∀ q : Nat, s.heap.size ≤ q → (fun q : Nat => s.heap.size ≤ q) q := fun _ h => h
  have hbA : ¬ (fun q : Nat => s.heap.size ≤ q) b := Nat.not_le.mpr hbl
  intro hw wx wy ad q f s0 sl cnt h st LW wv bM mz H locs ls hz hsl HR hmu hP hD hS hl
  refine lv_aload_n hx hb dL_law_421 rfl (lv_at hl 1 rfl) ?_
  refine lv_aload_n hx hb dL_law_422 rfl (lv_at hl 0 rfl) ?_
  refine lv_iload_n hx hb dL_law_423 rfl (lv_at hl 3 rfl) ?_
  refine lv_iconst (v := 1) hx hb dL_law_424 (by decide) ?_
  refine lv_iadd hx hb dL_law_425 ?_
  refine va_sld hx hb hX hbl hbA hS h1 dL_law_426 ?_
  have hgr := mu_bd (t := (sN_look (wOf sl wv) s0 h st cnt hw wx wy (xs (x3 + 1).toNatClampNeg)).1.1) (Wl := wOf sl wv) (h := h) (st := st) hz (by unfold sN_look; (repeat' split) <;> first | exact Or.inl rfl | exact Or.inr rfl)
  obtain ⟨bz, eR, HR2⟩ := callLook (N9 := N9) (N2 := N2) HR hN9 hN2 (xs (x3 + 1).toNatClampNeg)
  obtain ⟨gs, hgs⟩ : ∃ x, x = (sN_look (wOf sl wv) s0 h st cnt hw wx wy (xs (x3 + 1).toNatClampNeg)) := ⟨_, rfl⟩
  rw [← hgs] at eR HR2
  have hgu : mu (sN_look (wOf sl wv) s0 h st cnt hw wx wy (xs (x3 + 1).toNatClampNeg)).1.1.1 = mu gs.1.1.1 := by rw [hgs]
  obtain ⟨hg1, hg2⟩ := hgr
  have hPt : va_P g.1 vwCl (nX g aN hw wx wy ad q s0.1 f s0.2 sl cnt h st ++ plW LW wv) H := pl_P hP [0, 1, 2, 3, 4, 5, 6, 7, 8, 9, 10, 11, 12, 13, 14, 15, 16, 17, 18, 19, 20, 21, 22, 23, 24, 25, 26, 27, 28, 29, 30, 31, 32, 33, 34, 35, 36, 37, 38, 39, 40, 41, 42, 43, 44] rfl
  have hDt : va_D (fun q : Nat => s.heap.size ≤ q) (nX g aN hw wx wy ad q s0.1 f s0.2 sl cnt h st ++ plW LW wv) := pl_D hD [0, 1, 2, 3, 4, 5, 6, 7, 8, 9, 10, 11, 12, 13, 14, 15, 16, 17, 18, 19, 20, 21, 22, 23, 24, 25, 26, 27, 28, 29, 30, 31, 32, 33, 34, 35, 36, 37, 38, 39, 40, 41, 42, 43, 44] (by decide) rfl
  refine rw_iP (X := nX g aN hw wx wy ad q s0.1 f s0.2 sl cnt h st ++ mX g aM bM mz) (pl := plW LW wv) (cx := nX g aN hw wx wy ad q s0.1 f s0.2 sl cnt h st) (rx := fun (u : (Nat → Nat) × (Nat → Nat → Int32)) => nX g aN hw wx wy ad u.1 (sN_look (wOf sl wv) s0 h st cnt hw wx wy (xs (x3 + 1).toNatClampNeg)).1.1.1 u.2 (sN_look (wOf sl wv) s0 h st cnt hw wx wy (xs (x3 + 1).toNatClampNeg)).1.1.2 sl cnt (sN_look (wOf sl wv) s0 h st cnt hw wx wy (xs (x3 + 1).toNatClampNeg)).1.2.1 (sN_look (wOf sl wv) s0 h st cnt hw wx wy (xs (x3 + 1).toNatClampNeg)).1.2.2) (pl1 := fun _ => plW LW wv) (wr := mX g aM bM mz) (va_runV (As := [.int (xs (x3 + 1).toNatClampNeg)]) (rest := []) ⟨hx, hb, hml, hown, ht⟩ (cN_look l g H.size aN hw wx wy ad q f s0 sl cnt h st LW wv hz hsl (xs (x3 + 1).toNatClampNeg)) (cwV 1 ht (g_V q_499 q_500 q_501 q_34 q_502) rfl rfl rfl hd_N_look ⟨Nat.le_of_ble_eq_true rfl, Nat.le_of_ble_eq_true rfl⟩) (rw_V hK hPt hDt (va_recv hK.1 hPt (ci := 5) (q0 := 0) rfl rfl)) rfl rfl hl.1 rfl (lv_room (Nat.le_of_ble_eq_true rfl)) dL_law_427 ⟨by show _ + _ ≤ 600000; omega, by show _ + _ ≤ 7302250; omega⟩) hP hD hS hA [0, 1, 2, 3, 4, 5, 6, 7, 8, 9, 10, 11, 12, 13, 14, 15, 16, 17, 18, 19, 20, 21, 22, 23, 24, 25, 26, 27, 28, 29, 30, 31, 32, 33, 34, 35, 36, 37, 38, 39, 40, 41, 42, 43, 44] [45, 46, 47, 48, 49, 50, 51, 52, 53, 54, 55, 56, 57, 58, 59, 60, 61, 62, 63, 64, 65, 66, 67, 68, 69] rfl rfl (by decide) (by decide) (fun r u H locs hw9 hP hD hS => ?_)
  obtain ⟨q, f⟩ := u
  obtain ⟨hr9, hz9⟩ := hw9
  have hz : rowsT gs.1.1.1 f gs.1.1.2 := by rw [hgs]; exact hz9
  have hP : va_P g.1 vwCl ((mX g aM bM mz ++ nX g aN hw wx wy ad q gs.1.1.1 f gs.1.1.2 sl cnt gs.1.2.1 gs.1.2.2) ++ plW LW wv) H := by rw [hgs]; exact hP
  have hD : va_D (fun q : Nat => s.heap.size ≤ q) ((mX g aM bM mz ++ nX g aN hw wx wy ad q gs.1.1.1 f gs.1.1.2 sl cnt gs.1.2.1 gs.1.2.2) ++ plW LW wv) := by rw [hgs]; exact hD
  have hr9 : r = gs.2 := by rw [hgs]; exact hr9
  subst hr9
  refine W.widen (k := 70 + (mu gs.1.1.1 - 2432) + jj) (n := 94930 + (mu gs.1.1.1 - 2432) + 4 * jj) (by omega) (by omega) ?_
  refine lv_aload_n hx hb dL_law_430 rfl (lv_at hl 2 rfl) ?_
  refine lv_aload_n hx hb dL_law_431 rfl (lv_at hl 0 rfl) ?_
  refine lv_iload_n hx hb dL_law_432 rfl (lv_at hl 3 rfl) ?_
  refine lv_iconst (v := 1) hx hb dL_law_433 (by decide) ?_
  refine lv_iadd hx hb dL_law_434 ?_
  refine va_sld hx hb hX hbl hbA hS h1 dL_law_435 ?_
  have hPt : va_P g.1 vwCl (mX g aM bM mz) H := hP.sub [0, 1, 2, 3, 4, 5, 6, 7, 8, 9, 10, 11, 12, 13, 14, 15, 16, 17, 18, 19, 20, 21, 22, 23, 24] rfl
  have hDt : va_D (fun q : Nat => s.heap.size ≤ q) (mX g aM bM mz) := hD.sub [0, 1, 2, 3, 4, 5, 6, 7, 8, 9, 10, 11, 12, 13, 14, 15, 16, 17, 18, 19, 20, 21, 22, 23, 24] (by decide) rfl
  refine rw_iQ (X := mX g aM bM mz ++ nX g aN hw wx wy ad q gs.1.1.1 f gs.1.1.2 sl cnt gs.1.2.1 gs.1.2.2) (pl := plW LW wv) (wc := mX g aM bM mz) (wr := nX g aN hw wx wy ad q gs.1.1.1 f gs.1.1.2 sl cnt gs.1.2.1 gs.1.2.2) (w1 := fun _ => mX g aM bM (bz, gs.2).1) (va_runV (As := [.int (xs (x3 + 1).toNatClampNeg)]) (rest := [.int gs.2]) ⟨hx, hb, hml, hown, ht⟩ (cM_look l g H.size aM bM mz (xs (x3 + 1).toNatClampNeg) N9 N2 (bz, gs.2) eR) (cwV 1 ht (g_V q_790 q_791 q_792 q_39 q_793) rfl rfl rfl hd_M_look ⟨Nat.le_of_ble_eq_true rfl, Nat.le_of_ble_eq_true rfl⟩) (rw_V hK hPt hDt (va_recv hK.1 hPt (ci := 6) (q0 := 0) rfl rfl)) rfl rfl hl.1 rfl (lv_room (Nat.le_of_ble_eq_true rfl)) dL_law_436 ⟨by show _ + 0 ≤ 600000; omega, by show _ + 0 ≤ 7302250; omega⟩) hP hD hS hA [0, 1, 2, 3, 4, 5, 6, 7, 8, 9, 10, 11, 12, 13, 14, 15, 16, 17, 18, 19, 20, 21, 22, 23, 24] [25, 26, 27, 28, 29, 30, 31, 32, 33, 34, 35, 36, 37, 38, 39, 40, 41, 42, 43, 44, 45, 46, 47, 48, 49, 50, 51, 52, 53, 54, 55, 56, 57, 58, 59, 60, 61, 62, 63, 64, 65, 66, 67, 68, 69] rfl rfl rfl (by decide) (by decide) (fun r u H locs hw9 hP hD hS => ?_)
  have hP : va_P g.1 vwCl ((nX g aN hw wx wy ad q gs.1.1.1 f gs.1.1.2 sl cnt gs.1.2.1 gs.1.2.2 ++ mX g aM bM bz) ++ plW LW wv) H := hP
  have hD : va_D (fun q : Nat => s.heap.size ≤ q) ((nX g aN hw wx wy ad q gs.1.1.1 f gs.1.1.2 sl cnt gs.1.2.1 gs.1.2.2 ++ mX g aM bM bz) ++ plW LW wv) := hD
  have hr8 : r = gs.2 := hw9
  subst hr8
  refine lv_icmp_eq (tgt := 444) hx hb dL_law_439 (by decide) (fun _ => ?_) (fun c9 => absurd rfl c9)
  refine W.widen (k := 70 + (mu gs.1.1.1 - 2432) + (jj + 1)) (n := 94930 + (mu gs.1.1.1 - 2432) + 4 * (jj + 1)) (by omega) (by omega) ?_
  exact kk _ _ _ _ _ _ _ _ _ _ _ _ _ _ _ _ _ _ hz hsl HR2 (by omega) hP hD hS hl
