set_option maxHeartbeats 4000000 in
set_option maxRecDepth 100000 in
theorem law_clear {p : Program} {l : Launch} {e : Env} {s : State} {m : MethodId} {below : List Frame} {meth : Method} {c : Code} {b L : Nat} {xs : Nat → Int32} {g : CX} {aN aM : Nat} {x3 : Int32} {jj N9 N2 : Nat} (hN9 : 9000 < N9) (hN2 : 64 < N2) (C0 : lw_At p s m meth c b L xs) (hK : KK g s) (hj : jj < 512)  (kk : KON p l e s m below meth c b g aN aM 444 x3 (jj + 1)) : KON p l e s m below meth c b g aN aM 168 x3 jj := by
  obtain ⟨hx, hb, hr, hml, hown9, hts, hX, hbl, hlocks, hgv⟩ := C0
  have hown : s.vm.findClass "NodeMakerLaw" = some m.cls := hown9
  have ht : ∀ w ∈ wT, w.before #[Value.ref b] s = true := fun w h => hts w (List.mem_filter.mp h).1
  have hA : ∀ q : Nat, s.heap.size ≤ q → (fun q : Nat => s.heap.size ≤ q) q := fun _ h => h
  have hbA : ¬ (fun q : Nat => s.heap.size ≤ q) b := Nat.not_le.mpr hbl
  intro hw wx wy ad q f s0 sl cnt h st LW wv bM mz H locs ls hz hsl HR hmu hP hD hS hl
  refine lv_aload_n hx hb dL_law_168 rfl (lv_at hl 1 rfl) ?_
  have hmb := (rows_cps hz).mu
  have hPt : va_P g.1 vwCl (nX g aN hw wx wy ad q s0.1 f s0.2 sl cnt h st ++ plW LW wv) H := pl_P hP [0, 1, 2, 3, 4, 5, 6, 7, 8, 9, 10, 11, 12, 13, 14, 15, 16, 17, 18, 19, 20, 21, 22, 23, 24, 25, 26, 27, 28, 29, 30, 31, 32, 33, 34, 35, 36, 37, 38, 39, 40, 41, 42, 43, 44] rfl
  have hDt : va_D (fun q : Nat => s.heap.size ≤ q) (nX g aN hw wx wy ad q s0.1 f s0.2 sl cnt h st ++ plW LW wv) := pl_D hD [0, 1, 2, 3, 4, 5, 6, 7, 8, 9, 10, 11, 12, 13, 14, 15, 16, 17, 18, 19, 20, 21, 22, 23, 24, 25, 26, 27, 28, 29, 30, 31, 32, 33, 34, 35, 36, 37, 38, 39, 40, 41, 42, 43, 44] (by decide) rfl
  refine rw_vP (X := nX g aN hw wx wy ad q s0.1 f s0.2 sl cnt h st ++ mX g aM bM mz) (pl := plW LW wv) (cx := nX g aN hw wx wy ad q s0.1 f s0.2 sl cnt h st) (rx := fun (u : ((Nat → Nat) × (Nat → Nat → Int32)) × (Nat → Option Nat)) => nX g aN hw wx wy ad u.1.1 s0.1 u.1.2 s0.2 u.2 0 h 1) (pl1 := fun _ => plW LW wv) (wr := mX g aM bM mz) (va_runV (As := []) (rest := []) ⟨hx, hb, hml, hown, ht⟩ (cN_clear l g H.size aN hw wx wy ad q f s0 sl cnt h st LW wv hz hsl ) (cwV 0 ht (g_V q_251 q_252 q_253 q_34 q_254) rfl rfl rfl hd_N_clear ⟨Nat.le_of_ble_eq_true rfl, Nat.le_of_ble_eq_true rfl⟩) (rw_V hK hPt hDt (va_recv hK.1 hPt (ci := 5) (q0 := 0) rfl rfl)) rfl rfl hl.1 rfl (lv_room (Nat.le_of_ble_eq_true rfl)) dL_law_169 ⟨by show _ + _ ≤ 600000; omega, by show _ + _ ≤ 7302250; omega⟩) hP hD hS hA [0, 1, 2, 3, 4, 5, 6, 7, 8, 9, 10, 11, 12, 13, 14, 15, 16, 17, 18, 19, 20, 21, 22, 23, 24, 25, 26, 27, 28, 29, 30, 31, 32, 33, 34, 35, 36, 37, 38, 39, 40, 41, 42, 43, 44] [45, 46, 47, 48, 49, 50, 51, 52, 53, 54, 55, 56, 57, 58, 59, 60, 61, 62, 63, 64, 65, 66, 67, 68, 69] rfl rfl (by decide) (by decide) (fun u H locs hw9 hP hD hS => ?_)
  obtain ⟨⟨q, f⟩, sl9⟩ := u
  obtain ⟨hz, hno, hsl⟩ := hw9
  obtain ⟨bz, eR, HR2⟩ := callClear (N9 := N9) HR hN9 (wOf sl9 wv) (fun j hj => by show (sl9 j).map wv = none; rw [show sl9 j = none from hno j hj]; rfl)
  have hP : va_P g.1 vwCl ((mX g aM bM mz ++ nX g aN hw wx wy ad q s0.1 f s0.2 sl9 0 h 1) ++ plW LW wv) H := hP
  have hD : va_D (fun q : Nat => s.heap.size ≤ q) ((mX g aM bM mz ++ nX g aN hw wx wy ad q s0.1 f s0.2 sl9 0 h 1) ++ plW LW wv) := hD
  refine lv_aload_n hx hb dL_law_172 rfl (lv_at hl 2 rfl) ?_
  have hPt : va_P g.1 vwCl (mX g aM bM mz) H := hP.sub [0, 1, 2, 3, 4, 5, 6, 7, 8, 9, 10, 11, 12, 13, 14, 15, 16, 17, 18, 19, 20, 21, 22, 23, 24] rfl
  have hDt : va_D (fun q : Nat => s.heap.size ≤ q) (mX g aM bM mz) := hD.sub [0, 1, 2, 3, 4, 5, 6, 7, 8, 9, 10, 11, 12, 13, 14, 15, 16, 17, 18, 19, 20, 21, 22, 23, 24] (by decide) rfl
  refine rw_vQ (X := mX g aM bM mz ++ nX g aN hw wx wy ad q s0.1 f s0.2 sl9 0 h 1) (pl := plW LW wv) (wc := mX g aM bM mz) (wr := nX g aN hw wx wy ad q s0.1 f s0.2 sl9 0 h 1) (w1 := fun _ => mX g aM bM bz) (va_runV (As := []) (rest := []) ⟨hx, hb, hml, hown, ht⟩ (cM_clear l g H.size aM bM mz  N9 bz eR) (cwV 0 ht (g_V q_680 q_681 q_682 q_39 q_683) rfl rfl rfl hd_M_clear ⟨Nat.le_of_ble_eq_true rfl, Nat.le_of_ble_eq_true rfl⟩) (rw_V hK hPt hDt (va_recv hK.1 hPt (ci := 6) (q0 := 0) rfl rfl)) rfl rfl hl.1 rfl (lv_room (Nat.le_of_ble_eq_true rfl)) dL_law_173 ⟨by show _ + 0 ≤ 600000; omega, by show _ + 0 ≤ 7302250; omega⟩) hP hD hS hA [0, 1, 2, 3, 4, 5, 6, 7, 8, 9, 10, 11, 12, 13, 14, 15, 16, 17, 18, 19, 20, 21, 22, 23, 24] [25, 26, 27, 28, 29, 30, 31, 32, 33, 34, 35, 36, 37, 38, 39, 40, 41, 42, 43, 44, 45, 46, 47, 48, 49, 50, 51, 52, 53, 54, 55, 56, 57, 58, 59, 60, 61, 62, 63, 64, 65, 66, 67, 68, 69] rfl rfl rfl (by decide) (by decide) (fun u H locs hw9 hP hD hS => ?_)
  have hP : va_P g.1 vwCl ((nX g aN hw wx wy ad q s0.1 f s0.2 sl9 0 h 1 ++ mX g aM bM bz) ++ plW LW wv) H := hP
  have hD : va_D (fun q : Nat => s.heap.size ≤ q) ((nX g aN hw wx wy ad q s0.1 f s0.2 sl9 0 h 1 ++ mX g aM bM bz) ++ plW LW wv) := hD
  refine lv_goto (tgt := 444) hx hb dL_law_176 (by decide) ?_
  refine W.widen (k := 70 + (mu s0.1 - 2432) + (jj + 1)) (n := 94930 + (mu s0.1 - 2432) + 4 * (jj + 1)) (by omega) (by omega) ?_
  exact kk _ _ _ _ _ _ _ _ _ _ _ _ _ _ _ _ _ _ hz hsl HR2 (by omega) hP hD hS hl
