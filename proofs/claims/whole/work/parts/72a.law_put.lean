set_option maxHeartbeats 4000000 in
set_option maxRecDepth 100000 in
theorem law_put {p : Program} {l : Launch} {e : Env} {s : State} {m : MethodId} {below : List Frame} {meth : Method} {c : Code} {b L : Nat} {xs : Nat → Int32} {g : CX} {aN aM : Nat} {x3 : Int32} {jj N9 N2 : Nat} (hN9 : 9000 < N9) (hN2 : 64 < N2) (C0 : lw_At p s m meth c b L xs) (hK : KK g s) (hj : jj < 512) (h1 : vp_in (x3 + 1) L) (h2 : vp_in (x3 + 2) L) (h3 : vp_in (x3 + 3) L) (h4 : vp_in (x3 + 4) L) (kk : KON p l e s m below meth c b g aN aM 444 x3 (jj + 1)) : KON p l e s m below meth c b g aN aM 92 x3 jj := by
  obtain ⟨hx, hb, hr, hml, hown9, hts, hX, hbl, hlocks, hgv⟩ := C0
  have hown : s.vm.findClass "NodeMakerLaw" = some m.cls := hown9
  have ht : ∀ w ∈ wT, w.before #[Value.ref b] s = true := fun w h => hts w (List.mem_filter.mp h).1
  have hA : ∀ q : Nat, s.heap.size ≤ q → (fun q : Nat => s.heap.size ≤ q) q := fun _ h => h
  have hbA : ¬ (fun q : Nat => s.heap.size ≤ q) b := Nat.not_le.mpr hbl
  intro hw wx wy ad q f s0 sl cnt h st LW wv bM mz H locs ls hz hsl HR hmu hP hD hS hl
  refine lv_aload_n hx hb dL_law_92 rfl (lv_at hl 1 rfl) ?_
  refine lv_aload_n hx hb dL_law_93 rfl (lv_at hl 0 rfl) ?_
  refine lv_iload_n hx hb dL_law_94 rfl (lv_at hl 3 rfl) ?_
  refine lv_iconst (v := 1) hx hb dL_law_95 (by decide) ?_
  refine lv_iadd hx hb dL_law_96 ?_
  refine va_sld hx hb hX hbl hbA hS h1 dL_law_97 ?_
  refine lv_aload_n hx hb dL_law_98 rfl (lv_at hl 0 rfl) ?_
  refine lv_iload_n hx hb dL_law_99 rfl (lv_at hl 3 rfl) ?_
  refine lv_iconst (v := 2) hx hb dL_law_100 (by decide) ?_
  refine lv_iadd hx hb dL_law_101 ?_
  refine va_sld hx hb hX hbl hbA hS h2 dL_law_102 ?_
  refine lv_aload_n hx hb dL_law_103 rfl (lv_at hl 0 rfl) ?_
  refine lv_iload_n hx hb dL_law_104 rfl (lv_at hl 3 rfl) ?_
  refine lv_iconst (v := 3) hx hb dL_law_105 (by decide) ?_
  refine lv_iadd hx hb dL_law_106 ?_
  refine va_sld hx hb hX hbl hbA hS h3 dL_law_107 ?_
  refine lv_aload_n hx hb dL_law_108 rfl (lv_at hl 0 rfl) ?_
  refine lv_iload_n hx hb dL_law_109 rfl (lv_at hl 3 rfl) ?_
  refine lv_iconst (v := 4) hx hb dL_law_110 (by decide) ?_
  refine lv_iadd hx hb dL_law_111 ?_
  refine va_sld hx hb hX hbl hbA hS h4 dL_law_112 ?_
  obtain ⟨bz, eR, HR2⟩ := callPut (N9 := N9) HR hN9 (xs (x3 + 1).toNatClampNeg) (xs (x3 + 2).toNatClampNeg) (xs (x3 + 3).toNatClampNeg) (xs (x3 + 4).toNatClampNeg)
  have hmb := (rows_cps hz).mu
  have hPt : va_P g.1 vwCl (nX g aN hw wx wy ad q s0.1 f s0.2 sl cnt h st ++ plW LW wv) H := pl_P hP [0, 1, 2, 3, 4, 5, 6, 7, 8, 9, 10, 11, 12, 13, 14, 15, 16, 17, 18, 19, 20, 21, 22, 23, 24, 25, 26, 27, 28, 29, 30, 31, 32, 33, 34, 35, 36, 37, 38, 39, 40, 41, 42, 43, 44] rfl
  have hDt : va_D (fun q : Nat => s.heap.size ≤ q) (nX g aN hw wx wy ad q s0.1 f s0.2 sl cnt h st ++ plW LW wv) := pl_D hD [0, 1, 2, 3, 4, 5, 6, 7, 8, 9, 10, 11, 12, 13, 14, 15, 16, 17, 18, 19, 20, 21, 22, 23, 24, 25, 26, 27, 28, 29, 30, 31, 32, 33, 34, 35, 36, 37, 38, 39, 40, 41, 42, 43, 44] (by decide) rfl
  refine rw_iP (X := nX g aN hw wx wy ad q s0.1 f s0.2 sl cnt h st ++ mX g aM bM mz) (pl := plW LW wv) (cx := nX g aN hw wx wy ad q s0.1 f s0.2 sl cnt h st) (rx := fun (u : ((Nat → Nat) × (Nat → Nat → Int32)) × List Nat × (Nat → WV) × (Nat → Option Nat)) => nX g aN hw wx wy ad u.1.1 s0.1 u.1.2 s0.2 u.2.2.2 (if sN_put (wOf sl wv) (xs (x3 + 1).toNatClampNeg) (xs (x3 + 2).toNatClampNeg) (xs (x3 + 3).toNatClampNeg) (xs (x3 + 4).toNatClampNeg) = -1 then cnt else cnt + 1) h (if sN_bad (xs (x3 + 1).toNatClampNeg) (xs (x3 + 2).toNatClampNeg) (xs (x3 + 3).toNatClampNeg) (xs (x3 + 4).toNatClampNeg) = 0 then (if st = 0 then (if sN_put (wOf sl wv) (xs (x3 + 1).toNatClampNeg) (xs (x3 + 2).toNatClampNeg) (xs (x3 + 3).toNatClampNeg) (xs (x3 + 4).toNatClampNeg) = -1 then 0 else 1) else 1) else st : Int32)) (pl1 := fun u => plW u.2.1 u.2.2.1) (wr := mX g aM bM mz) (va_runV (As := [.int (xs (x3 + 1).toNatClampNeg), .int (xs (x3 + 2).toNatClampNeg), .int (xs (x3 + 3).toNatClampNeg), .int (xs (x3 + 4).toNatClampNeg)]) (rest := []) ⟨hx, hb, hml, hown, ht⟩ (cN_put l g H.size aN hw wx wy ad q f s0 sl cnt h st LW wv hz hsl (xs (x3 + 1).toNatClampNeg) (xs (x3 + 2).toNatClampNeg) (xs (x3 + 3).toNatClampNeg) (xs (x3 + 4).toNatClampNeg)) (cwV 4 ht (g_V q_167 q_168 q_169 q_34 q_170) rfl rfl rfl hd_N_put ⟨Nat.le_of_ble_eq_true rfl, Nat.le_of_ble_eq_true rfl⟩) (rw_V hK hPt hDt (va_recv hK.1 hPt (ci := 5) (q0 := 0) rfl rfl)) rfl rfl hl.1 rfl (lv_room (Nat.le_of_ble_eq_true rfl)) dL_law_113 ⟨by show _ + _ ≤ 600000; omega, by show _ + _ ≤ 7302250; omega⟩) hP hD hS hA [0, 1, 2, 3, 4, 5, 6, 7, 8, 9, 10, 11, 12, 13, 14, 15, 16, 17, 18, 19, 20, 21, 22, 23, 24, 25, 26, 27, 28, 29, 30, 31, 32, 33, 34, 35, 36, 37, 38, 39, 40, 41, 42, 43, 44] [45, 46, 47, 48, 49, 50, 51, 52, 53, 54, 55, 56, 57, 58, 59, 60, 61, 62, 63, 64, 65, 66, 67, 68, 69] rfl rfl (by decide) (by decide) (fun r1 u H locs hw9 hP hD hS => ?_)
  obtain ⟨⟨q, f⟩, LW9, wv9, sl9⟩ := u
  obtain ⟨hr9, hz, hsl, hwo⟩ := hw9
  have HR2 : REL (wOf sl9 wv9) s0 h (if sN_bad (xs (x3 + 1).toNatClampNeg) (xs (x3 + 2).toNatClampNeg) (xs (x3 + 3).toNatClampNeg) (xs (x3 + 4).toNatClampNeg) = 0 then (if st = 0 then (if sN_put (wOf sl wv) (xs (x3 + 1).toNatClampNeg) (xs (x3 + 2).toNatClampNeg) (xs (x3 + 3).toNatClampNeg) (xs (x3 + 4).toNatClampNeg) = -1 then 0 else 1) else 1) else st : Int32) (if sN_put (wOf sl wv) (xs (x3 + 1).toNatClampNeg) (xs (x3 + 2).toNatClampNeg) (xs (x3 + 3).toNatClampNeg) (xs (x3 + 4).toNatClampNeg) = -1 then cnt else cnt + 1) hw wx wy bz := by rw [show wOf sl9 wv9 = _ from hwo]; exact HR2
  have hP : va_P g.1 vwCl ((mX g aM bM mz ++ nX g aN hw wx wy ad q s0.1 f s0.2 sl9 (if sN_put (wOf sl wv) (xs (x3 + 1).toNatClampNeg) (xs (x3 + 2).toNatClampNeg) (xs (x3 + 3).toNatClampNeg) (xs (x3 + 4).toNatClampNeg) = -1 then cnt else cnt + 1) h (if sN_bad (xs (x3 + 1).toNatClampNeg) (xs (x3 + 2).toNatClampNeg) (xs (x3 + 3).toNatClampNeg) (xs (x3 + 4).toNatClampNeg) = 0 then (if st = 0 then (if sN_put (wOf sl wv) (xs (x3 + 1).toNatClampNeg) (xs (x3 + 2).toNatClampNeg) (xs (x3 + 3).toNatClampNeg) (xs (x3 + 4).toNatClampNeg) = -1 then 0 else 1) else 1) else st : Int32)) ++ plW LW9 wv9) H := hP
  have hD : va_D (fun q : Nat => s.heap.size ≤ q) ((mX g aM bM mz ++ nX g aN hw wx wy ad q s0.1 f s0.2 sl9 (if sN_put (wOf sl wv) (xs (x3 + 1).toNatClampNeg) (xs (x3 + 2).toNatClampNeg) (xs (x3 + 3).toNatClampNeg) (xs (x3 + 4).toNatClampNeg) = -1 then cnt else cnt + 1) h (if sN_bad (xs (x3 + 1).toNatClampNeg) (xs (x3 + 2).toNatClampNeg) (xs (x3 + 3).toNatClampNeg) (xs (x3 + 4).toNatClampNeg) = 0 then (if st = 0 then (if sN_put (wOf sl wv) (xs (x3 + 1).toNatClampNeg) (xs (x3 + 2).toNatClampNeg) (xs (x3 + 3).toNatClampNeg) (xs (x3 + 4).toNatClampNeg) = -1 then 0 else 1) else 1) else st : Int32)) ++ plW LW9 wv9) := hD
  refine lv_aload_n hx hb dL_law_116 rfl (lv_at hl 2 rfl) ?_
  refine lv_aload_n hx hb dL_law_117 rfl (lv_at hl 0 rfl) ?_
  refine lv_iload_n hx hb dL_law_118 rfl (lv_at hl 3 rfl) ?_
  refine lv_iconst (v := 1) hx hb dL_law_119 (by decide) ?_
  refine lv_iadd hx hb dL_law_120 ?_
  refine va_sld hx hb hX hbl hbA hS h1 dL_law_121 ?_
  refine lv_aload_n hx hb dL_law_122 rfl (lv_at hl 0 rfl) ?_
  refine lv_iload_n hx hb dL_law_123 rfl (lv_at hl 3 rfl) ?_
  refine lv_iconst (v := 2) hx hb dL_law_124 (by decide) ?_
  refine lv_iadd hx hb dL_law_125 ?_
  refine va_sld hx hb hX hbl hbA hS h2 dL_law_126 ?_
  refine lv_aload_n hx hb dL_law_127 rfl (lv_at hl 0 rfl) ?_
  refine lv_iload_n hx hb dL_law_128 rfl (lv_at hl 3 rfl) ?_
  refine lv_iconst (v := 3) hx hb dL_law_129 (by decide) ?_
  refine lv_iadd hx hb dL_law_130 ?_
  refine va_sld hx hb hX hbl hbA hS h3 dL_law_131 ?_
  refine lv_aload_n hx hb dL_law_132 rfl (lv_at hl 0 rfl) ?_
  refine lv_iload_n hx hb dL_law_133 rfl (lv_at hl 3 rfl) ?_
  refine lv_iconst (v := 4) hx hb dL_law_134 (by decide) ?_
  refine lv_iadd hx hb dL_law_135 ?_
  refine va_sld hx hb hX hbl hbA hS h4 dL_law_136 ?_
  have hPt : va_P g.1 vwCl (mX g aM bM mz) H := hP.sub [0, 1, 2, 3, 4, 5, 6, 7, 8, 9, 10, 11, 12, 13, 14, 15, 16, 17, 18, 19, 20, 21, 22, 23, 24] rfl
  have hDt : va_D (fun q : Nat => s.heap.size ≤ q) (mX g aM bM mz) := hD.sub [0, 1, 2, 3, 4, 5, 6, 7, 8, 9, 10, 11, 12, 13, 14, 15, 16, 17, 18, 19, 20, 21, 22, 23, 24] (by decide) rfl
  refine rw_iQ (X := mX g aM bM mz ++ nX g aN hw wx wy ad q s0.1 f s0.2 sl9 (if sN_put (wOf sl wv) (xs (x3 + 1).toNatClampNeg) (xs (x3 + 2).toNatClampNeg) (xs (x3 + 3).toNatClampNeg) (xs (x3 + 4).toNatClampNeg) = -1 then cnt else cnt + 1) h (if sN_bad (xs (x3 + 1).toNatClampNeg) (xs (x3 + 2).toNatClampNeg) (xs (x3 + 3).toNatClampNeg) (xs (x3 + 4).toNatClampNeg) = 0 then (if st = 0 then (if sN_put (wOf sl wv) (xs (x3 + 1).toNatClampNeg) (xs (x3 + 2).toNatClampNeg) (xs (x3 + 3).toNatClampNeg) (xs (x3 + 4).toNatClampNeg) = -1 then 0 else 1) else 1) else st : Int32)) (pl := plW LW9 wv9) (wc := mX g aM bM mz) (wr := nX g aN hw wx wy ad q s0.1 f s0.2 sl9 (if sN_put (wOf sl wv) (xs (x3 + 1).toNatClampNeg) (xs (x3 + 2).toNatClampNeg) (xs (x3 + 3).toNatClampNeg) (xs (x3 + 4).toNatClampNeg) = -1 then cnt else cnt + 1) h (if sN_bad (xs (x3 + 1).toNatClampNeg) (xs (x3 + 2).toNatClampNeg) (xs (x3 + 3).toNatClampNeg) (xs (x3 + 4).toNatClampNeg) = 0 then (if st = 0 then (if sN_put (wOf sl wv) (xs (x3 + 1).toNatClampNeg) (xs (x3 + 2).toNatClampNeg) (xs (x3 + 3).toNatClampNeg) (xs (x3 + 4).toNatClampNeg) = -1 then 0 else 1) else 1) else st : Int32)) (w1 := fun _ => mX g aM bM (bz, sN_put (wOf sl wv) (xs (x3 + 1).toNatClampNeg) (xs (x3 + 2).toNatClampNeg) (xs (x3 + 3).toNatClampNeg) (xs (x3 + 4).toNatClampNeg)).1) (va_runV (As := [.int (xs (x3 + 1).toNatClampNeg), .int (xs (x3 + 2).toNatClampNeg), .int (xs (x3 + 3).toNatClampNeg), .int (xs (x3 + 4).toNatClampNeg)]) (rest := [.int r1]) ⟨hx, hb, hml, hown, ht⟩ (cM_put l g H.size aM bM mz (xs (x3 + 1).toNatClampNeg) (xs (x3 + 2).toNatClampNeg) (xs (x3 + 3).toNatClampNeg) (xs (x3 + 4).toNatClampNeg) N9 (bz, sN_put (wOf sl wv) (xs (x3 + 1).toNatClampNeg) (xs (x3 + 2).toNatClampNeg) (xs (x3 + 3).toNatClampNeg) (xs (x3 + 4).toNatClampNeg)) eR) (cwV 4 ht (g_V q_639 q_640 q_641 q_39 q_642) rfl rfl rfl hd_M_put ⟨Nat.le_of_ble_eq_true rfl, Nat.le_of_ble_eq_true rfl⟩) (rw_V hK hPt hDt (va_recv hK.1 hPt (ci := 6) (q0 := 0) rfl rfl)) rfl rfl hl.1 rfl (lv_room (Nat.le_of_ble_eq_true rfl)) dL_law_137 ⟨by show _ + 0 ≤ 600000; omega, by show _ + 0 ≤ 7302250; omega⟩) hP hD hS hA [0, 1, 2, 3, 4, 5, 6, 7, 8, 9, 10, 11, 12, 13, 14, 15, 16, 17, 18, 19, 20, 21, 22, 23, 24] [25, 26, 27, 28, 29, 30, 31, 32, 33, 34, 35, 36, 37, 38, 39, 40, 41, 42, 43, 44, 45, 46, 47, 48, 49, 50, 51, 52, 53, 54, 55, 56, 57, 58, 59, 60, 61, 62, 63, 64, 65, 66, 67, 68, 69] rfl rfl rfl (by decide) (by decide) (fun r u H locs hw9 hP hD hS => ?_)
  have hP : va_P g.1 vwCl ((nX g aN hw wx wy ad q s0.1 f s0.2 sl9 (if sN_put (wOf sl wv) (xs (x3 + 1).toNatClampNeg) (xs (x3 + 2).toNatClampNeg) (xs (x3 + 3).toNatClampNeg) (xs (x3 + 4).toNatClampNeg) = -1 then cnt else cnt + 1) h (if sN_bad (xs (x3 + 1).toNatClampNeg) (xs (x3 + 2).toNatClampNeg) (xs (x3 + 3).toNatClampNeg) (xs (x3 + 4).toNatClampNeg) = 0 then (if st = 0 then (if sN_put (wOf sl wv) (xs (x3 + 1).toNatClampNeg) (xs (x3 + 2).toNatClampNeg) (xs (x3 + 3).toNatClampNeg) (xs (x3 + 4).toNatClampNeg) = -1 then 0 else 1) else 1) else st : Int32) ++ mX g aM bM bz) ++ plW LW9 wv9) H := hP
  have hD : va_D (fun q : Nat => s.heap.size ≤ q) ((nX g aN hw wx wy ad q s0.1 f s0.2 sl9 (if sN_put (wOf sl wv) (xs (x3 + 1).toNatClampNeg) (xs (x3 + 2).toNatClampNeg) (xs (x3 + 3).toNatClampNeg) (xs (x3 + 4).toNatClampNeg) = -1 then cnt else cnt + 1) h (if sN_bad (xs (x3 + 1).toNatClampNeg) (xs (x3 + 2).toNatClampNeg) (xs (x3 + 3).toNatClampNeg) (xs (x3 + 4).toNatClampNeg) = 0 then (if st = 0 then (if sN_put (wOf sl wv) (xs (x3 + 1).toNatClampNeg) (xs (x3 + 2).toNatClampNeg) (xs (x3 + 3).toNatClampNeg) (xs (x3 + 4).toNatClampNeg) = -1 then 0 else 1) else 1) else st : Int32) ++ mX g aM bM bz) ++ plW LW9 wv9) := hD
  have hr8 : r = sN_put (wOf sl wv) (xs (x3 + 1).toNatClampNeg) (xs (x3 + 2).toNatClampNeg) (xs (x3 + 3).toNatClampNeg) (xs (x3 + 4).toNatClampNeg) := hw9
  have hr9 : r1 = sN_put (wOf sl wv) (xs (x3 + 1).toNatClampNeg) (xs (x3 + 2).toNatClampNeg) (xs (x3 + 3).toNatClampNeg) (xs (x3 + 4).toNatClampNeg) := hr9
  subst hr9
  subst hr8
  refine lv_icmp_eq (tgt := 444) hx hb dL_law_140 (by decide) (fun _ => ?_) (fun c9 => absurd rfl c9)
  refine W.widen (k := 70 + (mu s0.1 - 2432) + (jj + 1)) (n := 94930 + (mu s0.1 - 2432) + 4 * (jj + 1)) (by omega) (by omega) ?_
  exact kk _ _ _ _ _ _ _ _ _ _ _ _ _ _ _ _ _ _ hz hsl HR2 (by omega) hP hD hS hl
