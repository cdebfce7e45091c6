def PlantOK (l : Launch) (g : CX) (D : Nat) : Prop := ∀ (sz : Nat) (ad q : Nat → Nat) (f : Nat → Nat → Int32) (s0 : TSt) (sl : Nat → Option Nat) (cnt h st : Int32) (LW : List Nat) (wv : Nat → WV) (hz : rowsT s0.1 f s0.2) (hsl : slOK sl LW) (fr dep : Nat) (hfr : fr ≤ 4096) (hdep : dep + D = 64), Met l yT_plant (wm yT_plant kT_plant 6 (some .int)) ({ frames := 5 + D, cells := (mu ((sPl (wOf sl wv) D fr s0 h).1).1 - mu s0.1), slots := (mu ((sPl (wOf sl wv) D fr s0 h).1).1 - mu s0.1), locals := 158 + 25 * D }) (rw g [.ref (ad 0), .int (nI fr), .int (nI dep)] (TW g ad q s0.1 f s0.2 sl cnt h st LW wv) sz) (va_Qi (fun (r : Int32) (u : (Nat → Nat) × (Nat → Nat → Int32)) => r = (sPl (wOf sl wv) D fr s0 h).2.2 ∧ rowsT ((sPl (wOf sl wv) D fr s0 h).1).1 u.2 ((sPl (wOf sl wv) D fr s0 h).1).2) (rB g (va_A (TW g ad q s0.1 f s0.2 sl cnt h st LW wv) sz) (fun u => (TW g ad u.1 ((sPl (wOf sl wv) D fr s0 h).1).1 u.2 ((sPl (wOf sl wv) D fr s0 h).1).2 sl cnt ((sPl (wOf sl wv) D fr s0 h).2.1) st LW wv))) (va_A (TW g ad q s0.1 f s0.2 sl cnt h st LW wv) sz)) (mu ((sPl (wOf sl wv) D fr s0 h).1).1 - mu s0.1) (mu ((sPl (wOf sl wv) D fr s0 h).1).1 - mu s0.1) (va_A (TW g ad q s0.1 f s0.2 sl cnt h st LW wv) sz)
set_option maxHeartbeats 4000000 in
set_option maxRecDepth 100000 in
theorem plant_0 (l : Launch) (g : CX) : PlantOK l g 0 := by
  intro sz ad q f s0 sl cnt h st LW wv hz hsl fr dep hfr hdep
  refine Met.ofW (cc := kT_plant) (maxL := 6) (ret := (some .int)) (by decide) rfl ?_
  intro p e s m args below meth c s₁ B hml hv
  obtain ⟨rfl, hsz, hK, hP, hD0⟩ := hv
  have hx := B.exec
  have hb := B.bytes
  have hr := B.returns
  have ht : ∀ w ∈ wT, w.before _ s = true := fun w h => atoms_spec (ws := wm yT_plant kT_plant 6 (some .int)) B.pre w (List.mem_cons_of_mem _ h)
  have hown : s.vm.findClass "NodeMaker$Tree" = some m.cls := findClass_of_methodNamed B.named
  have hlocks := B.notSynchronized
  subst hsz
  have hD := hD0.self (sz := s.heap.size)
  generalize hAe : va_A (TW g ad q s0.1 f s0.2 sl cnt h st LW wv) s.heap.size = A at hD ⊢
  have hA : ∀ q : Nat, s.heap.size ≤ q → A q := fun q h => by rw [← hAe]; exact Or.inr h
  have hS : va_S A s.heap s.heap [] := va_S.rf
  have hl := lv_entry ([.ref (ad 0), .int (nI fr), .int (nI dep)]) (n := 6) (Nat.le_of_ble_eq_true rfl)
  rw [lg_entry_eq]
  generalize (lg_sl ([.ref (ad 0), .int (nI fr), .int (nI dep)]) ++ List.replicate (6 - (lg_sl ([.ref (ad 0), .int (nI fr), .int (nI dep)])).length) Slot.unset).toArray = ls at hl ⊢
  have hl : lv_has ls 6 [(0, .ref (ad 0)), (1, .int (nI fr)), (2, .int (nI dep))] := hl
  refine lv_aload_n hx hb dT_plant_0 rfl (lv_at hl 0 rfl) ?_
  refine va_get (D := g.1) (ci := 4) (v := .ref (ad 4)) (C := "NodeMaker$Tree") (T := Fd_T) (N := 13) hx hb ht i_T hown hK.1 hP 0 rfl rfl 9 (by decide) (ht _ q_112) (fun _ h9 => h9) rfl dT_plant_1 ?_
  have hPc := hP.sub (ws' := (piW g (ad 4) (fun k => ad (16 + k)) (fun k => q (10 + k)) (fun k => s0.1 (10 + k)) (fun k => f (10 + k)) (fun k => (s0.2 (10 + k)).length))) [4, 26, 27, 28, 29, 30, 31] rfl
  refine ro_Vi (v := nI (s0.2 10).length) (As := []) (rest := []) ⟨hx, hb, hml, hown, ht⟩ (cP_count l g (ad 4) (fun k => ad (16 + k)) (fun k => q (10 + k)) (fun k => s0.1 (10 + k)) (fun k => f (10 + k)) (fun k => s0.2 (10 + k)) (rows_3 10 (by decide) hz) ) (cwV 0 ht (g_V q_300 q_301 q_302 q_36 q_303) rfl rfl rfl hd_P_count ⟨by show 1 + 1 ≤ 5 + 0; omega, by show 8 + (1 + 11) + 20 ≤ 158 + 25 * 0; omega⟩) hK (hPc) (va_recv hK.1 hPc (ci := 1) (q0 := 0) rfl rfl) rfl hl.1 rfl (Nat.le_of_ble_eq_true rfl) dT_plant_4 ⟨by show 0 ≤ (mu ((sPl (wOf sl wv) 0 fr s0 h).1).1 - mu s0.1); omega, by show 0 ≤ (mu ((sPl (wOf sl wv) 0 fr s0 h).1).1 - mu s0.1); omega⟩ ?_
  refine lv_iload_n hx hb dT_plant_7 rfl (lv_at hl 1 rfl) ?_
  refine lv_icmp_le (tgt := 17) hx hb dT_plant_8 (by decide) (fun c_1 => ?_) (fun c_1 => ?_)
  · skip
    refine lv_aload_n hx hb dT_plant_17 rfl (lv_at hl 0 rfl) ?_
    refine va_get (D := g.1) (ci := 4) (v := .ref (ad 4)) (C := "NodeMaker$Tree") (T := Fd_T) (N := 13) hx hb ht i_T hown hK.1 hP 0 rfl rfl 9 (by decide) (ht _ q_112) (fun _ h9 => h9) rfl dT_plant_18 ?_
    refine lv_iload_n hx hb dT_plant_21 rfl (lv_at hl 1 rfl) ?_
    refine tp_cut_10 ⟨hx, hb, hml, hown, ht⟩ q_268 ⟨by show 1 + 1 ≤ 5 + 0; omega, by show 8 + (2 + 11) + 21 ≤ 158 + 25 * 0; omega⟩ hK hz hP hD hS hA hl.1 (Nat.le_of_ble_eq_true rfl) dT_plant_22 ⟨by show 0 + 0 ≤ (mu ((sPl (wOf sl wv) 0 fr s0 h).1).1 - mu s0.1); omega, by show 0 + 0 ≤ (mu ((sPl (wOf sl wv) 0 fr s0 h).1).1 - mu s0.1); omega⟩ (fun q f H locs hz hP hD hS => ?_)
    have hz : rowsT (pCut 10 (nI fr) s0).1 f (pCut 10 (nI fr) s0).2 := hz
    have hP : va_P g.1 vwCl (TW g ad q (pCut 10 (nI fr) s0).1 f (pCut 10 (nI fr) s0).2 sl cnt h st LW wv) H := hP
    have hD : va_D A (TW g ad q (pCut 10 (nI fr) s0).1 f (pCut 10 (nI fr) s0).2 sl cnt h st LW wv) := hD
    refine lv_iconst (v := -1) hx hb dT_plant_25 (by decide) ?_
    have hEF : (sPl (wOf sl wv) 0 fr s0 h) = (pCut 10 (nI fr) s0, h, -1) := rfl
    have hz9 : rowsT ((sPl (wOf sl wv) 0 fr s0 h).1).1 f ((sPl (wOf sl wv) 0 fr s0 h).1).2 := by rw [hEF]; exact hz
    have hP9 : va_P g.1 vwCl (TW g ad q ((sPl (wOf sl wv) 0 fr s0 h).1).1 f ((sPl (wOf sl wv) 0 fr s0 h).1).2 sl cnt (sPl (wOf sl wv) 0 fr s0 h).2.1 st LW wv) H := by rw [hEF]; exact hP
    have hD9 : va_D A (TW g ad q ((sPl (wOf sl wv) 0 fr s0 h).1).1 f ((sPl (wOf sl wv) 0 fr s0 h).1).2 sl cnt (sPl (wOf sl wv) 0 fr s0 h).2.1 st LW wv) := by rw [hEF]; exact hD
    have hmF : mu ((sPl (wOf sl wv) 0 fr s0 h).1).1 = mu (pCut 10 (nI fr) s0).1 := by rw [hEF]
    refine W.widen (k := (mu ((sPl (wOf sl wv) 0 fr s0 h).1).1 - mu s0.1)) (n := (mu ((sPl (wOf sl wv) 0 fr s0 h).1).1 - mu s0.1)) (by omega) (by omega) ?_
    exact W.iret hx hb hr (fun t ht9 hW => ⟨⟨_, (q, f), rfl, ⟨by rw [hEF], hz9⟩, by rw [ht9]; exact hP9, hD9⟩, hS.F ht9⟩) hS.2.2 dT_plant_26
  · skip
    refine lv_iload_n hx hb dT_plant_11 rfl (lv_at hl 2 rfl) ?_
    refine lv_bipush (v := 64) hx hb dT_plant_12 (by decide) ?_
    refine lv_icmp_lt (tgt := 27) hx hb dT_plant_14 (by decide) (fun c_2 => ?_) (fun c_2 => ?_)
    · skip
      exact absurd ((nI_ltI (b := 64) (by omega) (by decide)).mp c_2) (by omega)
    · skip
      refine lv_aload_n hx hb dT_plant_17 rfl (lv_at hl 0 rfl) ?_
      refine va_get (D := g.1) (ci := 4) (v := .ref (ad 4)) (C := "NodeMaker$Tree") (T := Fd_T) (N := 13) hx hb ht i_T hown hK.1 hP 0 rfl rfl 9 (by decide) (ht _ q_112) (fun _ h9 => h9) rfl dT_plant_18 ?_
      refine lv_iload_n hx hb dT_plant_21 rfl (lv_at hl 1 rfl) ?_
      refine tp_cut_10 ⟨hx, hb, hml, hown, ht⟩ q_268 ⟨by show 1 + 1 ≤ 5 + 0; omega, by show 8 + (2 + 11) + 21 ≤ 158 + 25 * 0; omega⟩ hK hz hP hD hS hA hl.1 (Nat.le_of_ble_eq_true rfl) dT_plant_22 ⟨by show 0 + 0 ≤ (mu ((sPl (wOf sl wv) 0 fr s0 h).1).1 - mu s0.1); omega, by show 0 + 0 ≤ (mu ((sPl (wOf sl wv) 0 fr s0 h).1).1 - mu s0.1); omega⟩ (fun q f H locs hz hP hD hS => ?_)
      have hz : rowsT (pCut 10 (nI fr) s0).1 f (pCut 10 (nI fr) s0).2 := hz
      have hP : va_P g.1 vwCl (TW g ad q (pCut 10 (nI fr) s0).1 f (pCut 10 (nI fr) s0).2 sl cnt h st LW wv) H := hP
      have hD : va_D A (TW g ad q (pCut 10 (nI fr) s0).1 f (pCut 10 (nI fr) s0).2 sl cnt h st LW wv) := hD
      refine lv_iconst (v := -1) hx hb dT_plant_25 (by decide) ?_
      have hEF : (sPl (wOf sl wv) 0 fr s0 h) = (pCut 10 (nI fr) s0, h, -1) := rfl
      have hz9 : rowsT ((sPl (wOf sl wv) 0 fr s0 h).1).1 f ((sPl (wOf sl wv) 0 fr s0 h).1).2 := by rw [hEF]; exact hz
      have hP9 : va_P g.1 vwCl (TW g ad q ((sPl (wOf sl wv) 0 fr s0 h).1).1 f ((sPl (wOf sl wv) 0 fr s0 h).1).2 sl cnt (sPl (wOf sl wv) 0 fr s0 h).2.1 st LW wv) H := by rw [hEF]; exact hP
      have hD9 : va_D A (TW g ad q ((sPl (wOf sl wv) 0 fr s0 h).1).1 f ((sPl (wOf sl wv) 0 fr s0 h).1).2 sl cnt (sPl (wOf sl wv) 0 fr s0 h).2.1 st LW wv) := by rw [hEF]; exact hD
      have hmF : mu ((sPl (wOf sl wv) 0 fr s0 h).1).1 = mu (pCut 10 (nI fr) s0).1 := by rw [hEF]
      refine W.widen (k := (mu ((sPl (wOf sl wv) 0 fr s0 h).1).1 - mu s0.1)) (n := (mu ((sPl (wOf sl wv) 0 fr s0 h).1).1 - mu s0.1)) (by omega) (by omega) ?_
      exact W.iret hx hb hr (fun t ht9 hW => ⟨⟨_, (q, f), rfl, ⟨by rw [hEF], hz9⟩, by rw [ht9]; exact hP9, hD9⟩, hS.F ht9⟩) hS.2.2 dT_plant_26
set_option maxHeartbeats 4000000 in
set_option maxRecDepth 100000 in
theorem plant_S (l : Launch) (g : CX) (D : Nat) (IH : PlantOK l g D) : PlantOK l g (D + 1) := by
  intro sz ad q f s0 sl cnt h st LW wv hz hsl fr dep hfr hdep
  refine Met.ofW (cc := kT_plant) (maxL := 6) (ret := (some .int)) (by decide) rfl ?_
  intro p e s m args below meth c s₁ B hml hv
  obtain ⟨rfl, hsz, hK, hP, hD0⟩ := hv
  have hx := B.exec
  have hb := B.bytes
  have hr := B.returns
  have ht : ∀ w ∈ wT, w.before _ s = true := fun w h => atoms_spec (ws := wm yT_plant kT_plant 6 (some .int)) B.pre w (List.mem_cons_of_mem _ h)
  have hown : s.vm.findClass "NodeMaker$Tree" = some m.cls := findClass_of_methodNamed B.named
  have hlocks := B.notSynchronized
  subst hsz
  have hD := hD0.self (sz := s.heap.size)
  generalize hAe : va_A (TW g ad q s0.1 f s0.2 sl cnt h st LW wv) s.heap.size = A at hD ⊢
  have hA : ∀ q : Nat, s.heap.size ≤ q → A q := fun q h => by rw [← hAe]; exact Or.inr h
  have hS : va_S A s.heap s.heap [] := va_S.rf
  have hl := lv_entry ([.ref (ad 0), .int (nI fr), .int (nI dep)]) (n := 6) (Nat.le_of_ble_eq_true rfl)
  rw [lg_entry_eq]
  generalize (lg_sl ([.ref (ad 0), .int (nI fr), .int (nI dep)]) ++ List.replicate (6 - (lg_sl ([.ref (ad 0), .int (nI fr), .int (nI dep)])).length) Slot.unset).toArray = ls at hl ⊢
  have hl : lv_has ls 6 [(0, .ref (ad 0)), (1, .int (nI fr)), (2, .int (nI dep))] := hl
  have hlen := rowsT_lt hz 10 (by decide)
  refine lv_aload_n hx hb dT_plant_0 rfl (lv_at hl 0 rfl) ?_
  refine va_get (D := g.1) (ci := 4) (v := .ref (ad 4)) (C := "NodeMaker$Tree") (T := Fd_T) (N := 13) hx hb ht i_T hown hK.1 hP 0 rfl rfl 9 (by decide) (ht _ q_112) (fun _ h9 => h9) rfl dT_plant_1 ?_
  have hPc := hP.sub (ws' := (piW g (ad 4) (fun k => ad (16 + k)) (fun k => q (10 + k)) (fun k => s0.1 (10 + k)) (fun k => f (10 + k)) (fun k => (s0.2 (10 + k)).length))) [4, 26, 27, 28, 29, 30, 31] rfl
  refine ro_Vi (v := nI (s0.2 10).length) (As := []) (rest := []) ⟨hx, hb, hml, hown, ht⟩ (cP_count l g (ad 4) (fun k => ad (16 + k)) (fun k => q (10 + k)) (fun k => s0.1 (10 + k)) (fun k => f (10 + k)) (fun k => s0.2 (10 + k)) (rows_3 10 (by decide) hz) ) (cwV 0 ht (g_V q_300 q_301 q_302 q_36 q_303) rfl rfl rfl hd_P_count ⟨by show 1 + 1 ≤ 5 + (D + 1); omega, by show 8 + (1 + 11) + 20 ≤ 158 + 25 * (D + 1); omega⟩) hK (hPc) (va_recv hK.1 hPc (ci := 1) (q0 := 0) rfl rfl) rfl hl.1 rfl (Nat.le_of_ble_eq_true rfl) dT_plant_4 ⟨by show 0 ≤ (mu ((sPl (wOf sl wv) (D + 1) fr s0 h).1).1 - mu s0.1); omega, by show 0 ≤ (mu ((sPl (wOf sl wv) (D + 1) fr s0 h).1).1 - mu s0.1); omega⟩ ?_
  refine lv_iload_n hx hb dT_plant_7 rfl (lv_at hl 1 rfl) ?_
  refine lv_icmp_le (tgt := 17) hx hb dT_plant_8 (by decide) (fun c_3 => ?_) (fun c_3 => ?_)
  · skip
    have he : (s0.2 10).length ≤ fr := (nI_leI (by omega) (by omega)).mp c_3
    have hEF : (sPl (wOf sl wv) (D + 1) fr s0 h) = (pCut 10 (nI fr) s0, h, -1) := sPl_e he
    have hmz : mu s0.1 ≤ mu (sPl (wOf sl wv) (D + 1) fr s0 h).1.1 := sPl_mono _ _ _ _ _
    refine lv_aload_n hx hb dT_plant_17 rfl (lv_at hl 0 rfl) ?_
    refine va_get (D := g.1) (ci := 4) (v := .ref (ad 4)) (C := "NodeMaker$Tree") (T := Fd_T) (N := 13) hx hb ht i_T hown hK.1 hP 0 rfl rfl 9 (by decide) (ht _ q_112) (fun _ h9 => h9) rfl dT_plant_18 ?_
    refine lv_iload_n hx hb dT_plant_21 rfl (lv_at hl 1 rfl) ?_
    refine tp_cut_10 ⟨hx, hb, hml, hown, ht⟩ q_268 ⟨by show 1 + 1 ≤ 5 + (D + 1); omega, by show 8 + (2 + 11) + 21 ≤ 158 + 25 * (D + 1); omega⟩ hK hz hP hD hS hA hl.1 (Nat.le_of_ble_eq_true rfl) dT_plant_22 ⟨by show 0 + 0 ≤ (mu ((sPl (wOf sl wv) (D + 1) fr s0 h).1).1 - mu s0.1); omega, by show 0 + 0 ≤ (mu ((sPl (wOf sl wv) (D + 1) fr s0 h).1).1 - mu s0.1); omega⟩ (fun q f H locs hz hP hD hS => ?_)
    have hz : rowsT (pCut 10 (nI fr) s0).1 f (pCut 10 (nI fr) s0).2 := hz
    have hP : va_P g.1 vwCl (TW g ad q (pCut 10 (nI fr) s0).1 f (pCut 10 (nI fr) s0).2 sl cnt h st LW wv) H := hP
    have hD : va_D A (TW g ad q (pCut 10 (nI fr) s0).1 f (pCut 10 (nI fr) s0).2 sl cnt h st LW wv) := hD
    refine lv_iconst (v := -1) hx hb dT_plant_25 (by decide) ?_
    have hz9 : rowsT ((sPl (wOf sl wv) (D + 1) fr s0 h).1).1 f ((sPl (wOf sl wv) (D + 1) fr s0 h).1).2 := by rw [hEF]; exact hz
    have hP9 : va_P g.1 vwCl (TW g ad q ((sPl (wOf sl wv) (D + 1) fr s0 h).1).1 f ((sPl (wOf sl wv) (D + 1) fr s0 h).1).2 sl cnt (sPl (wOf sl wv) (D + 1) fr s0 h).2.1 st LW wv) H := by rw [hEF]; exact hP
    have hD9 : va_D A (TW g ad q ((sPl (wOf sl wv) (D + 1) fr s0 h).1).1 f ((sPl (wOf sl wv) (D + 1) fr s0 h).1).2 sl cnt (sPl (wOf sl wv) (D + 1) fr s0 h).2.1 st LW wv) := by rw [hEF]; exact hD
    have hmF : mu ((sPl (wOf sl wv) (D + 1) fr s0 h).1).1 = mu (pCut 10 (nI fr) s0).1 := by rw [hEF]
    refine W.widen (k := (mu ((sPl (wOf sl wv) (D + 1) fr s0 h).1).1 - mu s0.1)) (n := (mu ((sPl (wOf sl wv) (D + 1) fr s0 h).1).1 - mu s0.1)) (by omega) (by omega) ?_
    exact W.iret hx hb hr (fun t ht9 hW => ⟨⟨_, (q, f), rfl, ⟨by rw [hEF], hz9⟩, by rw [ht9]; exact hP9, hD9⟩, hS.F ht9⟩) hS.2.2 dT_plant_26
  · skip
    refine lv_iload_n hx hb dT_plant_11 rfl (lv_at hl 2 rfl) ?_
    refine lv_bipush (v := 64) hx hb dT_plant_12 (by decide) ?_
    refine lv_icmp_lt (tgt := 27) hx hb dT_plant_14 (by decide) (fun c_4 => ?_) (fun c_4 => ?_)
    · skip
      have he : ¬ (s0.2 10).length ≤ fr := fun q => c_3 ((nI_leI (by omega) (by omega)).mpr q)
      have hfr2 : fr ≤ (s0.2 10).length := by omega
      have hdp : dep = 63 - D := by omega
      obtain ⟨dd, hdd⟩ : ∃ x, x = plDiv (wOf sl wv) fr dep s0 := ⟨_, rfl⟩
      obtain ⟨r1, hr1⟩ : ∃ x, x = sPl (wOf sl wv) D dd.2.toNatClampNeg dd.1 (plH dep h) := ⟨_, rfl⟩
      obtain ⟨s7, hs7⟩ : ∃ x, x = oSet 1 (nI (s0.2 0).length) r1.2.2 r1.1 := ⟨_, rfl⟩
      obtain ⟨r2, hr2⟩ : ∃ x, x = sPl (wOf sl wv) D fr s7 r1.2.1 := ⟨_, rfl⟩
      obtain ⟨s8, hs8⟩ : ∃ x, x = oSet 2 (nI (s0.2 0).length) r2.2.2 r2.1 := ⟨_, rfl⟩
      have hEF : (sPl (wOf sl wv) (D + 1) fr s0 h) = (oSet 3 (nI (s0.2 0).length) (nI (s8.2 0).length - (nI (s0.2 0).length)) s8, r2.2.1, (nI (s0.2 0).length)) := by subst hs8 hr2 hs7 hr1 hdd hdp; exact (show (if (s0.2 10).length ≤ fr then _ else _) = _ from if_neg he)
      have hm3 : mu r2.1.1 = mu (sPl (wOf sl wv) (D + 1) fr s0 h).1.1 := by rw [hEF, hs8]; rfl
      have hm2 : mu r1.1.1 ≤ mu r2.1.1 := by rw [hr2]; exact Nat.le_trans (by rw [hs7]; exact Nat.le_refl _) (sPl_mono (wOf sl wv) D fr s7 _)
      have hm1 : mu dd.1.1 ≤ mu r1.1.1 := by rw [hr1]; exact sPl_mono _ _ _ _ _
      have hm0 : mu (plNew (wOf sl wv) fr dep s0).1 ≤ mu dd.1.1 := by rw [hdd]; exact plDiv_mono _ _ _ _
      have hmn : mu (plNew (wOf sl wv) fr dep s0).1 ≤ mu (sPl (wOf sl wv) (D + 1) fr s0 h).1.1 := by omega
      have hm00 : mu s0.1 ≤ mu (plNew (wOf sl wv) fr dep s0).1 := plNew_mono _ _ _ _
      refine lv_aload_n hx hb dT_plant_27 rfl (lv_at hl 0 rfl) ?_
      refine va_get (D := g.1) (ci := 4) (v := .ref (ad 6)) (C := "NodeMaker$Tree") (T := Fd_T) (N := 13) hx hb ht i_T hown hK.1 hP 0 rfl rfl 1 (by decide) (ht _ q_104) (fun _ h9 => h9) rfl dT_plant_28 ?_
      have hPc := hP.sub (ws' := rowW g (ad 6) (q 0) (s0.1 0) (f 0) (s0.2 0).length) [6, 7] rfl
      refine ro_Vi (v := nI (s0.2 0).length) (As := []) (rest := []) ⟨hx, hb, hml, hown, ht⟩ (cR_count l g (ad 6) (q 0) (s0.1 0) (f 0) (s0.2 0)) (cwV 0 ht (g_V q_308 q_305 q_306 q_35 q_307) rfl rfl rfl hd_R_count ⟨by show 0 + 1 ≤ 5 + (D + 1); omega, by show 8 + (1 + 11) + 0 ≤ 158 + 25 * (D + 1); omega⟩) hK (hPc) (va_recv hK.1 hPc (ci := 0) (q0 := 0) rfl rfl) rfl hl.1 rfl (Nat.le_of_ble_eq_true rfl) dT_plant_31 ⟨by show 0 ≤ (mu ((sPl (wOf sl wv) (D + 1) fr s0 h).1).1 - mu s0.1); omega, by show 0 ≤ (mu ((sPl (wOf sl wv) (D + 1) fr s0 h).1).1 - mu s0.1); omega⟩ ?_
      refine lv_istore_n (lv' := [(3, .int (nI (s0.2 0).length)), (0, .ref (ad 0)), (1, .int (nI fr)), (2, .int (nI dep))]) hx hb dT_plant_34 rfl hl (by decide) rfl (fun ls hl => ?_)
      refine lv_aload_n hx hb dT_plant_35 rfl (lv_at hl 1 rfl) ?_
      refine lv_iload_n hx hb dT_plant_36 rfl (lv_at hl 2 rfl) ?_
      refine ro_Vi (v := sT_bestLine s0.2 (wOf sl wv) fr) (As := [.int (nI fr)]) (rest := []) ⟨hx, hb, hml, hown, ht⟩ (cT_bestLine l g ad q s0.1 f s0.2 sl cnt h st LW wv hz hsl fr hfr2) (cwV 1 ht (g_V q_309 q_311 q_2 q_33 q_312) rfl rfl rfl hd_T_bestLine ⟨by show 4 + 1 ≤ 5 + (D + 1); omega, by show 8 + (11 + 11) + 111 ≤ 158 + 25 * (D + 1); omega⟩) hK (hP) (va_recv hK.1 hP (ci := 4) (q0 := 0) rfl rfl) rfl hl.1 rfl (Nat.le_of_ble_eq_true rfl) dT_plant_37 ⟨by show 0 ≤ (mu ((sPl (wOf sl wv) (D + 1) fr s0 h).1).1 - mu s0.1); omega, by show 0 ≤ (mu ((sPl (wOf sl wv) (D + 1) fr s0 h).1).1 - mu s0.1); omega⟩ ?_
      refine lv_istore (lv' := [(4, .int (sT_bestLine s0.2 (wOf sl wv) fr)), (3, .int (nI (s0.2 0).length)), (0, .ref (ad 0)), (1, .int (nI fr)), (2, .int (nI dep))]) hx hb dT_plant_40 hl (by decide) rfl (fun ls hl => ?_)
      refine lv_aload_n hx hb dT_plant_42 rfl (lv_at hl 2 rfl) ?_
      refine va_get (D := g.1) (ci := 4) (v := .ref (ad 6)) (C := "NodeMaker$Tree") (T := Fd_T) (N := 13) hx hb ht i_T hown hK.1 hP 0 rfl rfl 1 (by decide) (ht _ q_104) (fun _ h9 => h9) rfl dT_plant_43 ?_
      refine lv_iload hx hb dT_plant_46 (lv_at hl 0 rfl) ?_
      have hmu : mu (oAdd 0 (sT_bestLine s0.2 (wOf sl wv) fr) s0).1 = mu s0.1 + aUse (s0.1 0) (s0.2 0) := mu_oAdd (K := 0) (v := (sT_bestLine s0.2 (wOf sl wv) fr)) (s := s0) (by decide)
      have hfit : mu (oAdd 0 (sT_bestLine s0.2 (wOf sl wv) fr) s0).1 ≤ mu ((sPl (wOf sl wv) (D + 1) fr s0 h).1).1 := Nat.le_trans (show mu (oAdd 0 (sT_bestLine s0.2 (wOf sl wv) fr) s0).1 ≤ mu (plNew (wOf sl wv) fr dep s0).1 from Nat.le_trans (mu_oAdd_le (by decide)) (Nat.le_trans (mu_oAdd_le (by decide)) (Nat.le_trans (mu_oAdd_le (by decide)) (Nat.le_trans (mu_oAdd_le (by decide)) (mu_oAdd_le (by decide)))))) hmn
      refine tr_add_0 ⟨hx, hb, hml, hown, ht⟩ q_351 ⟨by show 2 + 1 ≤ 5 + (D + 1); omega, by show 8 + (2 + 11) + 82 ≤ 158 + 25 * (D + 1); omega⟩ hK hz hP hD hS hA hl.1 (Nat.le_of_ble_eq_true rfl) dT_plant_48 ⟨by show 0 + aUse (s0.1 0) (s0.2 0) ≤ (mu ((sPl (wOf sl wv) (D + 1) fr s0 h).1).1 - mu s0.1); omega, by show 0 + aUse (s0.1 0) (s0.2 0) ≤ (mu ((sPl (wOf sl wv) (D + 1) fr s0 h).1).1 - mu s0.1); omega⟩ (fun q f H locs hz hP hD hS => ?_)
      have hz : rowsT (oAdd 0 (sT_bestLine s0.2 (wOf sl wv) fr) s0).1 f (oAdd 0 (sT_bestLine s0.2 (wOf sl wv) fr) s0).2 := hz
      have hP : va_P g.1 vwCl (TW g ad q (oAdd 0 (sT_bestLine s0.2 (wOf sl wv) fr) s0).1 f (oAdd 0 (sT_bestLine s0.2 (wOf sl wv) fr) s0).2 sl cnt h st LW wv) H := hP
      have hD : va_D A (TW g ad q (oAdd 0 (sT_bestLine s0.2 (wOf sl wv) fr) s0).1 f (oAdd 0 (sT_bestLine s0.2 (wOf sl wv) fr) s0).2 sl cnt h st LW wv) := hD
      have hle : mu s0.1 ≤ mu (oAdd 0 (sT_bestLine s0.2 (wOf sl wv) fr) s0).1 := by omega
      refine W.widen (k := mu (oAdd 0 (sT_bestLine s0.2 (wOf sl wv) fr) s0).1 - mu s0.1) (n := mu (oAdd 0 (sT_bestLine s0.2 (wOf sl wv) fr) s0).1 - mu s0.1) (by omega) (by omega) ?_
      refine lv_aload_n hx hb dT_plant_51 rfl (lv_at hl 2 rfl) ?_
      refine va_get (D := g.1) (ci := 4) (v := .ref (ad 10)) (C := "NodeMaker$Tree") (T := Fd_T) (N := 13) hx hb ht i_T hown hK.1 hP 0 rfl rfl 5 (by decide) (ht _ q_108) (fun _ h9 => h9) rfl dT_plant_52 ?_
      refine lv_iload_n hx hb dT_plant_55 rfl (lv_at hl 4 rfl) ?_
      have hmu : mu (oAdd 4 (nI dep) (oAdd 0 (sT_bestLine s0.2 (wOf sl wv) fr) s0)).1 = mu (oAdd 0 (sT_bestLine s0.2 (wOf sl wv) fr) s0).1 + aUse ((oAdd 0 (sT_bestLine s0.2 (wOf sl wv) fr) s0).1 4) ((oAdd 0 (sT_bestLine s0.2 (wOf sl wv) fr) s0).2 4) := mu_oAdd (K := 4) (v := (nI dep)) (s := oAdd 0 (sT_bestLine s0.2 (wOf sl wv) fr) s0) (by decide)
      have hfit : mu (oAdd 4 (nI dep) (oAdd 0 (sT_bestLine s0.2 (wOf sl wv) fr) s0)).1 ≤ mu ((sPl (wOf sl wv) (D + 1) fr s0 h).1).1 := Nat.le_trans (show mu (oAdd 4 (nI dep) (oAdd 0 (sT_bestLine s0.2 (wOf sl wv) fr) s0)).1 ≤ mu (plNew (wOf sl wv) fr dep s0).1 from Nat.le_trans (mu_oAdd_le (by decide)) (Nat.le_trans (mu_oAdd_le (by decide)) (Nat.le_trans (mu_oAdd_le (by decide)) (mu_oAdd_le (by decide))))) hmn
      refine tr_add_4 ⟨hx, hb, hml, hown, ht⟩ q_351 ⟨by show 2 + 1 ≤ 5 + (D + 1); omega, by show 8 + (2 + 11) + 82 ≤ 158 + 25 * (D + 1); omega⟩ hK hz hP hD hS hA hl.1 (Nat.le_of_ble_eq_true rfl) dT_plant_56 ⟨by show mu (oAdd 0 (sT_bestLine s0.2 (wOf sl wv) fr) s0).1 - mu s0.1 + aUse ((oAdd 0 (sT_bestLine s0.2 (wOf sl wv) fr) s0).1 4) ((oAdd 0 (sT_bestLine s0.2 (wOf sl wv) fr) s0).2 4) ≤ (mu ((sPl (wOf sl wv) (D + 1) fr s0 h).1).1 - mu s0.1); omega, by show mu (oAdd 0 (sT_bestLine s0.2 (wOf sl wv) fr) s0).1 - mu s0.1 + aUse ((oAdd 0 (sT_bestLine s0.2 (wOf sl wv) fr) s0).1 4) ((oAdd 0 (sT_bestLine s0.2 (wOf sl wv) fr) s0).2 4) ≤ (mu ((sPl (wOf sl wv) (D + 1) fr s0 h).1).1 - mu s0.1); omega⟩ (fun q f H locs hz hP hD hS => ?_)
      have hz : rowsT (oAdd 4 (nI dep) (oAdd 0 (sT_bestLine s0.2 (wOf sl wv) fr) s0)).1 f (oAdd 4 (nI dep) (oAdd 0 (sT_bestLine s0.2 (wOf sl wv) fr) s0)).2 := hz
      have hP : va_P g.1 vwCl (TW g ad q (oAdd 4 (nI dep) (oAdd 0 (sT_bestLine s0.2 (wOf sl wv) fr) s0)).1 f (oAdd 4 (nI dep) (oAdd 0 (sT_bestLine s0.2 (wOf sl wv) fr) s0)).2 sl cnt h st LW wv) H := hP
      have hD : va_D A (TW g ad q (oAdd 4 (nI dep) (oAdd 0 (sT_bestLine s0.2 (wOf sl wv) fr) s0)).1 f (oAdd 4 (nI dep) (oAdd 0 (sT_bestLine s0.2 (wOf sl wv) fr) s0)).2 sl cnt h st LW wv) := hD
      have hle : mu s0.1 ≤ mu (oAdd 4 (nI dep) (oAdd 0 (sT_bestLine s0.2 (wOf sl wv) fr) s0)).1 := by omega
      refine W.widen (k := mu (oAdd 4 (nI dep) (oAdd 0 (sT_bestLine s0.2 (wOf sl wv) fr) s0)).1 - mu s0.1) (n := mu (oAdd 4 (nI dep) (oAdd 0 (sT_bestLine s0.2 (wOf sl wv) fr) s0)).1 - mu s0.1) (by omega) (by omega) ?_
      refine lv_aload_n hx hb dT_plant_59 rfl (lv_at hl 2 rfl) ?_
      refine va_get (D := g.1) (ci := 4) (v := .ref (ad 11)) (C := "NodeMaker$Tree") (T := Fd_T) (N := 13) hx hb ht i_T hown hK.1 hP 0 rfl rfl 6 (by decide) (ht _ q_109) (fun _ h9 => h9) rfl dT_plant_60 ?_
      refine lv_aload_n hx hb dT_plant_63 rfl (lv_at hl 2 rfl) ?_
      refine va_get (D := g.1) (ci := 4) (v := .ref (ad 3)) (C := "NodeMaker$Tree") (T := Fd_T) (N := 13) hx hb ht i_T hown hK.1 hP 0 rfl rfl 7 (by decide) (ht _ q_110) (fun _ h9 => h9) rfl dT_plant_64 ?_
      have hPc := hP.sub (ws' := (piW g (ad 3) (fun k => ad (12 + k)) (fun k => q (6 + k)) (fun k => (oAdd 4 (nI dep) (oAdd 0 (sT_bestLine s0.2 (wOf sl wv) fr) s0)).1 (6 + k)) (fun k => f (6 + k)) (fun k => ((oAdd 4 (nI dep) (oAdd 0 (sT_bestLine s0.2 (wOf sl wv) fr) s0)).2 (6 + k)).length))) [3, 18, 19, 20, 21, 22, 23] rfl
      refine ro_Vi (v := nI ((oAdd 4 (nI dep) (oAdd 0 (sT_bestLine s0.2 (wOf sl wv) fr) s0)).2 6).length) (As := []) (rest := [.ref (ad 11)]) ⟨hx, hb, hml, hown, ht⟩ (cP_count l g (ad 3) (fun k => ad (12 + k)) (fun k => q (6 + k)) (fun k => (oAdd 4 (nI dep) (oAdd 0 (sT_bestLine s0.2 (wOf sl wv) fr) s0)).1 (6 + k)) (fun k => f (6 + k)) (fun k => (oAdd 4 (nI dep) (oAdd 0 (sT_bestLine s0.2 (wOf sl wv) fr) s0)).2 (6 + k)) (rows_3 6 (by decide) hz) ) (cwV 0 ht (g_V q_300 q_301 q_302 q_36 q_303) rfl rfl rfl hd_P_count ⟨by show 1 + 1 ≤ 5 + (D + 1); omega, by show 8 + (1 + 11) + 20 ≤ 158 + 25 * (D + 1); omega⟩) hK (hPc) (va_recv hK.1 hPc (ci := 1) (q0 := 0) rfl rfl) rfl hl.1 rfl (Nat.le_of_ble_eq_true rfl) dT_plant_67 ⟨by show mu (oAdd 4 (nI dep) (oAdd 0 (sT_bestLine s0.2 (wOf sl wv) fr) s0)).1 - mu s0.1 ≤ (mu ((sPl (wOf sl wv) (D + 1) fr s0 h).1).1 - mu s0.1); omega, by show mu (oAdd 4 (nI dep) (oAdd 0 (sT_bestLine s0.2 (wOf sl wv) fr) s0)).1 - mu s0.1 ≤ (mu ((sPl (wOf sl wv) (D + 1) fr s0 h).1).1 - mu s0.1); omega⟩ ?_
      have hmu : mu (oAdd 5 (nI ((oAdd 4 (nI dep) (oAdd 0 (sT_bestLine s0.2 (wOf sl wv) fr) s0)).2 6).length) (oAdd 4 (nI dep) (oAdd 0 (sT_bestLine s0.2 (wOf sl wv) fr) s0))).1 = mu (oAdd 4 (nI dep) (oAdd 0 (sT_bestLine s0.2 (wOf sl wv) fr) s0)).1 + aUse ((oAdd 4 (nI dep) (oAdd 0 (sT_bestLine s0.2 (wOf sl wv) fr) s0)).1 5) ((oAdd 4 (nI dep) (oAdd 0 (sT_bestLine s0.2 (wOf sl wv) fr) s0)).2 5) := mu_oAdd (K := 5) (v := (nI ((oAdd 4 (nI dep) (oAdd 0 (sT_bestLine s0.2 (wOf sl wv) fr) s0)).2 6).length)) (s := oAdd 4 (nI dep) (oAdd 0 (sT_bestLine s0.2 (wOf sl wv) fr) s0)) (by decide)
      have hfit : mu (oAdd 5 (nI ((oAdd 4 (nI dep) (oAdd 0 (sT_bestLine s0.2 (wOf sl wv) fr) s0)).2 6).length) (oAdd 4 (nI dep) (oAdd 0 (sT_bestLine s0.2 (wOf sl wv) fr) s0))).1 ≤ mu ((sPl (wOf sl wv) (D + 1) fr s0 h).1).1 := Nat.le_trans (show mu (oAdd 5 (nI ((oAdd 4 (nI dep) (oAdd 0 (sT_bestLine s0.2 (wOf sl wv) fr) s0)).2 6).length) (oAdd 4 (nI dep) (oAdd 0 (sT_bestLine s0.2 (wOf sl wv) fr) s0))).1 ≤ mu (plNew (wOf sl wv) fr dep s0).1 from Nat.le_trans (mu_oAdd_le (by decide)) (Nat.le_trans (mu_oAdd_le (by decide)) (mu_oAdd_le (by decide)))) hmn
      refine tr_add_5 ⟨hx, hb, hml, hown, ht⟩ q_351 ⟨by show 2 + 1 ≤ 5 + (D + 1); omega, by show 8 + (2 + 11) + 82 ≤ 158 + 25 * (D + 1); omega⟩ hK hz hP hD hS hA hl.1 (Nat.le_of_ble_eq_true rfl) dT_plant_70 ⟨by show mu (oAdd 4 (nI dep) (oAdd 0 (sT_bestLine s0.2 (wOf sl wv) fr) s0)).1 - mu s0.1 + aUse ((oAdd 4 (nI dep) (oAdd 0 (sT_bestLine s0.2 (wOf sl wv) fr) s0)).1 5) ((oAdd 4 (nI dep) (oAdd 0 (sT_bestLine s0.2 (wOf sl wv) fr) s0)).2 5) ≤ (mu ((sPl (wOf sl wv) (D + 1) fr s0 h).1).1 - mu s0.1); omega, by show mu (oAdd 4 (nI dep) (oAdd 0 (sT_bestLine s0.2 (wOf sl wv) fr) s0)).1 - mu s0.1 + aUse ((oAdd 4 (nI dep) (oAdd 0 (sT_bestLine s0.2 (wOf sl wv) fr) s0)).1 5) ((oAdd 4 (nI dep) (oAdd 0 (sT_bestLine s0.2 (wOf sl wv) fr) s0)).2 5) ≤ (mu ((sPl (wOf sl wv) (D + 1) fr s0 h).1).1 - mu s0.1); omega⟩ (fun q f H locs hz hP hD hS => ?_)
      have hz : rowsT (oAdd 5 (nI ((oAdd 4 (nI dep) (oAdd 0 (sT_bestLine s0.2 (wOf sl wv) fr) s0)).2 6).length) (oAdd 4 (nI dep) (oAdd 0 (sT_bestLine s0.2 (wOf sl wv) fr) s0))).1 f (oAdd 5 (nI ((oAdd 4 (nI dep) (oAdd 0 (sT_bestLine s0.2 (wOf sl wv) fr) s0)).2 6).length) (oAdd 4 (nI dep) (oAdd 0 (sT_bestLine s0.2 (wOf sl wv) fr) s0))).2 := hz
      have hP : va_P g.1 vwCl (TW g ad q (oAdd 5 (nI ((oAdd 4 (nI dep) (oAdd 0 (sT_bestLine s0.2 (wOf sl wv) fr) s0)).2 6).length) (oAdd 4 (nI dep) (oAdd 0 (sT_bestLine s0.2 (wOf sl wv) fr) s0))).1 f (oAdd 5 (nI ((oAdd 4 (nI dep) (oAdd 0 (sT_bestLine s0.2 (wOf sl wv) fr) s0)).2 6).length) (oAdd 4 (nI dep) (oAdd 0 (sT_bestLine s0.2 (wOf sl wv) fr) s0))).2 sl cnt h st LW wv) H := hP
      have hD : va_D A (TW g ad q (oAdd 5 (nI ((oAdd 4 (nI dep) (oAdd 0 (sT_bestLine s0.2 (wOf sl wv) fr) s0)).2 6).length) (oAdd 4 (nI dep) (oAdd 0 (sT_bestLine s0.2 (wOf sl wv) fr) s0))).1 f (oAdd 5 (nI ((oAdd 4 (nI dep) (oAdd 0 (sT_bestLine s0.2 (wOf sl wv) fr) s0)).2 6).length) (oAdd 4 (nI dep) (oAdd 0 (sT_bestLine s0.2 (wOf sl wv) fr) s0))).2 sl cnt h st LW wv) := hD
      have hle : mu s0.1 ≤ mu (oAdd 5 (nI ((oAdd 4 (nI dep) (oAdd 0 (sT_bestLine s0.2 (wOf sl wv) fr) s0)).2 6).length) (oAdd 4 (nI dep) (oAdd 0 (sT_bestLine s0.2 (wOf sl wv) fr) s0))).1 := by omega
      refine W.widen (k := mu (oAdd 5 (nI ((oAdd 4 (nI dep) (oAdd 0 (sT_bestLine s0.2 (wOf sl wv) fr) s0)).2 6).length) (oAdd 4 (nI dep) (oAdd 0 (sT_bestLine s0.2 (wOf sl wv) fr) s0))).1 - mu s0.1) (n := mu (oAdd 5 (nI ((oAdd 4 (nI dep) (oAdd 0 (sT_bestLine s0.2 (wOf sl wv) fr) s0)).2 6).length) (oAdd 4 (nI dep) (oAdd 0 (sT_bestLine s0.2 (wOf sl wv) fr) s0))).1 - mu s0.1) (by omega) (by omega) ?_
      refine lv_aload_n hx hb dT_plant_73 rfl (lv_at hl 2 rfl) ?_
      refine va_get (D := g.1) (ci := 4) (v := .ref (ad 7)) (C := "NodeMaker$Tree") (T := Fd_T) (N := 13) hx hb ht i_T hown hK.1 hP 0 rfl rfl 2 (by decide) (ht _ q_105) (fun _ h9 => h9) rfl dT_plant_74 ?_
      refine lv_iconst (v := -1) hx hb dT_plant_77 (by decide) ?_
      have hmu : mu (oAdd 1 (-1) (oAdd 5 (nI ((oAdd 4 (nI dep) (oAdd 0 (sT_bestLine s0.2 (wOf sl wv) fr) s0)).2 6).length) (oAdd 4 (nI dep) (oAdd 0 (sT_bestLine s0.2 (wOf sl wv) fr) s0)))).1 = mu (oAdd 5 (nI ((oAdd 4 (nI dep) (oAdd 0 (sT_bestLine s0.2 (wOf sl wv) fr) s0)).2 6).length) (oAdd 4 (nI dep) (oAdd 0 (sT_bestLine s0.2 (wOf sl wv) fr) s0))).1 + aUse ((oAdd 5 (nI ((oAdd 4 (nI dep) (oAdd 0 (sT_bestLine s0.2 (wOf sl wv) fr) s0)).2 6).length) (oAdd 4 (nI dep) (oAdd 0 (sT_bestLine s0.2 (wOf sl wv) fr) s0))).1 1) ((oAdd 5 (nI ((oAdd 4 (nI dep) (oAdd 0 (sT_bestLine s0.2 (wOf sl wv) fr) s0)).2 6).length) (oAdd 4 (nI dep) (oAdd 0 (sT_bestLine s0.2 (wOf sl wv) fr) s0))).2 1) := mu_oAdd (K := 1) (v := (-1)) (s := oAdd 5 (nI ((oAdd 4 (nI dep) (oAdd 0 (sT_bestLine s0.2 (wOf sl wv) fr) s0)).2 6).length) (oAdd 4 (nI dep) (oAdd 0 (sT_bestLine s0.2 (wOf sl wv) fr) s0))) (by decide)
      have hfit : mu (oAdd 1 (-1) (oAdd 5 (nI ((oAdd 4 (nI dep) (oAdd 0 (sT_bestLine s0.2 (wOf sl wv) fr) s0)).2 6).length) (oAdd 4 (nI dep) (oAdd 0 (sT_bestLine s0.2 (wOf sl wv) fr) s0)))).1 ≤ mu ((sPl (wOf sl wv) (D + 1) fr s0 h).1).1 := Nat.le_trans (show mu (oAdd 1 (-1) (oAdd 5 (nI ((oAdd 4 (nI dep) (oAdd 0 (sT_bestLine s0.2 (wOf sl wv) fr) s0)).2 6).length) (oAdd 4 (nI dep) (oAdd 0 (sT_bestLine s0.2 (wOf sl wv) fr) s0)))).1 ≤ mu (plNew (wOf sl wv) fr dep s0).1 from Nat.le_trans (mu_oAdd_le (by decide)) (mu_oAdd_le (by decide))) hmn
      refine tr_add_1 ⟨hx, hb, hml, hown, ht⟩ q_351 ⟨by show 2 + 1 ≤ 5 + (D + 1); omega, by show 8 + (2 + 11) + 82 ≤ 158 + 25 * (D + 1); omega⟩ hK hz hP hD hS hA hl.1 (Nat.le_of_ble_eq_true rfl) dT_plant_78 ⟨by show mu (oAdd 5 (nI ((oAdd 4 (nI dep) (oAdd 0 (sT_bestLine s0.2 (wOf sl wv) fr) s0)).2 6).length) (oAdd 4 (nI dep) (oAdd 0 (sT_bestLine s0.2 (wOf sl wv) fr) s0))).1 - mu s0.1 + aUse ((oAdd 5 (nI ((oAdd 4 (nI dep) (oAdd 0 (sT_bestLine s0.2 (wOf sl wv) fr) s0)).2 6).length) (oAdd 4 (nI dep) (oAdd 0 (sT_bestLine s0.2 (wOf sl wv) fr) s0))).1 1) ((oAdd 5 (nI ((oAdd 4 (nI dep) (oAdd 0 (sT_bestLine s0.2 (wOf sl wv) fr) s0)).2 6).length) (oAdd 4 (nI dep) (oAdd 0 (sT_bestLine s0.2 (wOf sl wv) fr) s0))).2 1) ≤ (mu ((sPl (wOf sl wv) (D + 1) fr s0 h).1).1 - mu s0.1); omega, by show mu (oAdd 5 (nI ((oAdd 4 (nI dep) (oAdd 0 (sT_bestLine s0.2 (wOf sl wv) fr) s0)).2 6).length) (oAdd 4 (nI dep) (oAdd 0 (sT_bestLine s0.2 (wOf sl wv) fr) s0))).1 - mu s0.1 + aUse ((oAdd 5 (nI ((oAdd 4 (nI dep) (oAdd 0 (sT_bestLine s0.2 (wOf sl wv) fr) s0)).2 6).length) (oAdd 4 (nI dep) (oAdd 0 (sT_bestLine s0.2 (wOf sl wv) fr) s0))).1 1) ((oAdd 5 (nI ((oAdd 4 (nI dep) (oAdd 0 (sT_bestLine s0.2 (wOf sl wv) fr) s0)).2 6).length) (oAdd 4 (nI dep) (oAdd 0 (sT_bestLine s0.2 (wOf sl wv) fr) s0))).2 1) ≤ (mu ((sPl (wOf sl wv) (D + 1) fr s0 h).1).1 - mu s0.1); omega⟩ (fun q f H locs hz hP hD hS => ?_)
      have hz : rowsT (oAdd 1 (-1) (oAdd 5 (nI ((oAdd 4 (nI dep) (oAdd 0 (sT_bestLine s0.2 (wOf sl wv) fr) s0)).2 6).length) (oAdd 4 (nI dep) (oAdd 0 (sT_bestLine s0.2 (wOf sl wv) fr) s0)))).1 f (oAdd 1 (-1) (oAdd 5 (nI ((oAdd 4 (nI dep) (oAdd 0 (sT_bestLine s0.2 (wOf sl wv) fr) s0)).2 6).length) (oAdd 4 (nI dep) (oAdd 0 (sT_bestLine s0.2 (wOf sl wv) fr) s0)))).2 := hz
      have hP : va_P g.1 vwCl (TW g ad q (oAdd 1 (-1) (oAdd 5 (nI ((oAdd 4 (nI dep) (oAdd 0 (sT_bestLine s0.2 (wOf sl wv) fr) s0)).2 6).length) (oAdd 4 (nI dep) (oAdd 0 (sT_bestLine s0.2 (wOf sl wv) fr) s0)))).1 f (oAdd 1 (-1) (oAdd 5 (nI ((oAdd 4 (nI dep) (oAdd 0 (sT_bestLine s0.2 (wOf sl wv) fr) s0)).2 6).length) (oAdd 4 (nI dep) (oAdd 0 (sT_bestLine s0.2 (wOf sl wv) fr) s0)))).2 sl cnt h st LW wv) H := hP
      have hD : va_D A (TW g ad q (oAdd 1 (-1) (oAdd 5 (nI ((oAdd 4 (nI dep) (oAdd 0 (sT_bestLine s0.2 (wOf sl wv) fr) s0)).2 6).length) (oAdd 4 (nI dep) (oAdd 0 (sT_bestLine s0.2 (wOf sl wv) fr) s0)))).1 f (oAdd 1 (-1) (oAdd 5 (nI ((oAdd 4 (nI dep) (oAdd 0 (sT_bestLine s0.2 (wOf sl wv) fr) s0)).2 6).length) (oAdd 4 (nI dep) (oAdd 0 (sT_bestLine s0.2 (wOf sl wv) fr) s0)))).2 sl cnt h st LW wv) := hD
      have hle : mu s0.1 ≤ mu (oAdd 1 (-1) (oAdd 5 (nI ((oAdd 4 (nI dep) (oAdd 0 (sT_bestLine s0.2 (wOf sl wv) fr) s0)).2 6).length) (oAdd 4 (nI dep) (oAdd 0 (sT_bestLine s0.2 (wOf sl wv) fr) s0)))).1 := by omega
      refine W.widen (k := mu (oAdd 1 (-1) (oAdd 5 (nI ((oAdd 4 (nI dep) (oAdd 0 (sT_bestLine s0.2 (wOf sl wv) fr) s0)).2 6).length) (oAdd 4 (nI dep) (oAdd 0 (sT_bestLine s0.2 (wOf sl wv) fr) s0)))).1 - mu s0.1) (n := mu (oAdd 1 (-1) (oAdd 5 (nI ((oAdd 4 (nI dep) (oAdd 0 (sT_bestLine s0.2 (wOf sl wv) fr) s0)).2 6).length) (oAdd 4 (nI dep) (oAdd 0 (sT_bestLine s0.2 (wOf sl wv) fr) s0)))).1 - mu s0.1) (by omega) (by omega) ?_
      refine lv_aload_n hx hb dT_plant_81 rfl (lv_at hl 2 rfl) ?_
      refine va_get (D := g.1) (ci := 4) (v := .ref (ad 8)) (C := "NodeMaker$Tree") (T := Fd_T) (N := 13) hx hb ht i_T hown hK.1 hP 0 rfl rfl 3 (by decide) (ht _ q_106) (fun _ h9 => h9) rfl dT_plant_82 ?_
      refine lv_iconst (v := -1) hx hb dT_plant_85 (by decide) ?_
      have hmu : mu (oAdd 2 (-1) (oAdd 1 (-1) (oAdd 5 (nI ((oAdd 4 (nI dep) (oAdd 0 (sT_bestLine s0.2 (wOf sl wv) fr) s0)).2 6).length) (oAdd 4 (nI dep) (oAdd 0 (sT_bestLine s0.2 (wOf sl wv) fr) s0))))).1 = mu (oAdd 1 (-1) (oAdd 5 (nI ((oAdd 4 (nI dep) (oAdd 0 (sT_bestLine s0.2 (wOf sl wv) fr) s0)).2 6).length) (oAdd 4 (nI dep) (oAdd 0 (sT_bestLine s0.2 (wOf sl wv) fr) s0)))).1 + aUse ((oAdd 1 (-1) (oAdd 5 (nI ((oAdd 4 (nI dep) (oAdd 0 (sT_bestLine s0.2 (wOf sl wv) fr) s0)).2 6).length) (oAdd 4 (nI dep) (oAdd 0 (sT_bestLine s0.2 (wOf sl wv) fr) s0)))).1 2) ((oAdd 1 (-1) (oAdd 5 (nI ((oAdd 4 (nI dep) (oAdd 0 (sT_bestLine s0.2 (wOf sl wv) fr) s0)).2 6).length) (oAdd 4 (nI dep) (oAdd 0 (sT_bestLine s0.2 (wOf sl wv) fr) s0)))).2 2) := mu_oAdd (K := 2) (v := (-1)) (s := oAdd 1 (-1) (oAdd 5 (nI ((oAdd 4 (nI dep) (oAdd 0 (sT_bestLine s0.2 (wOf sl wv) fr) s0)).2 6).length) (oAdd 4 (nI dep) (oAdd 0 (sT_bestLine s0.2 (wOf sl wv) fr) s0)))) (by decide)
      have hfit : mu (oAdd 2 (-1) (oAdd 1 (-1) (oAdd 5 (nI ((oAdd 4 (nI dep) (oAdd 0 (sT_bestLine s0.2 (wOf sl wv) fr) s0)).2 6).length) (oAdd 4 (nI dep) (oAdd 0 (sT_bestLine s0.2 (wOf sl wv) fr) s0))))).1 ≤ mu ((sPl (wOf sl wv) (D + 1) fr s0 h).1).1 := Nat.le_trans (show mu (oAdd 2 (-1) (oAdd 1 (-1) (oAdd 5 (nI ((oAdd 4 (nI dep) (oAdd 0 (sT_bestLine s0.2 (wOf sl wv) fr) s0)).2 6).length) (oAdd 4 (nI dep) (oAdd 0 (sT_bestLine s0.2 (wOf sl wv) fr) s0))))).1 ≤ mu (plNew (wOf sl wv) fr dep s0).1 from mu_oAdd_le (by decide)) hmn
      refine tr_add_2 ⟨hx, hb, hml, hown, ht⟩ q_351 ⟨by show 2 + 1 ≤ 5 + (D + 1); omega, by show 8 + (2 + 11) + 82 ≤ 158 + 25 * (D + 1); omega⟩ hK hz hP hD hS hA hl.1 (Nat.le_of_ble_eq_true rfl) dT_plant_86 ⟨by show mu (oAdd 1 (-1) (oAdd 5 (nI ((oAdd 4 (nI dep) (oAdd 0 (sT_bestLine s0.2 (wOf sl wv) fr) s0)).2 6).length) (oAdd 4 (nI dep) (oAdd 0 (sT_bestLine s0.2 (wOf sl wv) fr) s0)))).1 - mu s0.1 + aUse ((oAdd 1 (-1) (oAdd 5 (nI ((oAdd 4 (nI dep) (oAdd 0 (sT_bestLine s0.2 (wOf sl wv) fr) s0)).2 6).length) (oAdd 4 (nI dep) (oAdd 0 (sT_bestLine s0.2 (wOf sl wv) fr) s0)))).1 2) ((oAdd 1 (-1) (oAdd 5 (nI ((oAdd 4 (nI dep) (oAdd 0 (sT_bestLine s0.2 (wOf sl wv) fr) s0)).2 6).length) (oAdd 4 (nI dep) (oAdd 0 (sT_bestLine s0.2 (wOf sl wv) fr) s0)))).2 2) ≤ (mu ((sPl (wOf sl wv) (D + 1) fr s0 h).1).1 - mu s0.1); omega, by show mu (oAdd 1 (-1) (oAdd 5 (nI ((oAdd 4 (nI dep) (oAdd 0 (sT_bestLine s0.2 (wOf sl wv) fr) s0)).2 6).length) (oAdd 4 (nI dep) (oAdd 0 (sT_bestLine s0.2 (wOf sl wv) fr) s0)))).1 - mu s0.1 + aUse ((oAdd 1 (-1) (oAdd 5 (nI ((oAdd 4 (nI dep) (oAdd 0 (sT_bestLine s0.2 (wOf sl wv) fr) s0)).2 6).length) (oAdd 4 (nI dep) (oAdd 0 (sT_bestLine s0.2 (wOf sl wv) fr) s0)))).1 2) ((oAdd 1 (-1) (oAdd 5 (nI ((oAdd 4 (nI dep) (oAdd 0 (sT_bestLine s0.2 (wOf sl wv) fr) s0)).2 6).length) (oAdd 4 (nI dep) (oAdd 0 (sT_bestLine s0.2 (wOf sl wv) fr) s0)))).2 2) ≤ (mu ((sPl (wOf sl wv) (D + 1) fr s0 h).1).1 - mu s0.1); omega⟩ (fun q f H locs hz hP hD hS => ?_)
      have hz : rowsT (oAdd 2 (-1) (oAdd 1 (-1) (oAdd 5 (nI ((oAdd 4 (nI dep) (oAdd 0 (sT_bestLine s0.2 (wOf sl wv) fr) s0)).2 6).length) (oAdd 4 (nI dep) (oAdd 0 (sT_bestLine s0.2 (wOf sl wv) fr) s0))))).1 f (oAdd 2 (-1) (oAdd 1 (-1) (oAdd 5 (nI ((oAdd 4 (nI dep) (oAdd 0 (sT_bestLine s0.2 (wOf sl wv) fr) s0)).2 6).length) (oAdd 4 (nI dep) (oAdd 0 (sT_bestLine s0.2 (wOf sl wv) fr) s0))))).2 := hz
      have hP : va_P g.1 vwCl (TW g ad q (oAdd 2 (-1) (oAdd 1 (-1) (oAdd 5 (nI ((oAdd 4 (nI dep) (oAdd 0 (sT_bestLine s0.2 (wOf sl wv) fr) s0)).2 6).length) (oAdd 4 (nI dep) (oAdd 0 (sT_bestLine s0.2 (wOf sl wv) fr) s0))))).1 f (oAdd 2 (-1) (oAdd 1 (-1) (oAdd 5 (nI ((oAdd 4 (nI dep) (oAdd 0 (sT_bestLine s0.2 (wOf sl wv) fr) s0)).2 6).length) (oAdd 4 (nI dep) (oAdd 0 (sT_bestLine s0.2 (wOf sl wv) fr) s0))))).2 sl cnt h st LW wv) H := hP
      have hD : va_D A (TW g ad q (oAdd 2 (-1) (oAdd 1 (-1) (oAdd 5 (nI ((oAdd 4 (nI dep) (oAdd 0 (sT_bestLine s0.2 (wOf sl wv) fr) s0)).2 6).length) (oAdd 4 (nI dep) (oAdd 0 (sT_bestLine s0.2 (wOf sl wv) fr) s0))))).1 f (oAdd 2 (-1) (oAdd 1 (-1) (oAdd 5 (nI ((oAdd 4 (nI dep) (oAdd 0 (sT_bestLine s0.2 (wOf sl wv) fr) s0)).2 6).length) (oAdd 4 (nI dep) (oAdd 0 (sT_bestLine s0.2 (wOf sl wv) fr) s0))))).2 sl cnt h st LW wv) := hD
      have hle : mu s0.1 ≤ mu (oAdd 2 (-1) (oAdd 1 (-1) (oAdd 5 (nI ((oAdd 4 (nI dep) (oAdd 0 (sT_bestLine s0.2 (wOf sl wv) fr) s0)).2 6).length) (oAdd 4 (nI dep) (oAdd 0 (sT_bestLine s0.2 (wOf sl wv) fr) s0))))).1 := by omega
      refine W.widen (k := mu (oAdd 2 (-1) (oAdd 1 (-1) (oAdd 5 (nI ((oAdd 4 (nI dep) (oAdd 0 (sT_bestLine s0.2 (wOf sl wv) fr) s0)).2 6).length) (oAdd 4 (nI dep) (oAdd 0 (sT_bestLine s0.2 (wOf sl wv) fr) s0))))).1 - mu s0.1) (n := mu (oAdd 2 (-1) (oAdd 1 (-1) (oAdd 5 (nI ((oAdd 4 (nI dep) (oAdd 0 (sT_bestLine s0.2 (wOf sl wv) fr) s0)).2 6).length) (oAdd 4 (nI dep) (oAdd 0 (sT_bestLine s0.2 (wOf sl wv) fr) s0))))).1 - mu s0.1) (by omega) (by omega) ?_
      refine lv_aload_n hx hb dT_plant_89 rfl (lv_at hl 2 rfl) ?_
      refine va_get (D := g.1) (ci := 4) (v := .ref (ad 9)) (C := "NodeMaker$Tree") (T := Fd_T) (N := 13) hx hb ht i_T hown hK.1 hP 0 rfl rfl 4 (by decide) (ht _ q_107) (fun _ h9 => h9) rfl dT_plant_90 ?_
      refine lv_iconst (v := 0) hx hb dT_plant_93 (by decide) ?_
      have hmu : mu (oAdd 3 0 (oAdd 2 (-1) (oAdd 1 (-1) (oAdd 5 (nI ((oAdd 4 (nI dep) (oAdd 0 (sT_bestLine s0.2 (wOf sl wv) fr) s0)).2 6).length) (oAdd 4 (nI dep) (oAdd 0 (sT_bestLine s0.2 (wOf sl wv) fr) s0)))))).1 = mu (oAdd 2 (-1) (oAdd 1 (-1) (oAdd 5 (nI ((oAdd 4 (nI dep) (oAdd 0 (sT_bestLine s0.2 (wOf sl wv) fr) s0)).2 6).length) (oAdd 4 (nI dep) (oAdd 0 (sT_bestLine s0.2 (wOf sl wv) fr) s0))))).1 + aUse ((oAdd 2 (-1) (oAdd 1 (-1) (oAdd 5 (nI ((oAdd 4 (nI dep) (oAdd 0 (sT_bestLine s0.2 (wOf sl wv) fr) s0)).2 6).length) (oAdd 4 (nI dep) (oAdd 0 (sT_bestLine s0.2 (wOf sl wv) fr) s0))))).1 3) ((oAdd 2 (-1) (oAdd 1 (-1) (oAdd 5 (nI ((oAdd 4 (nI dep) (oAdd 0 (sT_bestLine s0.2 (wOf sl wv) fr) s0)).2 6).length) (oAdd 4 (nI dep) (oAdd 0 (sT_bestLine s0.2 (wOf sl wv) fr) s0))))).2 3) := mu_oAdd (K := 3) (v := 0) (s := oAdd 2 (-1) (oAdd 1 (-1) (oAdd 5 (nI ((oAdd 4 (nI dep) (oAdd 0 (sT_bestLine s0.2 (wOf sl wv) fr) s0)).2 6).length) (oAdd 4 (nI dep) (oAdd 0 (sT_bestLine s0.2 (wOf sl wv) fr) s0))))) (by decide)
      have hfit : mu (oAdd 3 0 (oAdd 2 (-1) (oAdd 1 (-1) (oAdd 5 (nI ((oAdd 4 (nI dep) (oAdd 0 (sT_bestLine s0.2 (wOf sl wv) fr) s0)).2 6).length) (oAdd 4 (nI dep) (oAdd 0 (sT_bestLine s0.2 (wOf sl wv) fr) s0)))))).1 ≤ mu ((sPl (wOf sl wv) (D + 1) fr s0 h).1).1 := Nat.le_trans (show mu (oAdd 3 0 (oAdd 2 (-1) (oAdd 1 (-1) (oAdd 5 (nI ((oAdd 4 (nI dep) (oAdd 0 (sT_bestLine s0.2 (wOf sl wv) fr) s0)).2 6).length) (oAdd 4 (nI dep) (oAdd 0 (sT_bestLine s0.2 (wOf sl wv) fr) s0)))))).1 ≤ mu (plNew (wOf sl wv) fr dep s0).1 from Nat.le_refl _) hmn
      refine tr_add_3 ⟨hx, hb, hml, hown, ht⟩ q_351 ⟨by show 2 + 1 ≤ 5 + (D + 1); omega, by show 8 + (2 + 11) + 82 ≤ 158 + 25 * (D + 1); omega⟩ hK hz hP hD hS hA hl.1 (Nat.le_of_ble_eq_true rfl) dT_plant_94 ⟨by show mu (oAdd 2 (-1) (oAdd 1 (-1) (oAdd 5 (nI ((oAdd 4 (nI dep) (oAdd 0 (sT_bestLine s0.2 (wOf sl wv) fr) s0)).2 6).length) (oAdd 4 (nI dep) (oAdd 0 (sT_bestLine s0.2 (wOf sl wv) fr) s0))))).1 - mu s0.1 + aUse ((oAdd 2 (-1) (oAdd 1 (-1) (oAdd 5 (nI ((oAdd 4 (nI dep) (oAdd 0 (sT_bestLine s0.2 (wOf sl wv) fr) s0)).2 6).length) (oAdd 4 (nI dep) (oAdd 0 (sT_bestLine s0.2 (wOf sl wv) fr) s0))))).1 3) ((oAdd 2 (-1) (oAdd 1 (-1) (oAdd 5 (nI ((oAdd 4 (nI dep) (oAdd 0 (sT_bestLine s0.2 (wOf sl wv) fr) s0)).2 6).length) (oAdd 4 (nI dep) (oAdd 0 (sT_bestLine s0.2 (wOf sl wv) fr) s0))))).2 3) ≤ (mu ((sPl (wOf sl wv) (D + 1) fr s0 h).1).1 - mu s0.1); omega, by show mu (oAdd 2 (-1) (oAdd 1 (-1) (oAdd 5 (nI ((oAdd 4 (nI dep) (oAdd 0 (sT_bestLine s0.2 (wOf sl wv) fr) s0)).2 6).length) (oAdd 4 (nI dep) (oAdd 0 (sT_bestLine s0.2 (wOf sl wv) fr) s0))))).1 - mu s0.1 + aUse ((oAdd 2 (-1) (oAdd 1 (-1) (oAdd 5 (nI ((oAdd 4 (nI dep) (oAdd 0 (sT_bestLine s0.2 (wOf sl wv) fr) s0)).2 6).length) (oAdd 4 (nI dep) (oAdd 0 (sT_bestLine s0.2 (wOf sl wv) fr) s0))))).1 3) ((oAdd 2 (-1) (oAdd 1 (-1) (oAdd 5 (nI ((oAdd 4 (nI dep) (oAdd 0 (sT_bestLine s0.2 (wOf sl wv) fr) s0)).2 6).length) (oAdd 4 (nI dep) (oAdd 0 (sT_bestLine s0.2 (wOf sl wv) fr) s0))))).2 3) ≤ (mu ((sPl (wOf sl wv) (D + 1) fr s0 h).1).1 - mu s0.1); omega⟩ (fun q f H locs hz hP hD hS => ?_)
      have hz : rowsT (oAdd 3 0 (oAdd 2 (-1) (oAdd 1 (-1) (oAdd 5 (nI ((oAdd 4 (nI dep) (oAdd 0 (sT_bestLine s0.2 (wOf sl wv) fr) s0)).2 6).length) (oAdd 4 (nI dep) (oAdd 0 (sT_bestLine s0.2 (wOf sl wv) fr) s0)))))).1 f (oAdd 3 0 (oAdd 2 (-1) (oAdd 1 (-1) (oAdd 5 (nI ((oAdd 4 (nI dep) (oAdd 0 (sT_bestLine s0.2 (wOf sl wv) fr) s0)).2 6).length) (oAdd 4 (nI dep) (oAdd 0 (sT_bestLine s0.2 (wOf sl wv) fr) s0)))))).2 := hz
      have hP : va_P g.1 vwCl (TW g ad q (oAdd 3 0 (oAdd 2 (-1) (oAdd 1 (-1) (oAdd 5 (nI ((oAdd 4 (nI dep) (oAdd 0 (sT_bestLine s0.2 (wOf sl wv) fr) s0)).2 6).length) (oAdd 4 (nI dep) (oAdd 0 (sT_bestLine s0.2 (wOf sl wv) fr) s0)))))).1 f (oAdd 3 0 (oAdd 2 (-1) (oAdd 1 (-1) (oAdd 5 (nI ((oAdd 4 (nI dep) (oAdd 0 (sT_bestLine s0.2 (wOf sl wv) fr) s0)).2 6).length) (oAdd 4 (nI dep) (oAdd 0 (sT_bestLine s0.2 (wOf sl wv) fr) s0)))))).2 sl cnt h st LW wv) H := hP
      have hD : va_D A (TW g ad q (oAdd 3 0 (oAdd 2 (-1) (oAdd 1 (-1) (oAdd 5 (nI ((oAdd 4 (nI dep) (oAdd 0 (sT_bestLine s0.2 (wOf sl wv) fr) s0)).2 6).length) (oAdd 4 (nI dep) (oAdd 0 (sT_bestLine s0.2 (wOf sl wv) fr) s0)))))).1 f (oAdd 3 0 (oAdd 2 (-1) (oAdd 1 (-1) (oAdd 5 (nI ((oAdd 4 (nI dep) (oAdd 0 (sT_bestLine s0.2 (wOf sl wv) fr) s0)).2 6).length) (oAdd 4 (nI dep) (oAdd 0 (sT_bestLine s0.2 (wOf sl wv) fr) s0)))))).2 sl cnt h st LW wv) := hD
      have hle : mu s0.1 ≤ mu (oAdd 3 0 (oAdd 2 (-1) (oAdd 1 (-1) (oAdd 5 (nI ((oAdd 4 (nI dep) (oAdd 0 (sT_bestLine s0.2 (wOf sl wv) fr) s0)).2 6).length) (oAdd 4 (nI dep) (oAdd 0 (sT_bestLine s0.2 (wOf sl wv) fr) s0)))))).1 := by omega
      refine W.widen (k := mu (oAdd 3 0 (oAdd 2 (-1) (oAdd 1 (-1) (oAdd 5 (nI ((oAdd 4 (nI dep) (oAdd 0 (sT_bestLine s0.2 (wOf sl wv) fr) s0)).2 6).length) (oAdd 4 (nI dep) (oAdd 0 (sT_bestLine s0.2 (wOf sl wv) fr) s0)))))).1 - mu s0.1) (n := mu (oAdd 3 0 (oAdd 2 (-1) (oAdd 1 (-1) (oAdd 5 (nI ((oAdd 4 (nI dep) (oAdd 0 (sT_bestLine s0.2 (wOf sl wv) fr) s0)).2 6).length) (oAdd 4 (nI dep) (oAdd 0 (sT_bestLine s0.2 (wOf sl wv) fr) s0)))))).1 - mu s0.1) (by omega) (by omega) ?_
      have hle : mu s0.1 ≤ mu (plNew (wOf sl wv) fr dep s0).1 := hm00
      have hz : rowsT (plNew (wOf sl wv) fr dep s0).1 f (plNew (wOf sl wv) fr dep s0).2 := hz
      have hP : va_P g.1 vwCl (TW g ad q (plNew (wOf sl wv) fr dep s0).1 f (plNew (wOf sl wv) fr dep s0).2 sl cnt h st LW wv) H := hP
      have hD : va_D A (TW g ad q (plNew (wOf sl wv) fr dep s0).1 f (plNew (wOf sl wv) fr dep s0).2 sl cnt h st LW wv) := hD
      refine W.widen (k := mu (plNew (wOf sl wv) fr dep s0).1 - mu s0.1) (n := mu (plNew (wOf sl wv) fr dep s0).1 - mu s0.1) (Nat.le_refl _) (Nat.le_refl _) ?_
      refine lv_aload_n hx hb dT_plant_97 rfl (lv_at hl 2 rfl) ?_
      refine lv_aload_n hx hb dT_plant_98 rfl (lv_at hl 2 rfl) ?_
      refine va_get (D := g.1) (ci := 4) (v := .int h) (C := "NodeMaker$Tree") (T := Fd_T) (N := 13) hx hb ht i_T hown hK.1 hP 0 rfl rfl 11 (by decide) (ht _ q_114) (fun _ h9 => h9) rfl dT_plant_99 ?_
      refine lv_iload_n hx hb dT_plant_102 rfl (lv_at hl 4 rfl) ?_
      refine lv_iconst (v := 1) hx hb dT_plant_103 (by decide) ?_
      refine lv_iadd hx hb dT_plant_104 ?_
      refine va_mmax hx hb (by rw [hml]; exact hl.1.symm) hown (ht _ q_352) (ht _ q_222) (ht _ q_39) (ht _ q_223) (by show 1 ≤ 5 + (D + 1); omega) (by show _ ≤ 158 + 25 * (D + 1); simp only [List.map, List.sum_cons, List.sum_nil, Value.category]; omega) (by show mu (plNew (wOf sl wv) fr dep s0).1 - mu s0.1 ≤ (mu ((sPl (wOf sl wv) (D + 1) fr s0 h).1).1 - mu s0.1); omega) (by show mu (plNew (wOf sl wv) fr dep s0).1 - mu s0.1 ≤ (mu ((sPl (wOf sl wv) (D + 1) fr s0 h).1).1 - mu s0.1); omega) dT_plant_105 ?_
      refine va_put (D := g.1) (ci := 4) (v := .int (if h < ((nI dep) + 1) then ((nI dep) + 1) else h)) (ty := .int) (C := "NodeMaker$Tree") (T := Fd_T) (N := 13) hx hb ht i_T ty_T ty_T_ok nm_T hown hK.1 hP hD hS 0 rfl rfl 11 (by decide) (ht _ q_114) (fun _ h9 => h9) rfl (by decide +kernel) rfl rfl (Nat.le_of_ble_eq_true rfl) dT_plant_108 (fun H locs hP hD hS => ?_)
      have hP : va_P g.1 vwCl (TW g ad q (plNew (wOf sl wv) fr dep s0).1 f (plNew (wOf sl wv) fr dep s0).2 sl cnt (if h < ((nI dep) + 1) then ((nI dep) + 1) else h) st LW wv) H := hP
      have hD : va_D A (TW g ad q (plNew (wOf sl wv) fr dep s0).1 f (plNew (wOf sl wv) fr dep s0).2 sl cnt (if h < ((nI dep) + 1) then ((nI dep) + 1) else h) st LW wv) := hD
      refine lv_aload_n hx hb dT_plant_111 rfl (lv_at hl 2 rfl) ?_
      refine lv_iload_n hx hb dT_plant_112 rfl (lv_at hl 3 rfl) ?_
      refine lv_iload hx hb dT_plant_113 (lv_at hl 0 rfl) ?_
      refine lv_iload_n hx hb dT_plant_115 rfl (lv_at hl 1 rfl) ?_
      have hP : va_P g.1 vwCl (TW g ad q (plNew (wOf sl wv) fr dep s0).1 f (plNew (wOf sl wv) fr dep s0).2 sl cnt (plH dep h) st LW wv) H := hP
      have hD : va_D A (TW g ad q (plNew (wOf sl wv) fr dep s0).1 f (plNew (wOf sl wv) fr dep s0).2 sl cnt (plH dep h) st LW wv) := hD
      have huse : mu (plDiv (wOf sl wv) fr dep s0).1.1 = mu dd.1.1 := by rw [hdd]
      refine rw_iA (va_runV (As := [.int (nI fr), .int (sT_bestLine s0.2 (wOf sl wv) fr), .int (nI (s0.2 0).length)]) (rest := []) ⟨hx, hb, hml, hown, ht⟩ (cT_divide l g H.size ad q f (plNew (wOf sl wv) fr dep s0) sl cnt (plH dep h) st LW wv hz hsl fr hfr2 (sT_bestLine s0.2 (wOf sl wv) fr) (nI (s0.2 0).length)) (cwV 3 ht (g_V q_353 q_355 q_5 q_33 q_356) rfl rfl rfl hd_T_divide ⟨by show 4 + 1 ≤ 5 + (D + 1); omega, by show 8 + (13 + 11) + 126 ≤ 158 + 25 * (D + 1); omega⟩) (rw_V hK hP hD (va_recv hK.1 hP (ci := 4) (q0 := 0) rfl rfl)) rfl rfl hl.1 rfl (lv_room (Nat.le_of_ble_eq_true rfl)) dT_plant_116 ⟨by show mu (plNew (wOf sl wv) fr dep s0).1 - mu s0.1 + (mu (plDiv (wOf sl wv) fr dep s0).1.1 - mu (plNew (wOf sl wv) fr dep s0).1) ≤ (mu ((sPl (wOf sl wv) (D + 1) fr s0 h).1).1 - mu s0.1); omega, by show mu (plNew (wOf sl wv) fr dep s0).1 - mu s0.1 + (mu (plDiv (wOf sl wv) fr dep s0).1.1 - mu (plNew (wOf sl wv) fr dep s0).1) ≤ (mu ((sPl (wOf sl wv) (D + 1) fr s0 h).1).1 - mu s0.1); omega⟩) hD hS hA (fun r u H locs hw hP hD hS => ?_)
      obtain ⟨q, f⟩ := u
      obtain ⟨hwr, hz⟩ := hw
      have hz : rowsT dd.1.1 f dd.1.2 := by rw [hdd]; exact hz
      have hP : va_P g.1 vwCl (TW g ad q dd.1.1 f dd.1.2 sl cnt (plH dep h) st LW wv) H := by rw [hdd]; exact hP
      have hD : va_D A (TW g ad q dd.1.1 f dd.1.2 sl cnt (plH dep h) st LW wv) := by rw [hdd]; exact hD
      obtain ⟨j9, hj9, ej9⟩ := divide_re (Wl := (wOf sl wv)) (fr := fr) (ln := (sT_bestLine s0.2 (wOf sl wv) fr)) (k := (nI (s0.2 0).length)) (s := plNew (wOf sl wv) fr dep s0) hfr2
      have hj4 : j9 ≤ 4096 := Nat.le_trans hj9 hlen
      have hjd : dd.2.toNatClampNeg = j9 := by rw [hdd]; exact (congrArg Int32.toNatClampNeg ej9).trans (nI_clamp (by omega))
      obtain rfl : r = nI dd.2.toNatClampNeg := by rw [hjd]; exact hwr.trans ej9
      have hle : mu s0.1 ≤ mu dd.1.1 := by omega
      refine W.widen (k := mu dd.1.1 - mu s0.1) (n := mu dd.1.1 - mu s0.1) (by show mu (plNew (wOf sl wv) fr dep s0).1 - mu s0.1 + (mu (plDiv (wOf sl wv) fr dep s0).1.1 - mu (plNew (wOf sl wv) fr dep s0).1) ≤ _; omega) (by show mu (plNew (wOf sl wv) fr dep s0).1 - mu s0.1 + (mu (plDiv (wOf sl wv) fr dep s0).1.1 - mu (plNew (wOf sl wv) fr dep s0).1) ≤ _; omega) ?_
      refine lv_istore (lv' := [(5, .int (nI dd.2.toNatClampNeg)), (4, .int (sT_bestLine s0.2 (wOf sl wv) fr)), (3, .int (nI (s0.2 0).length)), (0, .ref (ad 0)), (1, .int (nI fr)), (2, .int (nI dep))]) hx hb dT_plant_119 hl (by decide) rfl (fun ls hl => ?_)
      refine lv_aload_n hx hb dT_plant_121 rfl (lv_at hl 3 rfl) ?_
      refine va_get (D := g.1) (ci := 4) (v := .ref (ad 7)) (C := "NodeMaker$Tree") (T := Fd_T) (N := 13) hx hb ht i_T hown hK.1 hP 0 rfl rfl 2 (by decide) (ht _ q_105) (fun _ h9 => h9) rfl dT_plant_122 ?_
      refine lv_iload_n hx hb dT_plant_125 rfl (lv_at hl 2 rfl) ?_
      refine lv_aload_n hx hb dT_plant_126 rfl (lv_at hl 3 rfl) ?_
      refine lv_iload hx hb dT_plant_127 (lv_at hl 0 rfl) ?_
      refine lv_iload_n hx hb dT_plant_129 rfl (lv_at hl 5 rfl) ?_
      refine lv_iconst (v := 1) hx hb dT_plant_130 (by decide) ?_
      refine lv_iadd hx hb dT_plant_131 ?_
      rw [show (nI dep + 1 : Int32) = nI (dep + 1) from nI_1 _]
      have huse : mu (sPl (wOf sl wv) D dd.2.toNatClampNeg dd.1 (plH dep h)).1.1 = mu r1.1.1 := by rw [hr1]
      refine rw_iA (va_runV (As := [.int (nI dd.2.toNatClampNeg), .int (nI (dep + 1))]) (rest := [.int (nI (s0.2 0).length), .ref (ad 7)]) ⟨hx, hb, hml, hown, ht⟩ (IH H.size ad q f dd.1 sl cnt (plH dep h) st LW wv hz hsl dd.2.toNatClampNeg (dep + 1) (by omega) (by omega)) (cwV 2 ht (g_V q_296 q_298 q_1 q_33 q_299) rfl rfl rfl hd_T_plant ⟨by show (5 + D) + 1 ≤ 5 + (D + 1); omega, by show 8 + (6 + 11) + (158 + 25 * D) ≤ 158 + 25 * (D + 1); omega⟩) (rw_V hK hP hD (va_recv hK.1 hP (ci := 4) (q0 := 0) rfl rfl)) rfl rfl hl.1 rfl (lv_room (Nat.le_of_ble_eq_true rfl)) dT_plant_132 ⟨by show mu dd.1.1 - mu s0.1 + (mu (sPl (wOf sl wv) D dd.2.toNatClampNeg dd.1 (plH dep h)).1.1 - mu dd.1.1) ≤ (mu ((sPl (wOf sl wv) (D + 1) fr s0 h).1).1 - mu s0.1); omega, by show mu dd.1.1 - mu s0.1 + (mu (sPl (wOf sl wv) D dd.2.toNatClampNeg dd.1 (plH dep h)).1.1 - mu dd.1.1) ≤ (mu ((sPl (wOf sl wv) (D + 1) fr s0 h).1).1 - mu s0.1); omega⟩) hD hS hA (fun r u H locs hw hP hD hS => ?_)
      obtain ⟨q, f⟩ := u
      obtain ⟨hwr, hz⟩ := hw
      have hz : rowsT r1.1.1 f r1.1.2 := by rw [hr1]; exact hz
      have hP : va_P g.1 vwCl (TW g ad q r1.1.1 f r1.1.2 sl cnt r1.2.1 st LW wv) H := by rw [hr1]; exact hP
      have hD : va_D A (TW g ad q r1.1.1 f r1.1.2 sl cnt r1.2.1 st LW wv) := by rw [hr1]; exact hD
      obtain rfl : r = r1.2.2 := by rw [hr1]; exact hwr
      have hle2 : mu s0.1 ≤ mu r1.1.1 := by omega
      refine W.widen (k := mu r1.1.1 - mu s0.1) (n := mu r1.1.1 - mu s0.1) (by show mu dd.1.1 - mu s0.1 + (mu (sPl (wOf sl wv) D dd.2.toNatClampNeg dd.1 (plH dep h)).1.1 - mu dd.1.1) ≤ _; omega) (by show mu dd.1.1 - mu s0.1 + (mu (sPl (wOf sl wv) D dd.2.toNatClampNeg dd.1 (plH dep h)).1.1 - mu dd.1.1) ≤ _; omega) ?_
      have hle : mu s0.1 ≤ mu r1.1.1 := hle2
      refine tr_set_1 ⟨hx, hb, hml, hown, ht⟩ q_365 ⟨by show 0 + 1 ≤ 5 + (D + 1); omega, by show 8 + (3 + 11) + 0 ≤ 158 + 25 * (D + 1); omega⟩ hK hz hP hD hS hA hl.1 (Nat.le_of_ble_eq_true rfl) dT_plant_135 ⟨by show mu r1.1.1 - mu s0.1 + 0 ≤ (mu ((sPl (wOf sl wv) (D + 1) fr s0 h).1).1 - mu s0.1); omega, by show mu r1.1.1 - mu s0.1 + 0 ≤ (mu ((sPl (wOf sl wv) (D + 1) fr s0 h).1).1 - mu s0.1); omega⟩ (fun q f H locs hz hP hD hS => ?_)
      have hz : rowsT (oSet 1 (nI (s0.2 0).length) r1.2.2 r1.1).1 f (oSet 1 (nI (s0.2 0).length) r1.2.2 r1.1).2 := hz
      have hP : va_P g.1 vwCl (TW g ad q (oSet 1 (nI (s0.2 0).length) r1.2.2 r1.1).1 f (oSet 1 (nI (s0.2 0).length) r1.2.2 r1.1).2 sl cnt r1.2.1 st LW wv) H := hP
      have hD : va_D A (TW g ad q (oSet 1 (nI (s0.2 0).length) r1.2.2 r1.1).1 f (oSet 1 (nI (s0.2 0).length) r1.2.2 r1.1).2 sl cnt r1.2.1 st LW wv) := hD
      have hle : mu s0.1 ≤ mu (oSet 1 (nI (s0.2 0).length) r1.2.2 r1.1).1 := hle
      refine W.widen (k := mu (oSet 1 (nI (s0.2 0).length) r1.2.2 r1.1).1 - mu s0.1) (n := mu (oSet 1 (nI (s0.2 0).length) r1.2.2 r1.1).1 - mu s0.1) (Nat.le_refl _) (Nat.le_refl _) ?_
      rw [← hs7] at hz hP hD hle
      have hle : mu s0.1 ≤ mu s7.1 := hle
      rw [← hs7]
      have hm7 : mu s7.1 = mu r1.1.1 := by rw [hs7]; rfl
      refine lv_aload_n hx hb dT_plant_138 rfl (lv_at hl 3 rfl) ?_
      refine va_get (D := g.1) (ci := 4) (v := .ref (ad 8)) (C := "NodeMaker$Tree") (T := Fd_T) (N := 13) hx hb ht i_T hown hK.1 hP 0 rfl rfl 3 (by decide) (ht _ q_106) (fun _ h9 => h9) rfl dT_plant_139 ?_
      refine lv_iload_n hx hb dT_plant_142 rfl (lv_at hl 2 rfl) ?_
      refine lv_aload_n hx hb dT_plant_143 rfl (lv_at hl 3 rfl) ?_
      refine lv_iload_n hx hb dT_plant_144 rfl (lv_at hl 4 rfl) ?_
      refine lv_iload_n hx hb dT_plant_145 rfl (lv_at hl 5 rfl) ?_
      refine lv_iconst (v := 1) hx hb dT_plant_146 (by decide) ?_
      refine lv_iadd hx hb dT_plant_147 ?_
      rw [show (nI dep + 1 : Int32) = nI (dep + 1) from nI_1 _]
      have huse : mu (sPl (wOf sl wv) D fr s7 r1.2.1).1.1 = mu r2.1.1 := by rw [hr2]
      refine rw_iA (va_runV (As := [.int (nI fr), .int (nI (dep + 1))]) (rest := [.int (nI (s0.2 0).length), .ref (ad 8)]) ⟨hx, hb, hml, hown, ht⟩ (IH H.size ad q f s7 sl cnt r1.2.1 st LW wv hz hsl fr (dep + 1) hfr (by omega)) (cwV 2 ht (g_V q_296 q_298 q_1 q_33 q_299) rfl rfl rfl hd_T_plant ⟨by show (5 + D) + 1 ≤ 5 + (D + 1); omega, by show 8 + (6 + 11) + (158 + 25 * D) ≤ 158 + 25 * (D + 1); omega⟩) (rw_V hK hP hD (va_recv hK.1 hP (ci := 4) (q0 := 0) rfl rfl)) rfl rfl hl.1 rfl (lv_room (Nat.le_of_ble_eq_true rfl)) dT_plant_148 ⟨by show mu s7.1 - mu s0.1 + (mu (sPl (wOf sl wv) D fr s7 r1.2.1).1.1 - mu s7.1) ≤ (mu ((sPl (wOf sl wv) (D + 1) fr s0 h).1).1 - mu s0.1); omega, by show mu s7.1 - mu s0.1 + (mu (sPl (wOf sl wv) D fr s7 r1.2.1).1.1 - mu s7.1) ≤ (mu ((sPl (wOf sl wv) (D + 1) fr s0 h).1).1 - mu s0.1); omega⟩) hD hS hA (fun r u H locs hw hP hD hS => ?_)
      obtain ⟨q, f⟩ := u
      obtain ⟨hwr, hz⟩ := hw
      have hz : rowsT r2.1.1 f r2.1.2 := by rw [hr2]; exact hz
      have hP : va_P g.1 vwCl (TW g ad q r2.1.1 f r2.1.2 sl cnt r2.2.1 st LW wv) H := by rw [hr2]; exact hP
      have hD : va_D A (TW g ad q r2.1.1 f r2.1.2 sl cnt r2.2.1 st LW wv) := by rw [hr2]; exact hD
      obtain rfl : r = r2.2.2 := by rw [hr2]; exact hwr
      have hle2 : mu s0.1 ≤ mu r2.1.1 := by omega
      refine W.widen (k := mu r2.1.1 - mu s0.1) (n := mu r2.1.1 - mu s0.1) (by show mu s7.1 - mu s0.1 + (mu (sPl (wOf sl wv) D fr s7 r1.2.1).1.1 - mu s7.1) ≤ _; omega) (by show mu s7.1 - mu s0.1 + (mu (sPl (wOf sl wv) D fr s7 r1.2.1).1.1 - mu s7.1) ≤ _; omega) ?_
      have hle : mu s0.1 ≤ mu r2.1.1 := hle2
      refine tr_set_2 ⟨hx, hb, hml, hown, ht⟩ q_365 ⟨by show 0 + 1 ≤ 5 + (D + 1); omega, by show 8 + (3 + 11) + 0 ≤ 158 + 25 * (D + 1); omega⟩ hK hz hP hD hS hA hl.1 (Nat.le_of_ble_eq_true rfl) dT_plant_151 ⟨by show mu r2.1.1 - mu s0.1 + 0 ≤ (mu ((sPl (wOf sl wv) (D + 1) fr s0 h).1).1 - mu s0.1); omega, by show mu r2.1.1 - mu s0.1 + 0 ≤ (mu ((sPl (wOf sl wv) (D + 1) fr s0 h).1).1 - mu s0.1); omega⟩ (fun q f H locs hz hP hD hS => ?_)
      have hz : rowsT (oSet 2 (nI (s0.2 0).length) r2.2.2 r2.1).1 f (oSet 2 (nI (s0.2 0).length) r2.2.2 r2.1).2 := hz
      have hP : va_P g.1 vwCl (TW g ad q (oSet 2 (nI (s0.2 0).length) r2.2.2 r2.1).1 f (oSet 2 (nI (s0.2 0).length) r2.2.2 r2.1).2 sl cnt r2.2.1 st LW wv) H := hP
      have hD : va_D A (TW g ad q (oSet 2 (nI (s0.2 0).length) r2.2.2 r2.1).1 f (oSet 2 (nI (s0.2 0).length) r2.2.2 r2.1).2 sl cnt r2.2.1 st LW wv) := hD
      have hle : mu s0.1 ≤ mu (oSet 2 (nI (s0.2 0).length) r2.2.2 r2.1).1 := hle
      refine W.widen (k := mu (oSet 2 (nI (s0.2 0).length) r2.2.2 r2.1).1 - mu s0.1) (n := mu (oSet 2 (nI (s0.2 0).length) r2.2.2 r2.1).1 - mu s0.1) (Nat.le_refl _) (Nat.le_refl _) ?_
      rw [← hs8] at hz hP hD hle
      have hle : mu s0.1 ≤ mu s8.1 := hle
      rw [← hs8]
      have hm8 : mu s8.1 = mu r2.1.1 := by rw [hs8]; rfl
      refine lv_aload_n hx hb dT_plant_154 rfl (lv_at hl 3 rfl) ?_
      refine va_get (D := g.1) (ci := 4) (v := .ref (ad 9)) (C := "NodeMaker$Tree") (T := Fd_T) (N := 13) hx hb ht i_T hown hK.1 hP 0 rfl rfl 4 (by decide) (ht _ q_107) (fun _ h9 => h9) rfl dT_plant_155 ?_
      refine lv_iload_n hx hb dT_plant_158 rfl (lv_at hl 2 rfl) ?_
      refine lv_aload_n hx hb dT_plant_159 rfl (lv_at hl 3 rfl) ?_
      refine va_get (D := g.1) (ci := 4) (v := .ref (ad 6)) (C := "NodeMaker$Tree") (T := Fd_T) (N := 13) hx hb ht i_T hown hK.1 hP 0 rfl rfl 1 (by decide) (ht _ q_104) (fun _ h9 => h9) rfl dT_plant_160 ?_
      have hPc := hP.sub (ws' := rowW g (ad 6) (q 0) (s8.1 0) (f 0) (s8.2 0).length) [6, 7] rfl
      refine ro_Vi (v := nI (s8.2 0).length) (As := []) (rest := [.int (nI (s0.2 0).length), .ref (ad 9)]) ⟨hx, hb, hml, hown, ht⟩ (cR_count l g (ad 6) (q 0) (s8.1 0) (f 0) (s8.2 0)) (cwV 0 ht (g_V q_308 q_305 q_306 q_35 q_307) rfl rfl rfl hd_R_count ⟨by show 0 + 1 ≤ 5 + (D + 1); omega, by show 8 + (1 + 11) + 0 ≤ 158 + 25 * (D + 1); omega⟩) hK (hPc) (va_recv hK.1 hPc (ci := 0) (q0 := 0) rfl rfl) rfl hl.1 rfl (Nat.le_of_ble_eq_true rfl) dT_plant_163 ⟨by show mu s8.1 - mu s0.1 ≤ (mu ((sPl (wOf sl wv) (D + 1) fr s0 h).1).1 - mu s0.1); omega, by show mu s8.1 - mu s0.1 ≤ (mu ((sPl (wOf sl wv) (D + 1) fr s0 h).1).1 - mu s0.1); omega⟩ ?_
      refine lv_iload_n hx hb dT_plant_166 rfl (lv_at hl 2 rfl) ?_
      refine lv_isub hx hb dT_plant_167 ?_
      refine tr_set_3 ⟨hx, hb, hml, hown, ht⟩ q_365 ⟨by show 0 + 1 ≤ 5 + (D + 1); omega, by show 8 + (3 + 11) + 0 ≤ 158 + 25 * (D + 1); omega⟩ hK hz hP hD hS hA hl.1 (Nat.le_of_ble_eq_true rfl) dT_plant_168 ⟨by show mu s8.1 - mu s0.1 + 0 ≤ (mu ((sPl (wOf sl wv) (D + 1) fr s0 h).1).1 - mu s0.1); omega, by show mu s8.1 - mu s0.1 + 0 ≤ (mu ((sPl (wOf sl wv) (D + 1) fr s0 h).1).1 - mu s0.1); omega⟩ (fun q f H locs hz hP hD hS => ?_)
      have hz : rowsT (oSet 3 (nI (s0.2 0).length) ((nI (s8.2 0).length) - (nI (s0.2 0).length)) s8).1 f (oSet 3 (nI (s0.2 0).length) ((nI (s8.2 0).length) - (nI (s0.2 0).length)) s8).2 := hz
      have hP : va_P g.1 vwCl (TW g ad q (oSet 3 (nI (s0.2 0).length) ((nI (s8.2 0).length) - (nI (s0.2 0).length)) s8).1 f (oSet 3 (nI (s0.2 0).length) ((nI (s8.2 0).length) - (nI (s0.2 0).length)) s8).2 sl cnt r2.2.1 st LW wv) H := hP
      have hD : va_D A (TW g ad q (oSet 3 (nI (s0.2 0).length) ((nI (s8.2 0).length) - (nI (s0.2 0).length)) s8).1 f (oSet 3 (nI (s0.2 0).length) ((nI (s8.2 0).length) - (nI (s0.2 0).length)) s8).2 sl cnt r2.2.1 st LW wv) := hD
      have hle : mu s0.1 ≤ mu (oSet 3 (nI (s0.2 0).length) ((nI (s8.2 0).length) - (nI (s0.2 0).length)) s8).1 := hle
      refine W.widen (k := mu (oSet 3 (nI (s0.2 0).length) ((nI (s8.2 0).length) - (nI (s0.2 0).length)) s8).1 - mu s0.1) (n := mu (oSet 3 (nI (s0.2 0).length) ((nI (s8.2 0).length) - (nI (s0.2 0).length)) s8).1 - mu s0.1) (Nat.le_refl _) (Nat.le_refl _) ?_
      refine lv_iload_n hx hb dT_plant_171 rfl (lv_at hl 2 rfl) ?_
      have hz9 : rowsT ((sPl (wOf sl wv) (D + 1) fr s0 h).1).1 f ((sPl (wOf sl wv) (D + 1) fr s0 h).1).2 := by rw [hEF]; exact hz
      have hP9 : va_P g.1 vwCl (TW g ad q ((sPl (wOf sl wv) (D + 1) fr s0 h).1).1 f ((sPl (wOf sl wv) (D + 1) fr s0 h).1).2 sl cnt (sPl (wOf sl wv) (D + 1) fr s0 h).2.1 st LW wv) H := by rw [hEF]; exact hP
      have hD9 : va_D A (TW g ad q ((sPl (wOf sl wv) (D + 1) fr s0 h).1).1 f ((sPl (wOf sl wv) (D + 1) fr s0 h).1).2 sl cnt (sPl (wOf sl wv) (D + 1) fr s0 h).2.1 st LW wv) := by rw [hEF]; exact hD
      have hmF : mu ((sPl (wOf sl wv) (D + 1) fr s0 h).1).1 = mu (oSet 3 (nI (s0.2 0).length) ((nI (s8.2 0).length) - (nI (s0.2 0).length)) s8).1 := by rw [hEF]
      refine W.widen (k := (mu ((sPl (wOf sl wv) (D + 1) fr s0 h).1).1 - mu s0.1)) (n := (mu ((sPl (wOf sl wv) (D + 1) fr s0 h).1).1 - mu s0.1)) (by omega) (by omega) ?_
      exact W.iret hx hb hr (fun t ht9 hW => ⟨⟨_, (q, f), rfl, ⟨by rw [hEF], hz9⟩, by rw [ht9]; exact hP9, hD9⟩, hS.F ht9⟩) hS.2.2 dT_plant_172
    · skip
      exact absurd ((nI_ltI (b := 64) (by omega) (by decide)).mpr (by omega)) c_4
theorem cT_plant (l : Launch) (g : CX) (D : Nat) : PlantOK l g D := by
  induction D with
  | zero => exact plant_0 l g
  | succ D ih => exact plant_S l g D ih
