def sN_quotient (Wl : Nat → Option WV) (s0 : TSt) (h st cnt hw wx wy : Int32) (k : Int32) (i : Int32) (wh : Int32) : (TSt × Int32 × Int32) × Int64 :=
  if (sT_pieceAt (sT_grow Wl s0 h st).1.2 Wl k i) = (-1) then
    (((sT_grow Wl s0 h st).1, (sT_grow Wl s0 h st).2.1, (sT_grow Wl s0 h st).2.2), (-1))
  else
    if wh < 0 then
      (((sT_grow Wl s0 h st).1, (sT_grow Wl s0 h st).2.1, (sT_grow Wl s0 h st).2.2), (-1))
    else
      if wh ≤ 3 then
        if wh < 2 then
          if (wh - wh / 2 * 2) = 0 then
            (((sT_grow Wl s0 h st).1, (sT_grow Wl s0 h st).2.1, (sT_grow Wl s0 h st).2.2), (sT_quotientOf (sT_grow Wl s0 h st).1.2 Wl (sT_pieceAt (sT_grow Wl s0 h st).1.2 Wl k i) 0 1))
          else
            (((sT_grow Wl s0 h st).1, (sT_grow Wl s0 h st).2.1, (sT_grow Wl s0 h st).2.2), (sT_quotientOf (sT_grow Wl s0 h st).1.2 Wl (sT_pieceAt (sT_grow Wl s0 h st).1.2 Wl k i) 0 0))
        else
          if (wh - wh / 2 * 2) = 0 then
            (((sT_grow Wl s0 h st).1, (sT_grow Wl s0 h st).2.1, (sT_grow Wl s0 h st).2.2), (sT_quotientOf (sT_grow Wl s0 h st).1.2 Wl (sT_pieceAt (sT_grow Wl s0 h st).1.2 Wl k i) 1 1))
          else
            (((sT_grow Wl s0 h st).1, (sT_grow Wl s0 h st).2.1, (sT_grow Wl s0 h st).2.2), (sT_quotientOf (sT_grow Wl s0 h st).1.2 Wl (sT_pieceAt (sT_grow Wl s0 h st).1.2 Wl k i) 1 0))
      else
        (((sT_grow Wl s0 h st).1, (sT_grow Wl s0 h st).2.1, (sT_grow Wl s0 h st).2.2), (-1))
set_option maxHeartbeats 4000000 in
set_option maxRecDepth 100000 in
theorem cN_quotient (l : Launch) (g : CX) (sz : Nat) (aN : Nat) (hw wx wy : Int32) (ad q : Nat → Nat) (f : Nat → Nat → Int32) (s0 : TSt) (sl : Nat → Option Nat) (cnt h st : Int32) (LW : List Nat) (wv : Nat → WV) (hz : rowsT s0.1 f s0.2) (hsl : slOK sl LW) (k : Int32) (i : Int32) (wh : Int32) : Met l yN_quotient (wm yN_quotient kN_quotient 5 (some .long)) ({ frames := 7, cells := (mu (sN_quotient (wOf sl wv) s0 h st cnt hw wx wy k i wh).1.1.1 - mu s0.1), slots := (mu (sN_quotient (wOf sl wv) s0 h st cnt hw wx wy k i wh).1.1.1 - mu s0.1), locals := 206 }) (rw g [.ref aN, .int k, .int i, .int wh] (nX g aN hw wx wy ad q s0.1 f s0.2 sl cnt h st ++ plW LW wv) sz) (va_Ql (fun (r : Int64) (u : (Nat → Nat) × (Nat → Nat → Int32)) => r = (sN_quotient (wOf sl wv) s0 h st cnt hw wx wy k i wh).2 ∧ rowsT (sN_quotient (wOf sl wv) s0 h st cnt hw wx wy k i wh).1.1.1 u.2 (sN_quotient (wOf sl wv) s0 h st cnt hw wx wy k i wh).1.1.2) (rB g (va_A (nX g aN hw wx wy ad q s0.1 f s0.2 sl cnt h st ++ plW LW wv) sz) (fun u => (nX g aN hw wx wy ad u.1 (sN_quotient (wOf sl wv) s0 h st cnt hw wx wy k i wh).1.1.1 u.2 (sN_quotient (wOf sl wv) s0 h st cnt hw wx wy k i wh).1.1.2 sl cnt (sN_quotient (wOf sl wv) s0 h st cnt hw wx wy k i wh).1.2.1 (sN_quotient (wOf sl wv) s0 h st cnt hw wx wy k i wh).1.2.2 ++ plW LW wv))) (va_A (nX g aN hw wx wy ad q s0.1 f s0.2 sl cnt h st ++ plW LW wv) sz)) (mu (sN_quotient (wOf sl wv) s0 h st cnt hw wx wy k i wh).1.1.1 - mu s0.1) (mu (sN_quotient (wOf sl wv) s0 h st cnt hw wx wy k i wh).1.1.1 - mu s0.1) (va_A (nX g aN hw wx wy ad q s0.1 f s0.2 sl cnt h st ++ plW LW wv) sz) := by
  refine Met.ofW (cc := kN_quotient) (maxL := 5) (ret := (some .long)) (by decide) rfl ?_
  intro p e s m args below meth c s₁ B hml hv
  obtain ⟨rfl, hsz, hK, hP, hD0⟩ := hv
  have hx := B.exec
  have hb := B.bytes
  have hr := B.returns
  have ht : ∀ w ∈ wT, w.before _ s = true := fun w h => atoms_spec (ws := wm yN_quotient kN_quotient 5 (some .long)) B.pre w (List.mem_cons_of_mem _ h)
  have hown : s.vm.findClass "NodeMaker" = some m.cls := findClass_of_methodNamed B.named
  have hlocks := B.notSynchronized
  subst hsz
  have hD := hD0.self (sz := s.heap.size)
  generalize hAe : va_A (nX g aN hw wx wy ad q s0.1 f s0.2 sl cnt h st ++ plW LW wv) s.heap.size = A at hD ⊢
  have hA : ∀ q : Nat, s.heap.size ≤ q → A q := fun q h => by rw [← hAe]; exact Or.inr h
  have hS : va_S A s.heap s.heap [] := va_S.rf
  have hl := lv_entry ([.ref aN, .int k, .int i, .int wh]) (n := 5) (Nat.le_of_ble_eq_true rfl)
  rw [lg_entry_eq]
  generalize (lg_sl ([.ref aN, .int k, .int i, .int wh]) ++ List.replicate (5 - (lg_sl ([.ref aN, .int k, .int i, .int wh])).length) Slot.unset).toArray = ls at hl ⊢
  have hl : lv_has ls 5 [(0, .ref aN), (1, .int k), (2, .int i), (3, .int wh)] := hl
  refine lv_aload_n hx hb dN_quotient_0 rfl (lv_at hl 0 rfl) ?_
  refine va_get (D := g.1) (ci := 5) (v := .ref (ad 0)) (C := "NodeMaker") (T := Fd_N) (N := 4) hx hb ht i_N hown hK.1 hP 0 rfl rfl 0 (by decide) (ht _ q_154) (fun _ h9 => h9) rfl dN_quotient_1 ?_
  have hPt : va_P g.1 vwCl (treeX g ad q s0.1 f s0.2 sl cnt h st ++ plW LW wv) s.heap := pl_P hP [1, 2, 3, 4, 5, 6, 7, 8, 9, 10, 11, 12, 13, 14, 15, 16, 17, 18, 19, 20, 21, 22, 23, 24, 25, 26, 27, 28, 29, 30, 31, 32, 33, 34, 35, 36, 37, 38, 39, 40, 41, 42, 43, 44] rfl
  have hDt : va_D A (treeX g ad q s0.1 f s0.2 sl cnt h st ++ plW LW wv) := pl_D hD [1, 2, 3, 4, 5, 6, 7, 8, 9, 10, 11, 12, 13, 14, 15, 16, 17, 18, 19, 20, 21, 22, 23, 24, 25, 26, 27, 28, 29, 30, 31, 32, 33, 34, 35, 36, 37, 38, 39, 40, 41, 42, 43, 44] (by decide) rfl
  have hFG : (sN_quotient (wOf sl wv) s0 h st cnt hw wx wy k i wh).1 = sT_grow (wOf sl wv) s0 h st := by rw [sN_quotient]; all_goals ((repeat' split) <;> rfl)
  have hFm : mu (sN_quotient (wOf sl wv) s0 h st cnt hw wx wy k i wh).1.1.1 = mu (sT_grow (wOf sl wv) s0 h st).1.1 := by rw [hFG]
  have hgm : mu s0.1 ≤ mu (sT_grow (wOf sl wv) s0 h st).1.1 := grow_mono _ _ _ _
  obtain ⟨gs, hgs⟩ : ∃ x, x = sT_grow (wOf sl wv) s0 h st := ⟨_, rfl⟩
  refine rw_vP (X := nX g aN hw wx wy ad q s0.1 f s0.2 sl cnt h st) (pl := plW LW wv) (cx := treeX g ad q s0.1 f s0.2 sl cnt h st) (rx := fun (u : (Nat → Nat) × (Nat → Nat → Int32)) => treeX g ad u.1 (sT_grow (wOf sl wv) s0 h st).1.1 u.2 (sT_grow (wOf sl wv) s0 h st).1.2 sl cnt (sT_grow (wOf sl wv) s0 h st).2.1 (sT_grow (wOf sl wv) s0 h st).2.2) (pl1 := fun _ => plW LW wv) (wr := [(aN, .inr (5, [.ref (ad 0), .int hw, .int wx, .int wy]))]) (va_runV (As := []) (rest := []) ⟨hx, hb, hml, hown, ht⟩ (cT_grow l g s.heap.size ad q f s0 sl cnt h st LW wv hz hsl) (cwV 0 ht (g_V q_267 q_268 q_269 q_35 q_270) rfl rfl rfl hd_T_grow ⟨Nat.le_of_ble_eq_true rfl, Nat.le_of_ble_eq_true rfl⟩) (rw_V hK hPt hDt (va_recv hK.1 hPt (ci := 4) (q0 := 0) rfl rfl)) rfl rfl hl.1 rfl (lv_room (Nat.le_of_ble_eq_true rfl)) dN_quotient_4 ⟨by show 0 + (mu (sT_grow (wOf sl wv) s0 h st).1.1 - mu s0.1) ≤ (mu (sN_quotient (wOf sl wv) s0 h st cnt hw wx wy k i wh).1.1.1 - mu s0.1); omega, by show 0 + (mu (sT_grow (wOf sl wv) s0 h st).1.1 - mu s0.1) ≤ (mu (sN_quotient (wOf sl wv) s0 h st cnt hw wx wy k i wh).1.1.1 - mu s0.1); omega⟩) hP hD hS hA [1, 2, 3, 4, 5, 6, 7, 8, 9, 10, 11, 12, 13, 14, 15, 16, 17, 18, 19, 20, 21, 22, 23, 24, 25, 26, 27, 28, 29, 30, 31, 32, 33, 34, 35, 36, 37, 38, 39, 40, 41, 42, 43, 44] [0] rfl rfl (by decide) (by decide) (fun u H locs hw9 hP hD hS => ?_)
  obtain ⟨q, f⟩ := u
  have hz : rowsT gs.1.1 f gs.1.2 := by rw [hgs]; exact hw9
  have hP : va_P g.1 vwCl (nX g aN hw wx wy ad q gs.1.1 f gs.1.2 sl cnt gs.2.1 gs.2.2 ++ plW LW wv) H := by rw [hgs]; exact hP
  have hD : va_D A (nX g aN hw wx wy ad q gs.1.1 f gs.1.2 sl cnt gs.2.1 gs.2.2 ++ plW LW wv) := by rw [hgs]; exact hD
  have hgu : mu (sT_grow (wOf sl wv) s0 h st).1.1 = mu gs.1.1 := by rw [hgs]
  have hgm : mu s0.1 ≤ mu gs.1.1 := by rw [hgs]; exact grow_mono _ _ _ _
  rw [← hgs] at hFG
  refine W.widen (k := mu gs.1.1 - mu s0.1) (n := mu gs.1.1 - mu s0.1) (by show 0 + (mu (sT_grow (wOf sl wv) s0 h st).1.1 - mu s0.1) ≤ _; omega) (by show 0 + (mu (sT_grow (wOf sl wv) s0 h st).1.1 - mu s0.1) ≤ _; omega) ?_
  refine lv_aload_n hx hb dN_quotient_7 rfl (lv_at hl 0 rfl) ?_
  refine va_get (D := g.1) (ci := 5) (v := .ref (ad 0)) (C := "NodeMaker") (T := Fd_N) (N := 4) hx hb ht i_N hown hK.1 hP 0 rfl rfl 0 (by decide) (ht _ q_154) (fun _ h9 => h9) rfl dN_quotient_8 ?_
  refine lv_iload_n hx hb dN_quotient_11 rfl (lv_at hl 1 rfl) ?_
  refine lv_iload_n hx hb dN_quotient_12 rfl (lv_at hl 2 rfl) ?_
  have hPt : va_P g.1 vwCl (treeX g ad q gs.1.1 f gs.1.2 sl cnt gs.2.1 gs.2.2 ++ plW LW wv) H := pl_P hP [1, 2, 3, 4, 5, 6, 7, 8, 9, 10, 11, 12, 13, 14, 15, 16, 17, 18, 19, 20, 21, 22, 23, 24, 25, 26, 27, 28, 29, 30, 31, 32, 33, 34, 35, 36, 37, 38, 39, 40, 41, 42, 43, 44] rfl
  refine ro_Vi (v := sT_pieceAt gs.1.2 (wOf sl wv) k i) (As := [.int k, .int i]) (rest := []) ⟨hx, hb, hml, hown, ht⟩ (cT_pieceAt l g ad q gs.1.1 f gs.1.2 sl cnt gs.2.1 gs.2.2 LW wv hz hsl k i) (cwV 2 ht (g_V q_424 q_425 q_426 q_35 q_427) rfl rfl rfl hd_T_pieceAt ⟨Nat.le_of_ble_eq_true rfl, Nat.le_of_ble_eq_true rfl⟩) hK (hPt) (va_recv hK.1 hPt (ci := 4) (q0 := 0) rfl rfl) rfl hl.1 rfl (Nat.le_of_ble_eq_true rfl) dN_quotient_13 ⟨by show mu gs.1.1 - mu s0.1 ≤ (mu (sN_quotient (wOf sl wv) s0 h st cnt hw wx wy k i wh).1.1.1 - mu s0.1); omega, by show mu gs.1.1 - mu s0.1 ≤ (mu (sN_quotient (wOf sl wv) s0 h st cnt hw wx wy k i wh).1.1.1 - mu s0.1); omega⟩ ?_
  refine lv_istore (lv' := [(4, .int (sT_pieceAt gs.1.2 (wOf sl wv) k i)), (0, .ref aN), (1, .int k), (2, .int i), (3, .int wh)]) hx hb dN_quotient_16 hl (by decide) rfl (fun ls hl => ?_)
  refine lv_iload hx hb dN_quotient_18 (lv_at hl 0 rfl) ?_
  refine lv_iconst (v := -1) hx hb dN_quotient_20 (by decide) ?_
  refine lv_icmp_eq (tgt := 33) hx hb dN_quotient_21 (by decide) (fun c_1 => ?_) (fun c_1 => ?_)
  · skip
    refine lv_ldc2 (v := (-1)) hx hb hown (ht _ q_437) dN_quotient_33 ?_
    have hEF : (sN_quotient (wOf sl wv) s0 h st cnt hw wx wy k i wh) = ((gs.1, gs.2.1, gs.2.2), (-1)) := by subst hgs; rw [sN_quotient, if_pos c_1]
    have hz9 : rowsT (sN_quotient (wOf sl wv) s0 h st cnt hw wx wy k i wh).1.1.1 f (sN_quotient (wOf sl wv) s0 h st cnt hw wx wy k i wh).1.1.2 := by rw [hEF]; exact hz
    have hP9 : va_P g.1 vwCl (nX g aN hw wx wy ad q ((sN_quotient (wOf sl wv) s0 h st cnt hw wx wy k i wh).1.1).1 f ((sN_quotient (wOf sl wv) s0 h st cnt hw wx wy k i wh).1.1).2 sl cnt ((sN_quotient (wOf sl wv) s0 h st cnt hw wx wy k i wh).1.2.1) ((sN_quotient (wOf sl wv) s0 h st cnt hw wx wy k i wh).1.2.2) ++ plW LW wv) H := by rw [hEF]; exact hP
    have hD9 : va_D A (nX g aN hw wx wy ad q ((sN_quotient (wOf sl wv) s0 h st cnt hw wx wy k i wh).1.1).1 f ((sN_quotient (wOf sl wv) s0 h st cnt hw wx wy k i wh).1.1).2 sl cnt ((sN_quotient (wOf sl wv) s0 h st cnt hw wx wy k i wh).1.2.1) ((sN_quotient (wOf sl wv) s0 h st cnt hw wx wy k i wh).1.2.2) ++ plW LW wv) := by rw [hEF]; exact hD
    have hmF : mu (sN_quotient (wOf sl wv) s0 h st cnt hw wx wy k i wh).1.1.1 = mu gs.1.1 := by rw [hEF]
    refine W.widen (k := (mu (sN_quotient (wOf sl wv) s0 h st cnt hw wx wy k i wh).1.1.1 - mu s0.1)) (n := (mu (sN_quotient (wOf sl wv) s0 h st cnt hw wx wy k i wh).1.1.1 - mu s0.1)) (by omega) (by omega) ?_
    exact W.lret hx hb hr (fun t ht9 hW => ⟨⟨_, (q, f), rfl, ⟨by rw [hEF], hz9⟩, by rw [ht9]; exact hP9, hD9⟩, hS.F ht9⟩) hS.2.2 dN_quotient_36
  · skip
    refine lv_iload_n hx hb dN_quotient_24 rfl (lv_at hl 4 rfl) ?_
    refine lv_if_lt (tgt := 33) hx hb dN_quotient_25 (by decide) (fun c_2 => ?_) (fun c_2 => ?_)
    · skip
      refine lv_ldc2 (v := (-1)) hx hb hown (ht _ q_437) dN_quotient_33 ?_
      have hEF : (sN_quotient (wOf sl wv) s0 h st cnt hw wx wy k i wh) = ((gs.1, gs.2.1, gs.2.2), (-1)) := by subst hgs; rw [sN_quotient, if_neg c_1, if_pos c_2]
      have hz9 : rowsT (sN_quotient (wOf sl wv) s0 h st cnt hw wx wy k i wh).1.1.1 f (sN_quotient (wOf sl wv) s0 h st cnt hw wx wy k i wh).1.1.2 := by rw [hEF]; exact hz
      have hP9 : va_P g.1 vwCl (nX g aN hw wx wy ad q ((sN_quotient (wOf sl wv) s0 h st cnt hw wx wy k i wh).1.1).1 f ((sN_quotient (wOf sl wv) s0 h st cnt hw wx wy k i wh).1.1).2 sl cnt ((sN_quotient (wOf sl wv) s0 h st cnt hw wx wy k i wh).1.2.1) ((sN_quotient (wOf sl wv) s0 h st cnt hw wx wy k i wh).1.2.2) ++ plW LW wv) H := by rw [hEF]; exact hP
      have hD9 : va_D A (nX g aN hw wx wy ad q ((sN_quotient (wOf sl wv) s0 h st cnt hw wx wy k i wh).1.1).1 f ((sN_quotient (wOf sl wv) s0 h st cnt hw wx wy k i wh).1.1).2 sl cnt ((sN_quotient (wOf sl wv) s0 h st cnt hw wx wy k i wh).1.2.1) ((sN_quotient (wOf sl wv) s0 h st cnt hw wx wy k i wh).1.2.2) ++ plW LW wv) := by rw [hEF]; exact hD
      have hmF : mu (sN_quotient (wOf sl wv) s0 h st cnt hw wx wy k i wh).1.1.1 = mu gs.1.1 := by rw [hEF]
      refine W.widen (k := (mu (sN_quotient (wOf sl wv) s0 h st cnt hw wx wy k i wh).1.1.1 - mu s0.1)) (n := (mu (sN_quotient (wOf sl wv) s0 h st cnt hw wx wy k i wh).1.1.1 - mu s0.1)) (by omega) (by omega) ?_
      exact W.lret hx hb hr (fun t ht9 hW => ⟨⟨_, (q, f), rfl, ⟨by rw [hEF], hz9⟩, by rw [ht9]; exact hP9, hD9⟩, hS.F ht9⟩) hS.2.2 dN_quotient_36
    · skip
      refine lv_iload_n hx hb dN_quotient_28 rfl (lv_at hl 4 rfl) ?_
      refine lv_iconst (v := 3) hx hb dN_quotient_29 (by decide) ?_
      refine lv_icmp_le (tgt := 37) hx hb dN_quotient_30 (by decide) (fun c_3 => ?_) (fun c_3 => ?_)
      · skip
        refine lv_aload_n hx hb dN_quotient_37 rfl (lv_at hl 1 rfl) ?_
        refine va_get (D := g.1) (ci := 5) (v := .ref (ad 0)) (C := "NodeMaker") (T := Fd_N) (N := 4) hx hb ht i_N hown hK.1 hP 0 rfl rfl 0 (by decide) (ht _ q_154) (fun _ h9 => h9) rfl dN_quotient_38 ?_
        refine lv_iload hx hb dN_quotient_41 (lv_at hl 0 rfl) ?_
        refine lv_iload_n hx hb dN_quotient_43 rfl (lv_at hl 4 rfl) ?_
        refine lv_iconst (v := 2) hx hb dN_quotient_44 (by decide) ?_
        refine lv_icmp_lt (tgt := 52) hx hb dN_quotient_45 (by decide) (fun c_4 => ?_) (fun c_4 => ?_)
        · skip
          refine lv_iconst (v := 0) hx hb dN_quotient_52 (by decide) ?_
          refine lv_iload_n hx hb dN_quotient_53 rfl (lv_at hl 4 rfl) ?_
          refine lv_iconst (v := 2) hx hb dN_quotient_54 (by decide) ?_
          refine lv_irem hx hb dN_quotient_55 (by decide) ?_
          refine lv_if_ne (tgt := 63) hx hb dN_quotient_56 (by decide) (fun c_5 => ?_) (fun c_5 => ?_)
          · skip
            refine lv_iconst (v := 0) hx hb dN_quotient_63 (by decide) ?_
            have hPt : va_P g.1 vwCl (treeX g ad q gs.1.1 f gs.1.2 sl cnt gs.2.1 gs.2.2 ++ plW LW wv) H := pl_P hP [1, 2, 3, 4, 5, 6, 7, 8, 9, 10, 11, 12, 13, 14, 15, 16, 17, 18, 19, 20, 21, 22, 23, 24, 25, 26, 27, 28, 29, 30, 31, 32, 33, 34, 35, 36, 37, 38, 39, 40, 41, 42, 43, 44] rfl
            refine ro_Vl (v := sT_quotientOf gs.1.2 (wOf sl wv) (sT_pieceAt gs.1.2 (wOf sl wv) k i) 0 0) (As := [.int (sT_pieceAt gs.1.2 (wOf sl wv) k i), .int 0, .int 0]) (rest := []) ⟨hx, hb, hml, hown, ht⟩ (cT_quotientOf l g ad q gs.1.1 f gs.1.2 sl cnt gs.2.1 gs.2.2 LW wv hz hsl (sT_pieceAt gs.1.2 (wOf sl wv) k i) 0 0) (cwV 3 ht (g_V q_438 q_439 q_440 q_35 q_441) rfl rfl rfl hd_T_quotientOf ⟨Nat.le_of_ble_eq_true rfl, Nat.le_of_ble_eq_true rfl⟩) hK (hPt) (va_recv hK.1 hPt (ci := 4) (q0 := 0) rfl rfl) rfl hl.1 rfl (Nat.le_of_ble_eq_true rfl) dN_quotient_64 ⟨by show mu gs.1.1 - mu s0.1 ≤ (mu (sN_quotient (wOf sl wv) s0 h st cnt hw wx wy k i wh).1.1.1 - mu s0.1); omega, by show mu gs.1.1 - mu s0.1 ≤ (mu (sN_quotient (wOf sl wv) s0 h st cnt hw wx wy k i wh).1.1.1 - mu s0.1); omega⟩ ?_
            have hEF : (sN_quotient (wOf sl wv) s0 h st cnt hw wx wy k i wh) = ((gs.1, gs.2.1, gs.2.2), (sT_quotientOf gs.1.2 (wOf sl wv) (sT_pieceAt gs.1.2 (wOf sl wv) k i) 0 0)) := by subst hgs; rw [sN_quotient, if_neg c_1, if_neg c_2, if_pos c_3, if_pos c_4, if_neg c_5]
            have hz9 : rowsT (sN_quotient (wOf sl wv) s0 h st cnt hw wx wy k i wh).1.1.1 f (sN_quotient (wOf sl wv) s0 h st cnt hw wx wy k i wh).1.1.2 := by rw [hEF]; exact hz
            have hP9 : va_P g.1 vwCl (nX g aN hw wx wy ad q ((sN_quotient (wOf sl wv) s0 h st cnt hw wx wy k i wh).1.1).1 f ((sN_quotient (wOf sl wv) s0 h st cnt hw wx wy k i wh).1.1).2 sl cnt ((sN_quotient (wOf sl wv) s0 h st cnt hw wx wy k i wh).1.2.1) ((sN_quotient (wOf sl wv) s0 h st cnt hw wx wy k i wh).1.2.2) ++ plW LW wv) H := by rw [hEF]; exact hP
            have hD9 : va_D A (nX g aN hw wx wy ad q ((sN_quotient (wOf sl wv) s0 h st cnt hw wx wy k i wh).1.1).1 f ((sN_quotient (wOf sl wv) s0 h st cnt hw wx wy k i wh).1.1).2 sl cnt ((sN_quotient (wOf sl wv) s0 h st cnt hw wx wy k i wh).1.2.1) ((sN_quotient (wOf sl wv) s0 h st cnt hw wx wy k i wh).1.2.2) ++ plW LW wv) := by rw [hEF]; exact hD
            have hmF : mu (sN_quotient (wOf sl wv) s0 h st cnt hw wx wy k i wh).1.1.1 = mu gs.1.1 := by rw [hEF]
            refine W.widen (k := (mu (sN_quotient (wOf sl wv) s0 h st cnt hw wx wy k i wh).1.1.1 - mu s0.1)) (n := (mu (sN_quotient (wOf sl wv) s0 h st cnt hw wx wy k i wh).1.1.1 - mu s0.1)) (by omega) (by omega) ?_
            exact W.lret hx hb hr (fun t ht9 hW => ⟨⟨_, (q, f), rfl, ⟨by rw [hEF], hz9⟩, by rw [ht9]; exact hP9, hD9⟩, hS.F ht9⟩) hS.2.2 dN_quotient_67
          · skip
            refine lv_iconst (v := 1) hx hb dN_quotient_59 (by decide) ?_
            refine lv_goto (tgt := 64) hx hb dN_quotient_60 (by decide) ?_
            have hPt : va_P g.1 vwCl (treeX g ad q gs.1.1 f gs.1.2 sl cnt gs.2.1 gs.2.2 ++ plW LW wv) H := pl_P hP [1, 2, 3, 4, 5, 6, 7, 8, 9, 10, 11, 12, 13, 14, 15, 16, 17, 18, 19, 20, 21, 22, 23, 24, 25, 26, 27, 28, 29, 30, 31, 32, 33, 34, 35, 36, 37, 38, 39, 40, 41, 42, 43, 44] rfl
            refine ro_Vl (v := sT_quotientOf gs.1.2 (wOf sl wv) (sT_pieceAt gs.1.2 (wOf sl wv) k i) 0 1) (As := [.int (sT_pieceAt gs.1.2 (wOf sl wv) k i), .int 0, .int 1]) (rest := []) ⟨hx, hb, hml, hown, ht⟩ (cT_quotientOf l g ad q gs.1.1 f gs.1.2 sl cnt gs.2.1 gs.2.2 LW wv hz hsl (sT_pieceAt gs.1.2 (wOf sl wv) k i) 0 1) (cwV 3 ht (g_V q_438 q_439 q_440 q_35 q_441) rfl rfl rfl hd_T_quotientOf ⟨Nat.le_of_ble_eq_true rfl, Nat.le_of_ble_eq_true rfl⟩) hK (hPt) (va_recv hK.1 hPt (ci := 4) (q0 := 0) rfl rfl) rfl hl.1 rfl (Nat.le_of_ble_eq_true rfl) dN_quotient_64 ⟨by show mu gs.1.1 - mu s0.1 ≤ (mu (sN_quotient (wOf sl wv) s0 h st cnt hw wx wy k i wh).1.1.1 - mu s0.1); omega, by show mu gs.1.1 - mu s0.1 ≤ (mu (sN_quotient (wOf sl wv) s0 h st cnt hw wx wy k i wh).1.1.1 - mu s0.1); omega⟩ ?_
            have hEF : (sN_quotient (wOf sl wv) s0 h st cnt hw wx wy k i wh) = ((gs.1, gs.2.1, gs.2.2), (sT_quotientOf gs.1.2 (wOf sl wv) (sT_pieceAt gs.1.2 (wOf sl wv) k i) 0 1)) := by subst hgs; rw [sN_quotient, if_neg c_1, if_neg c_2, if_pos c_3, if_pos c_4, if_pos c_5]
            have hz9 : rowsT (sN_quotient (wOf sl wv) s0 h st cnt hw wx wy k i wh).1.1.1 f (sN_quotient (wOf sl wv) s0 h st cnt hw wx wy k i wh).1.1.2 := by rw [hEF]; exact hz
            have hP9 : va_P g.1 vwCl (nX g aN hw wx wy ad q ((sN_quotient (wOf sl wv) s0 h st cnt hw wx wy k i wh).1.1).1 f ((sN_quotient (wOf sl wv) s0 h st cnt hw wx wy k i wh).1.1).2 sl cnt ((sN_quotient (wOf sl wv) s0 h st cnt hw wx wy k i wh).1.2.1) ((sN_quotient (wOf sl wv) s0 h st cnt hw wx wy k i wh).1.2.2) ++ plW LW wv) H := by rw [hEF]; exact hP
            have hD9 : va_D A (nX g aN hw wx wy ad q ((sN_quotient (wOf sl wv) s0 h st cnt hw wx wy k i wh).1.1).1 f ((sN_quotient (wOf sl wv) s0 h st cnt hw wx wy k i wh).1.1).2 sl cnt ((sN_quotient (wOf sl wv) s0 h st cnt hw wx wy k i wh).1.2.1) ((sN_quotient (wOf sl wv) s0 h st cnt hw wx wy k i wh).1.2.2) ++ plW LW wv) := by rw [hEF]; exact hD
            have hmF : mu (sN_quotient (wOf sl wv) s0 h st cnt hw wx wy k i wh).1.1.1 = mu gs.1.1 := by rw [hEF]
            refine W.widen (k := (mu (sN_quotient (wOf sl wv) s0 h st cnt hw wx wy k i wh).1.1.1 - mu s0.1)) (n := (mu (sN_quotient (wOf sl wv) s0 h st cnt hw wx wy k i wh).1.1.1 - mu s0.1)) (by omega) (by omega) ?_
            exact W.lret hx hb hr (fun t ht9 hW => ⟨⟨_, (q, f), rfl, ⟨by rw [hEF], hz9⟩, by rw [ht9]; exact hP9, hD9⟩, hS.F ht9⟩) hS.2.2 dN_quotient_67
        · skip
          refine lv_iconst (v := 1) hx hb dN_quotient_48 (by decide) ?_
          refine lv_goto (tgt := 53) hx hb dN_quotient_49 (by decide) ?_
          refine lv_iload_n hx hb dN_quotient_53 rfl (lv_at hl 4 rfl) ?_
          refine lv_iconst (v := 2) hx hb dN_quotient_54 (by decide) ?_
          refine lv_irem hx hb dN_quotient_55 (by decide) ?_
          refine lv_if_ne (tgt := 63) hx hb dN_quotient_56 (by decide) (fun c_6 => ?_) (fun c_6 => ?_)
          · skip
            refine lv_iconst (v := 0) hx hb dN_quotient_63 (by decide) ?_
            have hPt : va_P g.1 vwCl (treeX g ad q gs.1.1 f gs.1.2 sl cnt gs.2.1 gs.2.2 ++ plW LW wv) H := pl_P hP [1, 2, 3, 4, 5, 6, 7, 8, 9, 10, 11, 12, 13, 14, 15, 16, 17, 18, 19, 20, 21, 22, 23, 24, 25, 26, 27, 28, 29, 30, 31, 32, 33, 34, 35, 36, 37, 38, 39, 40, 41, 42, 43, 44] rfl
            refine ro_Vl (v := sT_quotientOf gs.1.2 (wOf sl wv) (sT_pieceAt gs.1.2 (wOf sl wv) k i) 1 0) (As := [.int (sT_pieceAt gs.1.2 (wOf sl wv) k i), .int 1, .int 0]) (rest := []) ⟨hx, hb, hml, hown, ht⟩ (cT_quotientOf l g ad q gs.1.1 f gs.1.2 sl cnt gs.2.1 gs.2.2 LW wv hz hsl (sT_pieceAt gs.1.2 (wOf sl wv) k i) 1 0) (cwV 3 ht (g_V q_438 q_439 q_440 q_35 q_441) rfl rfl rfl hd_T_quotientOf ⟨Nat.le_of_ble_eq_true rfl, Nat.le_of_ble_eq_true rfl⟩) hK (hPt) (va_recv hK.1 hPt (ci := 4) (q0 := 0) rfl rfl) rfl hl.1 rfl (Nat.le_of_ble_eq_true rfl) dN_quotient_64 ⟨by show mu gs.1.1 - mu s0.1 ≤ (mu (sN_quotient (wOf sl wv) s0 h st cnt hw wx wy k i wh).1.1.1 - mu s0.1); omega, by show mu gs.1.1 - mu s0.1 ≤ (mu (sN_quotient (wOf sl wv) s0 h st cnt hw wx wy k i wh).1.1.1 - mu s0.1); omega⟩ ?_
            have hEF : (sN_quotient (wOf sl wv) s0 h st cnt hw wx wy k i wh) = ((gs.1, gs.2.1, gs.2.2), (sT_quotientOf gs.1.2 (wOf sl wv) (sT_pieceAt gs.1.2 (wOf sl wv) k i) 1 0)) := by subst hgs; rw [sN_quotient, if_neg c_1, if_neg c_2, if_pos c_3, if_neg c_4, if_neg c_6]
            have hz9 : rowsT (sN_quotient (wOf sl wv) s0 h st cnt hw wx wy k i wh).1.1.1 f (sN_quotient (wOf sl wv) s0 h st cnt hw wx wy k i wh).1.1.2 := by rw [hEF]; exact hz
            have hP9 : va_P g.1 vwCl (nX g aN hw wx wy ad q ((sN_quotient (wOf sl wv) s0 h st cnt hw wx wy k i wh).1.1).1 f ((sN_quotient (wOf sl wv) s0 h st cnt hw wx wy k i wh).1.1).2 sl cnt ((sN_quotient (wOf sl wv) s0 h st cnt hw wx wy k i wh).1.2.1) ((sN_quotient (wOf sl wv) s0 h st cnt hw wx wy k i wh).1.2.2) ++ plW LW wv) H := by rw [hEF]; exact hP
            have hD9 : va_D A (nX g aN hw wx wy ad q ((sN_quotient (wOf sl wv) s0 h st cnt hw wx wy k i wh).1.1).1 f ((sN_quotient (wOf sl wv) s0 h st cnt hw wx wy k i wh).1.1).2 sl cnt ((sN_quotient (wOf sl wv) s0 h st cnt hw wx wy k i wh).1.2.1) ((sN_quotient (wOf sl wv) s0 h st cnt hw wx wy k i wh).1.2.2) ++ plW LW wv) := by rw [hEF]; exact hD
            have hmF : mu (sN_quotient (wOf sl wv) s0 h st cnt hw wx wy k i wh).1.1.1 = mu gs.1.1 := by rw [hEF]
            refine W.widen (k := (mu (sN_quotient (wOf sl wv) s0 h st cnt hw wx wy k i wh).1.1.1 - mu s0.1)) (n := (mu (sN_quotient (wOf sl wv) s0 h st cnt hw wx wy k i wh).1.1.1 - mu s0.1)) (by omega) (by omega) ?_
            exact W.lret hx hb hr (fun t ht9 hW => ⟨⟨_, (q, f), rfl, ⟨by rw [hEF], hz9⟩, by rw [ht9]; exact hP9, hD9⟩, hS.F ht9⟩) hS.2.2 dN_quotient_67
          · skip
            refine lv_iconst (v := 1) hx hb dN_quotient_59 (by decide) ?_
            refine lv_goto (tgt := 64) hx hb dN_quotient_60 (by decide) ?_
            have hPt : va_P g.1 vwCl (treeX g ad q gs.1.1 f gs.1.2 sl cnt gs.2.1 gs.2.2 ++ plW LW wv) H := pl_P hP [1, 2, 3, 4, 5, 6, 7, 8, 9, 10, 11, 12, 13, 14, 15, 16, 17, 18, 19, 20, 21, 22, 23, 24, 25, 26, 27, 28, 29, 30, 31, 32, 33, 34, 35, 36, 37, 38, 39, 40, 41, 42, 43, 44] rfl
            refine ro_Vl (v := sT_quotientOf gs.1.2 (wOf sl wv) (sT_pieceAt gs.1.2 (wOf sl wv) k i) 1 1) (As := [.int (sT_pieceAt gs.1.2 (wOf sl wv) k i), .int 1, .int 1]) (rest := []) ⟨hx, hb, hml, hown, ht⟩ (cT_quotientOf l g ad q gs.1.1 f gs.1.2 sl cnt gs.2.1 gs.2.2 LW wv hz hsl (sT_pieceAt gs.1.2 (wOf sl wv) k i) 1 1) (cwV 3 ht (g_V q_438 q_439 q_440 q_35 q_441) rfl rfl rfl hd_T_quotientOf ⟨Nat.le_of_ble_eq_true rfl, Nat.le_of_ble_eq_true rfl⟩) hK (hPt) (va_recv hK.1 hPt (ci := 4) (q0 := 0) rfl rfl) rfl hl.1 rfl (Nat.le_of_ble_eq_true rfl) dN_quotient_64 ⟨by show mu gs.1.1 - mu s0.1 ≤ (mu (sN_quotient (wOf sl wv) s0 h st cnt hw wx wy k i wh).1.1.1 - mu s0.1); omega, by show mu gs.1.1 - mu s0.1 ≤ (mu (sN_quotient (wOf sl wv) s0 h st cnt hw wx wy k i wh).1.1.1 - mu s0.1); omega⟩ ?_
            have hEF : (sN_quotient (wOf sl wv) s0 h st cnt hw wx wy k i wh) = ((gs.1, gs.2.1, gs.2.2), (sT_quotientOf gs.1.2 (wOf sl wv) (sT_pieceAt gs.1.2 (wOf sl wv) k i) 1 1)) := by subst hgs; rw [sN_quotient, if_neg c_1, if_neg c_2, if_pos c_3, if_neg c_4, if_pos c_6]
            have hz9 : rowsT (sN_quotient (wOf sl wv) s0 h st cnt hw wx wy k i wh).1.1.1 f (sN_quotient (wOf sl wv) s0 h st cnt hw wx wy k i wh).1.1.2 := by rw [hEF]; exact hz
            have hP9 : va_P g.1 vwCl (nX g aN hw wx wy ad q ((sN_quotient (wOf sl wv) s0 h st cnt hw wx wy k i wh).1.1).1 f ((sN_quotient (wOf sl wv) s0 h st cnt hw wx wy k i wh).1.1).2 sl cnt ((sN_quotient (wOf sl wv) s0 h st cnt hw wx wy k i wh).1.2.1) ((sN_quotient (wOf sl wv) s0 h st cnt hw wx wy k i wh).1.2.2) ++ plW LW wv) H := by rw [hEF]; exact hP
            have hD9 : va_D A (nX g aN hw wx wy ad q ((sN_quotient (wOf sl wv) s0 h st cnt hw wx wy k i wh).1.1).1 f ((sN_quotient (wOf sl wv) s0 h st cnt hw wx wy k i wh).1.1).2 sl cnt ((sN_quotient (wOf sl wv) s0 h st cnt hw wx wy k i wh).1.2.1) ((sN_quotient (wOf sl wv) s0 h st cnt hw wx wy k i wh).1.2.2) ++ plW LW wv) := by rw [hEF]; exact hD
            have hmF : mu (sN_quotient (wOf sl wv) s0 h st cnt hw wx wy k i wh).1.1.1 = mu gs.1.1 := by rw [hEF]
            refine W.widen (k := (mu (sN_quotient (wOf sl wv) s0 h st cnt hw wx wy k i wh).1.1.1 - mu s0.1)) (n := (mu (sN_quotient (wOf sl wv) s0 h st cnt hw wx wy k i wh).1.1.1 - mu s0.1)) (by omega) (by omega) ?_
            exact W.lret hx hb hr (fun t ht9 hW => ⟨⟨_, (q, f), rfl, ⟨by rw [hEF], hz9⟩, by rw [ht9]; exact hP9, hD9⟩, hS.F ht9⟩) hS.2.2 dN_quotient_67
      · skip
        refine lv_ldc2 (v := (-1)) hx hb hown (ht _ q_437) dN_quotient_33 ?_
        have hEF : (sN_quotient (wOf sl wv) s0 h st cnt hw wx wy k i wh) = ((gs.1, gs.2.1, gs.2.2), (-1)) := by subst hgs; rw [sN_quotient, if_neg c_1, if_neg c_2, if_neg c_3]
        have hz9 : rowsT (sN_quotient (wOf sl wv) s0 h st cnt hw wx wy k i wh).1.1.1 f (sN_quotient (wOf sl wv) s0 h st cnt hw wx wy k i wh).1.1.2 := by rw [hEF]; exact hz
        have hP9 : va_P g.1 vwCl (nX g aN hw wx wy ad q ((sN_quotient (wOf sl wv) s0 h st cnt hw wx wy k i wh).1.1).1 f ((sN_quotient (wOf sl wv) s0 h st cnt hw wx wy k i wh).1.1).2 sl cnt ((sN_quotient (wOf sl wv) s0 h st cnt hw wx wy k i wh).1.2.1) ((sN_quotient (wOf sl wv) s0 h st cnt hw wx wy k i wh).1.2.2) ++ plW LW wv) H := by rw [hEF]; exact hP
        have hD9 : va_D A (nX g aN hw wx wy ad q ((sN_quotient (wOf sl wv) s0 h st cnt hw wx wy k i wh).1.1).1 f ((sN_quotient (wOf sl wv) s0 h st cnt hw wx wy k i wh).1.1).2 sl cnt ((sN_quotient (wOf sl wv) s0 h st cnt hw wx wy k i wh).1.2.1) ((sN_quotient (wOf sl wv) s0 h st cnt hw wx wy k i wh).1.2.2) ++ plW LW wv) := by rw [hEF]; exact hD
        have hmF : mu (sN_quotient (wOf sl wv) s0 h st cnt hw wx wy k i wh).1.1.1 = mu gs.1.1 := by rw [hEF]
        refine W.widen (k := (mu (sN_quotient (wOf sl wv) s0 h st cnt hw wx wy k i wh).1.1.1 - mu s0.1)) (n := (mu (sN_quotient (wOf sl wv) s0 h st cnt hw wx wy k i wh).1.1.1 - mu s0.1)) (by omega) (by omega) ?_
        exact W.lret hx hb hr (fun t ht9 hW => ⟨⟨_, (q, f), rfl, ⟨by rw [hEF], hz9⟩, by rw [ht9]; exact hP9, hD9⟩, hS.F ht9⟩) hS.2.2 dN_quotient_36
def sN_step (Wl : Nat → Option WV) (s0 : TSt) (h st cnt hw wx wy : Int32) (i : Int32) (what : Int32) : (TSt × Int32 × Int32) × Int32 :=
  if hw = 0 then
    ((s0, h, st), (-1))
  else
    if what = 0 then
      (((sT_grow Wl s0 h st).1, (sT_grow Wl s0 h st).2.1, (sT_grow Wl s0 h st).2.2), (sT_wallOfPiece (sT_grow Wl s0 h st).1.2 Wl (sT_pieceOnWay (sT_grow Wl s0 h st).1.2 Wl wx wy i)))
    else
      if what = 1 then
        (((sT_grow Wl s0 h st).1, (sT_grow Wl s0 h st).2.1, (sT_grow Wl s0 h st).2.2), (sT_nodeOfPiece (sT_grow Wl s0 h st).1.2 Wl (sT_pieceOnWay (sT_grow Wl s0 h st).1.2 Wl wx wy i)))
      else
        if what = 2 then
          (((sT_grow Wl s0 h st).1, (sT_grow Wl s0 h st).2.1, (sT_grow Wl s0 h st).2.2), (sT_placeInNode (sT_grow Wl s0 h st).1.2 Wl (sT_pieceOnWay (sT_grow Wl s0 h st).1.2 Wl wx wy i)))
        else
          (((sT_grow Wl s0 h st).1, (sT_grow Wl s0 h st).2.1, (sT_grow Wl s0 h st).2.2), (-1))
set_option maxHeartbeats 4000000 in
set_option maxRecDepth 100000 in
theorem cN_step (l : Launch) (g : CX) (sz : Nat) (aN : Nat) (hw wx wy : Int32) (ad q : Nat → Nat) (f : Nat → Nat → Int32) (s0 : TSt) (sl : Nat → Option Nat) (cnt h st : Int32) (LW : List Nat) (wv : Nat → WV) (hz : rowsT s0.1 f s0.2) (hsl : slOK sl LW) (i : Int32) (what : Int32) : Met l yN_step (wm yN_step kN_step 4 (some .int)) ({ frames := 7, cells := (mu (sN_step (wOf sl wv) s0 h st cnt hw wx wy i what).1.1.1 - mu s0.1), slots := (mu (sN_step (wOf sl wv) s0 h st cnt hw wx wy i what).1.1.1 - mu s0.1), locals := 206 }) (rw g [.ref aN, .int i, .int what] (nX g aN hw wx wy ad q s0.1 f s0.2 sl cnt h st ++ plW LW wv) sz) (va_Qi (fun (r : Int32) (u : (Nat → Nat) × (Nat → Nat → Int32)) => r = (sN_step (wOf sl wv) s0 h st cnt hw wx wy i what).2 ∧ rowsT (sN_step (wOf sl wv) s0 h st cnt hw wx wy i what).1.1.1 u.2 (sN_step (wOf sl wv) s0 h st cnt hw wx wy i what).1.1.2) (rB g (va_A (nX g aN hw wx wy ad q s0.1 f s0.2 sl cnt h st ++ plW LW wv) sz) (fun u => (nX g aN hw wx wy ad u.1 (sN_step (wOf sl wv) s0 h st cnt hw wx wy i what).1.1.1 u.2 (sN_step (wOf sl wv) s0 h st cnt hw wx wy i what).1.1.2 sl cnt (sN_step (wOf sl wv) s0 h st cnt hw wx wy i what).1.2.1 (sN_step (wOf sl wv) s0 h st cnt hw wx wy i what).1.2.2 ++ plW LW wv))) (va_A (nX g aN hw wx wy ad q s0.1 f s0.2 sl cnt h st ++ plW LW wv) sz)) (mu (sN_step (wOf sl wv) s0 h st cnt hw wx wy i what).1.1.1 - mu s0.1) (mu (sN_step (wOf sl wv) s0 h st cnt hw wx wy i what).1.1.1 - mu s0.1) (va_A (nX g aN hw wx wy ad q s0.1 f s0.2 sl cnt h st ++ plW LW wv) sz) := by
  refine Met.ofW (cc := kN_step) (maxL := 4) (ret := (some .int)) (by decide) rfl ?_
  intro p e s m args below meth c s₁ B hml hv
  obtain ⟨rfl, hsz, hK, hP, hD0⟩ := hv
  have hx := B.exec
  have hb := B.bytes
  have hr := B.returns
  have ht : ∀ w ∈ wT, w.before _ s = true := fun w h => atoms_spec (ws := wm yN_step kN_step 4 (some .int)) B.pre w (List.mem_cons_of_mem _ h)
  have hown : s.vm.findClass "NodeMaker" = some m.cls := findClass_of_methodNamed B.named
  have hlocks := B.notSynchronized
  subst hsz
  have hD := hD0.self (sz := s.heap.size)
  generalize hAe : va_A (nX g aN hw wx wy ad q s0.1 f s0.2 sl cnt h st ++ plW LW wv) s.heap.size = A at hD ⊢
  have hA : ∀ q : Nat, s.heap.size ≤ q → A q := fun q h => by rw [← hAe]; exact Or.inr h
  have hS : va_S A s.heap s.heap [] := va_S.rf
  have hl := lv_entry ([.ref aN, .int i, .int what]) (n := 4) (Nat.le_of_ble_eq_true rfl)
  rw [lg_entry_eq]
  generalize (lg_sl ([.ref aN, .int i, .int what]) ++ List.replicate (4 - (lg_sl ([.ref aN, .int i, .int what])).length) Slot.unset).toArray = ls at hl ⊢
  have hl : lv_has ls 4 [(0, .ref aN), (1, .int i), (2, .int what)] := hl
  refine lv_aload_n hx hb dN_step_0 rfl (lv_at hl 0 rfl) ?_
  refine va_get (D := g.1) (ci := 5) (v := .int hw) (C := "NodeMaker") (T := Fd_N) (N := 4) hx hb ht i_N hown hK.1 hP 0 rfl rfl 1 (by decide) (ht _ q_155) (fun _ h9 => h9) rfl dN_step_1 ?_
  refine lv_if_ne (tgt := 9) hx hb dN_step_4 (by decide) (fun c_7 => ?_) (fun c_7 => ?_)
  · skip
    refine lv_aload_n hx hb dN_step_9 rfl (lv_at hl 0 rfl) ?_
    refine va_get (D := g.1) (ci := 5) (v := .ref (ad 0)) (C := "NodeMaker") (T := Fd_N) (N := 4) hx hb ht i_N hown hK.1 hP 0 rfl rfl 0 (by decide) (ht _ q_154) (fun _ h9 => h9) rfl dN_step_10 ?_
    have hPt : va_P g.1 vwCl (treeX g ad q s0.1 f s0.2 sl cnt h st ++ plW LW wv) s.heap := pl_P hP [1, 2, 3, 4, 5, 6, 7, 8, 9, 10, 11, 12, 13, 14, 15, 16, 17, 18, 19, 20, 21, 22, 23, 24, 25, 26, 27, 28, 29, 30, 31, 32, 33, 34, 35, 36, 37, 38, 39, 40, 41, 42, 43, 44] rfl
    have hDt : va_D A (treeX g ad q s0.1 f s0.2 sl cnt h st ++ plW LW wv) := pl_D hD [1, 2, 3, 4, 5, 6, 7, 8, 9, 10, 11, 12, 13, 14, 15, 16, 17, 18, 19, 20, 21, 22, 23, 24, 25, 26, 27, 28, 29, 30, 31, 32, 33, 34, 35, 36, 37, 38, 39, 40, 41, 42, 43, 44] (by decide) rfl
    have hFG : (sN_step (wOf sl wv) s0 h st cnt hw wx wy i what).1 = sT_grow (wOf sl wv) s0 h st := by rw [sN_step, if_neg c_7]; all_goals ((repeat' split) <;> rfl)
    have hFm : mu (sN_step (wOf sl wv) s0 h st cnt hw wx wy i what).1.1.1 = mu (sT_grow (wOf sl wv) s0 h st).1.1 := by rw [hFG]
    have hgm : mu s0.1 ≤ mu (sT_grow (wOf sl wv) s0 h st).1.1 := grow_mono _ _ _ _
    obtain ⟨gs, hgs⟩ : ∃ x, x = sT_grow (wOf sl wv) s0 h st := ⟨_, rfl⟩
    refine rw_vP (X := nX g aN hw wx wy ad q s0.1 f s0.2 sl cnt h st) (pl := plW LW wv) (cx := treeX g ad q s0.1 f s0.2 sl cnt h st) (rx := fun (u : (Nat → Nat) × (Nat → Nat → Int32)) => treeX g ad u.1 (sT_grow (wOf sl wv) s0 h st).1.1 u.2 (sT_grow (wOf sl wv) s0 h st).1.2 sl cnt (sT_grow (wOf sl wv) s0 h st).2.1 (sT_grow (wOf sl wv) s0 h st).2.2) (pl1 := fun _ => plW LW wv) (wr := [(aN, .inr (5, [.ref (ad 0), .int hw, .int wx, .int wy]))]) (va_runV (As := []) (rest := []) ⟨hx, hb, hml, hown, ht⟩ (cT_grow l g s.heap.size ad q f s0 sl cnt h st LW wv hz hsl) (cwV 0 ht (g_V q_267 q_268 q_269 q_35 q_270) rfl rfl rfl hd_T_grow ⟨Nat.le_of_ble_eq_true rfl, Nat.le_of_ble_eq_true rfl⟩) (rw_V hK hPt hDt (va_recv hK.1 hPt (ci := 4) (q0 := 0) rfl rfl)) rfl rfl hl.1 rfl (lv_room (Nat.le_of_ble_eq_true rfl)) dN_step_13 ⟨by show 0 + (mu (sT_grow (wOf sl wv) s0 h st).1.1 - mu s0.1) ≤ (mu (sN_step (wOf sl wv) s0 h st cnt hw wx wy i what).1.1.1 - mu s0.1); omega, by show 0 + (mu (sT_grow (wOf sl wv) s0 h st).1.1 - mu s0.1) ≤ (mu (sN_step (wOf sl wv) s0 h st cnt hw wx wy i what).1.1.1 - mu s0.1); omega⟩) hP hD hS hA [1, 2, 3, 4, 5, 6, 7, 8, 9, 10, 11, 12, 13, 14, 15, 16, 17, 18, 19, 20, 21, 22, 23, 24, 25, 26, 27, 28, 29, 30, 31, 32, 33, 34, 35, 36, 37, 38, 39, 40, 41, 42, 43, 44] [0] rfl rfl (by decide) (by decide) (fun u H locs hw9 hP hD hS => ?_)
    obtain ⟨q, f⟩ := u
    have hz : rowsT gs.1.1 f gs.1.2 := by rw [hgs]; exact hw9
    have hP : va_P g.1 vwCl (nX g aN hw wx wy ad q gs.1.1 f gs.1.2 sl cnt gs.2.1 gs.2.2 ++ plW LW wv) H := by rw [hgs]; exact hP
    have hD : va_D A (nX g aN hw wx wy ad q gs.1.1 f gs.1.2 sl cnt gs.2.1 gs.2.2 ++ plW LW wv) := by rw [hgs]; exact hD
    have hgu : mu (sT_grow (wOf sl wv) s0 h st).1.1 = mu gs.1.1 := by rw [hgs]
    have hgm : mu s0.1 ≤ mu gs.1.1 := by rw [hgs]; exact grow_mono _ _ _ _
    rw [← hgs] at hFG
    refine W.widen (k := mu gs.1.1 - mu s0.1) (n := mu gs.1.1 - mu s0.1) (by show 0 + (mu (sT_grow (wOf sl wv) s0 h st).1.1 - mu s0.1) ≤ _; omega) (by show 0 + (mu (sT_grow (wOf sl wv) s0 h st).1.1 - mu s0.1) ≤ _; omega) ?_
    refine lv_aload_n hx hb dN_step_16 rfl (lv_at hl 0 rfl) ?_
    refine va_get (D := g.1) (ci := 5) (v := .ref (ad 0)) (C := "NodeMaker") (T := Fd_N) (N := 4) hx hb ht i_N hown hK.1 hP 0 rfl rfl 0 (by decide) (ht _ q_154) (fun _ h9 => h9) rfl dN_step_17 ?_
    refine lv_aload_n hx hb dN_step_20 rfl (lv_at hl 0 rfl) ?_
    refine va_get (D := g.1) (ci := 5) (v := .int wx) (C := "NodeMaker") (T := Fd_N) (N := 4) hx hb ht i_N hown hK.1 hP 0 rfl rfl 2 (by decide) (ht _ q_156) (fun _ h9 => h9) rfl dN_step_21 ?_
    refine lv_aload_n hx hb dN_step_24 rfl (lv_at hl 0 rfl) ?_
    refine va_get (D := g.1) (ci := 5) (v := .int wy) (C := "NodeMaker") (T := Fd_N) (N := 4) hx hb ht i_N hown hK.1 hP 0 rfl rfl 3 (by decide) (ht _ q_157) (fun _ h9 => h9) rfl dN_step_25 ?_
    refine lv_iload_n hx hb dN_step_28 rfl (lv_at hl 1 rfl) ?_
    have hPt : va_P g.1 vwCl (treeX g ad q gs.1.1 f gs.1.2 sl cnt gs.2.1 gs.2.2 ++ plW LW wv) H := pl_P hP [1, 2, 3, 4, 5, 6, 7, 8, 9, 10, 11, 12, 13, 14, 15, 16, 17, 18, 19, 20, 21, 22, 23, 24, 25, 26, 27, 28, 29, 30, 31, 32, 33, 34, 35, 36, 37, 38, 39, 40, 41, 42, 43, 44] rfl
    refine ro_Vi (v := sT_pieceOnWay gs.1.2 (wOf sl wv) wx wy i) (As := [.int wx, .int wy, .int i]) (rest := []) ⟨hx, hb, hml, hown, ht⟩ (cT_pieceOnWay l g ad q gs.1.1 f gs.1.2 sl cnt gs.2.1 gs.2.2 LW wv hz hsl wx wy i) (cwV 3 ht (g_V q_470 q_471 q_472 q_35 q_473) rfl rfl rfl hd_T_pieceOnWay ⟨Nat.le_of_ble_eq_true rfl, Nat.le_of_ble_eq_true rfl⟩) hK (hPt) (va_recv hK.1 hPt (ci := 4) (q0 := 0) rfl rfl) rfl hl.1 rfl (Nat.le_of_ble_eq_true rfl) dN_step_29 ⟨by show mu gs.1.1 - mu s0.1 ≤ (mu (sN_step (wOf sl wv) s0 h st cnt hw wx wy i what).1.1.1 - mu s0.1); omega, by show mu gs.1.1 - mu s0.1 ≤ (mu (sN_step (wOf sl wv) s0 h st cnt hw wx wy i what).1.1.1 - mu s0.1); omega⟩ ?_
    refine lv_istore_n (lv' := [(3, .int (sT_pieceOnWay gs.1.2 (wOf sl wv) wx wy i)), (0, .ref aN), (1, .int i), (2, .int what)]) hx hb dN_step_32 rfl hl (by decide) rfl (fun ls hl => ?_)
    refine lv_iload_n hx hb dN_step_33 rfl (lv_at hl 3 rfl) ?_
    by_cases c_8 : what = 0
    · skip
      refine lv_tableIn (off := 26) (tgt := 60) hx hb dN_step_34 (by rw [c_8]; decide) (by rw [c_8]; decide) (by rw [c_8]; decide) (by decide) ?_
      refine lv_aload_n hx hb dN_step_60 rfl (lv_at hl 1 rfl) ?_
      refine va_get (D := g.1) (ci := 5) (v := .ref (ad 0)) (C := "NodeMaker") (T := Fd_N) (N := 4) hx hb ht i_N hown hK.1 hP 0 rfl rfl 0 (by decide) (ht _ q_154) (fun _ h9 => h9) rfl dN_step_61 ?_
      refine lv_iload_n hx hb dN_step_64 rfl (lv_at hl 0 rfl) ?_
      have hPt : va_P g.1 vwCl (treeX g ad q gs.1.1 f gs.1.2 sl cnt gs.2.1 gs.2.2 ++ plW LW wv) H := pl_P hP [1, 2, 3, 4, 5, 6, 7, 8, 9, 10, 11, 12, 13, 14, 15, 16, 17, 18, 19, 20, 21, 22, 23, 24, 25, 26, 27, 28, 29, 30, 31, 32, 33, 34, 35, 36, 37, 38, 39, 40, 41, 42, 43, 44] rfl
      refine ro_Vi (v := sT_wallOfPiece gs.1.2 (wOf sl wv) (sT_pieceOnWay gs.1.2 (wOf sl wv) wx wy i)) (As := [.int (sT_pieceOnWay gs.1.2 (wOf sl wv) wx wy i)]) (rest := []) ⟨hx, hb, hml, hown, ht⟩ (cT_wallOfPiece l g ad q gs.1.1 f gs.1.2 sl cnt gs.2.1 gs.2.2 LW wv hz hsl (sT_pieceOnWay gs.1.2 (wOf sl wv) wx wy i)) (cwV 1 ht (g_V q_429 q_430 q_431 q_35 q_432) rfl rfl rfl hd_T_wallOfPiece ⟨Nat.le_of_ble_eq_true rfl, Nat.le_of_ble_eq_true rfl⟩) hK (hPt) (va_recv hK.1 hPt (ci := 4) (q0 := 0) rfl rfl) rfl hl.1 rfl (Nat.le_of_ble_eq_true rfl) dN_step_65 ⟨by show mu gs.1.1 - mu s0.1 ≤ (mu (sN_step (wOf sl wv) s0 h st cnt hw wx wy i what).1.1.1 - mu s0.1); omega, by show mu gs.1.1 - mu s0.1 ≤ (mu (sN_step (wOf sl wv) s0 h st cnt hw wx wy i what).1.1.1 - mu s0.1); omega⟩ ?_
      have hEF : (sN_step (wOf sl wv) s0 h st cnt hw wx wy i what) = ((gs.1, gs.2.1, gs.2.2), (sT_wallOfPiece gs.1.2 (wOf sl wv) (sT_pieceOnWay gs.1.2 (wOf sl wv) wx wy i))) := by subst hgs; rw [sN_step, if_neg c_7, if_pos c_8]
      have hz9 : rowsT (sN_step (wOf sl wv) s0 h st cnt hw wx wy i what).1.1.1 f (sN_step (wOf sl wv) s0 h st cnt hw wx wy i what).1.1.2 := by rw [hEF]; exact hz
      have hP9 : va_P g.1 vwCl (nX g aN hw wx wy ad q ((sN_step (wOf sl wv) s0 h st cnt hw wx wy i what).1.1).1 f ((sN_step (wOf sl wv) s0 h st cnt hw wx wy i what).1.1).2 sl cnt ((sN_step (wOf sl wv) s0 h st cnt hw wx wy i what).1.2.1) ((sN_step (wOf sl wv) s0 h st cnt hw wx wy i what).1.2.2) ++ plW LW wv) H := by rw [hEF]; exact hP
      have hD9 : va_D A (nX g aN hw wx wy ad q ((sN_step (wOf sl wv) s0 h st cnt hw wx wy i what).1.1).1 f ((sN_step (wOf sl wv) s0 h st cnt hw wx wy i what).1.1).2 sl cnt ((sN_step (wOf sl wv) s0 h st cnt hw wx wy i what).1.2.1) ((sN_step (wOf sl wv) s0 h st cnt hw wx wy i what).1.2.2) ++ plW LW wv) := by rw [hEF]; exact hD
      have hmF : mu (sN_step (wOf sl wv) s0 h st cnt hw wx wy i what).1.1.1 = mu gs.1.1 := by rw [hEF]
      refine W.widen (k := (mu (sN_step (wOf sl wv) s0 h st cnt hw wx wy i what).1.1.1 - mu s0.1)) (n := (mu (sN_step (wOf sl wv) s0 h st cnt hw wx wy i what).1.1.1 - mu s0.1)) (by omega) (by omega) ?_
      exact W.iret hx hb hr (fun t ht9 hW => ⟨⟨_, (q, f), rfl, ⟨by rw [hEF], hz9⟩, by rw [ht9]; exact hP9, hD9⟩, hS.F ht9⟩) hS.2.2 dN_step_68
    by_cases c_9 : what = 1
    · skip
      refine lv_tableIn (off := 35) (tgt := 69) hx hb dN_step_34 (by rw [c_9]; decide) (by rw [c_9]; decide) (by rw [c_9]; decide) (by decide) ?_
      refine lv_aload_n hx hb dN_step_69 rfl (lv_at hl 1 rfl) ?_
      refine va_get (D := g.1) (ci := 5) (v := .ref (ad 0)) (C := "NodeMaker") (T := Fd_N) (N := 4) hx hb ht i_N hown hK.1 hP 0 rfl rfl 0 (by decide) (ht _ q_154) (fun _ h9 => h9) rfl dN_step_70 ?_
      refine lv_iload_n hx hb dN_step_73 rfl (lv_at hl 0 rfl) ?_
      have hPt : va_P g.1 vwCl (treeX g ad q gs.1.1 f gs.1.2 sl cnt gs.2.1 gs.2.2 ++ plW LW wv) H := pl_P hP [1, 2, 3, 4, 5, 6, 7, 8, 9, 10, 11, 12, 13, 14, 15, 16, 17, 18, 19, 20, 21, 22, 23, 24, 25, 26, 27, 28, 29, 30, 31, 32, 33, 34, 35, 36, 37, 38, 39, 40, 41, 42, 43, 44] rfl
      refine ro_Vi (v := sT_nodeOfPiece gs.1.2 (wOf sl wv) (sT_pieceOnWay gs.1.2 (wOf sl wv) wx wy i)) (As := [.int (sT_pieceOnWay gs.1.2 (wOf sl wv) wx wy i)]) (rest := []) ⟨hx, hb, hml, hown, ht⟩ (cT_nodeOfPiece l g ad q gs.1.1 f gs.1.2 sl cnt gs.2.1 gs.2.2 LW wv hz hsl (sT_pieceOnWay gs.1.2 (wOf sl wv) wx wy i)) (cwV 1 ht (g_V q_478 q_479 q_480 q_35 q_481) rfl rfl rfl hd_T_nodeOfPiece ⟨Nat.le_of_ble_eq_true rfl, Nat.le_of_ble_eq_true rfl⟩) hK (hPt) (va_recv hK.1 hPt (ci := 4) (q0 := 0) rfl rfl) rfl hl.1 rfl (Nat.le_of_ble_eq_true rfl) dN_step_74 ⟨by show mu gs.1.1 - mu s0.1 ≤ (mu (sN_step (wOf sl wv) s0 h st cnt hw wx wy i what).1.1.1 - mu s0.1); omega, by show mu gs.1.1 - mu s0.1 ≤ (mu (sN_step (wOf sl wv) s0 h st cnt hw wx wy i what).1.1.1 - mu s0.1); omega⟩ ?_
      have hEF : (sN_step (wOf sl wv) s0 h st cnt hw wx wy i what) = ((gs.1, gs.2.1, gs.2.2), (sT_nodeOfPiece gs.1.2 (wOf sl wv) (sT_pieceOnWay gs.1.2 (wOf sl wv) wx wy i))) := by subst hgs; rw [sN_step, if_neg c_7, if_neg c_8, if_pos c_9]
      have hz9 : rowsT (sN_step (wOf sl wv) s0 h st cnt hw wx wy i what).1.1.1 f (sN_step (wOf sl wv) s0 h st cnt hw wx wy i what).1.1.2 := by rw [hEF]; exact hz
      have hP9 : va_P g.1 vwCl (nX g aN hw wx wy ad q ((sN_step (wOf sl wv) s0 h st cnt hw wx wy i what).1.1).1 f ((sN_step (wOf sl wv) s0 h st cnt hw wx wy i what).1.1).2 sl cnt ((sN_step (wOf sl wv) s0 h st cnt hw wx wy i what).1.2.1) ((sN_step (wOf sl wv) s0 h st cnt hw wx wy i what).1.2.2) ++ plW LW wv) H := by rw [hEF]; exact hP
      have hD9 : va_D A (nX g aN hw wx wy ad q ((sN_step (wOf sl wv) s0 h st cnt hw wx wy i what).1.1).1 f ((sN_step (wOf sl wv) s0 h st cnt hw wx wy i what).1.1).2 sl cnt ((sN_step (wOf sl wv) s0 h st cnt hw wx wy i what).1.2.1) ((sN_step (wOf sl wv) s0 h st cnt hw wx wy i what).1.2.2) ++ plW LW wv) := by rw [hEF]; exact hD
      have hmF : mu (sN_step (wOf sl wv) s0 h st cnt hw wx wy i what).1.1.1 = mu gs.1.1 := by rw [hEF]
      refine W.widen (k := (mu (sN_step (wOf sl wv) s0 h st cnt hw wx wy i what).1.1.1 - mu s0.1)) (n := (mu (sN_step (wOf sl wv) s0 h st cnt hw wx wy i what).1.1.1 - mu s0.1)) (by omega) (by omega) ?_
      exact W.iret hx hb hr (fun t ht9 hW => ⟨⟨_, (q, f), rfl, ⟨by rw [hEF], hz9⟩, by rw [ht9]; exact hP9, hD9⟩, hS.F ht9⟩) hS.2.2 dN_step_77
    by_cases c_10 : what = 2
    · skip
      refine lv_tableIn (off := 44) (tgt := 78) hx hb dN_step_34 (by rw [c_10]; decide) (by rw [c_10]; decide) (by rw [c_10]; decide) (by decide) ?_
      refine lv_aload_n hx hb dN_step_78 rfl (lv_at hl 1 rfl) ?_
      refine va_get (D := g.1) (ci := 5) (v := .ref (ad 0)) (C := "NodeMaker") (T := Fd_N) (N := 4) hx hb ht i_N hown hK.1 hP 0 rfl rfl 0 (by decide) (ht _ q_154) (fun _ h9 => h9) rfl dN_step_79 ?_
      refine lv_iload_n hx hb dN_step_82 rfl (lv_at hl 0 rfl) ?_
      have hPt : va_P g.1 vwCl (treeX g ad q gs.1.1 f gs.1.2 sl cnt gs.2.1 gs.2.2 ++ plW LW wv) H := pl_P hP [1, 2, 3, 4, 5, 6, 7, 8, 9, 10, 11, 12, 13, 14, 15, 16, 17, 18, 19, 20, 21, 22, 23, 24, 25, 26, 27, 28, 29, 30, 31, 32, 33, 34, 35, 36, 37, 38, 39, 40, 41, 42, 43, 44] rfl
      refine ro_Vi (v := sT_placeInNode gs.1.2 (wOf sl wv) (sT_pieceOnWay gs.1.2 (wOf sl wv) wx wy i)) (As := [.int (sT_pieceOnWay gs.1.2 (wOf sl wv) wx wy i)]) (rest := []) ⟨hx, hb, hml, hown, ht⟩ (cT_placeInNode l g ad q gs.1.1 f gs.1.2 sl cnt gs.2.1 gs.2.2 LW wv hz hsl (sT_pieceOnWay gs.1.2 (wOf sl wv) wx wy i)) (cwV 1 ht (g_V q_482 q_483 q_484 q_35 q_485) rfl rfl rfl hd_T_placeInNode ⟨Nat.le_of_ble_eq_true rfl, Nat.le_of_ble_eq_true rfl⟩) hK (hPt) (va_recv hK.1 hPt (ci := 4) (q0 := 0) rfl rfl) rfl hl.1 rfl (Nat.le_of_ble_eq_true rfl) dN_step_83 ⟨by show mu gs.1.1 - mu s0.1 ≤ (mu (sN_step (wOf sl wv) s0 h st cnt hw wx wy i what).1.1.1 - mu s0.1); omega, by show mu gs.1.1 - mu s0.1 ≤ (mu (sN_step (wOf sl wv) s0 h st cnt hw wx wy i what).1.1.1 - mu s0.1); omega⟩ ?_
      have hEF : (sN_step (wOf sl wv) s0 h st cnt hw wx wy i what) = ((gs.1, gs.2.1, gs.2.2), (sT_placeInNode gs.1.2 (wOf sl wv) (sT_pieceOnWay gs.1.2 (wOf sl wv) wx wy i))) := by subst hgs; rw [sN_step, if_neg c_7, if_neg c_8, if_neg c_9, if_pos c_10]
      have hz9 : rowsT (sN_step (wOf sl wv) s0 h st cnt hw wx wy i what).1.1.1 f (sN_step (wOf sl wv) s0 h st cnt hw wx wy i what).1.1.2 := by rw [hEF]; exact hz
      have hP9 : va_P g.1 vwCl (nX g aN hw wx wy ad q ((sN_step (wOf sl wv) s0 h st cnt hw wx wy i what).1.1).1 f ((sN_step (wOf sl wv) s0 h st cnt hw wx wy i what).1.1).2 sl cnt ((sN_step (wOf sl wv) s0 h st cnt hw wx wy i what).1.2.1) ((sN_step (wOf sl wv) s0 h st cnt hw wx wy i what).1.2.2) ++ plW LW wv) H := by rw [hEF]; exact hP
      have hD9 : va_D A (nX g aN hw wx wy ad q ((sN_step (wOf sl wv) s0 h st cnt hw wx wy i what).1.1).1 f ((sN_step (wOf sl wv) s0 h st cnt hw wx wy i what).1.1).2 sl cnt ((sN_step (wOf sl wv) s0 h st cnt hw wx wy i what).1.2.1) ((sN_step (wOf sl wv) s0 h st cnt hw wx wy i what).1.2.2) ++ plW LW wv) := by rw [hEF]; exact hD
      have hmF : mu (sN_step (wOf sl wv) s0 h st cnt hw wx wy i what).1.1.1 = mu gs.1.1 := by rw [hEF]
      refine W.widen (k := (mu (sN_step (wOf sl wv) s0 h st cnt hw wx wy i what).1.1.1 - mu s0.1)) (n := (mu (sN_step (wOf sl wv) s0 h st cnt hw wx wy i what).1.1.1 - mu s0.1)) (by omega) (by omega) ?_
      exact W.iret hx hb hr (fun t ht9 hW => ⟨⟨_, (q, f), rfl, ⟨by rw [hEF], hz9⟩, by rw [ht9]; exact hP9, hD9⟩, hS.F ht9⟩) hS.2.2 dN_step_86
    refine lv_tableOut (tgt := 87) hx hb dN_step_34 (sw_out3 c_8 c_9 c_10) (by decide) ?_
    refine lv_iconst (v := -1) hx hb dN_step_87 (by decide) ?_
    have hEF : (sN_step (wOf sl wv) s0 h st cnt hw wx wy i what) = ((gs.1, gs.2.1, gs.2.2), (-1)) := by subst hgs; rw [sN_step, if_neg c_7, if_neg c_8, if_neg c_9, if_neg c_10]
    have hz9 : rowsT (sN_step (wOf sl wv) s0 h st cnt hw wx wy i what).1.1.1 f (sN_step (wOf sl wv) s0 h st cnt hw wx wy i what).1.1.2 := by rw [hEF]; exact hz
    have hP9 : va_P g.1 vwCl (nX g aN hw wx wy ad q ((sN_step (wOf sl wv) s0 h st cnt hw wx wy i what).1.1).1 f ((sN_step (wOf sl wv) s0 h st cnt hw wx wy i what).1.1).2 sl cnt ((sN_step (wOf sl wv) s0 h st cnt hw wx wy i what).1.2.1) ((sN_step (wOf sl wv) s0 h st cnt hw wx wy i what).1.2.2) ++ plW LW wv) H := by rw [hEF]; exact hP
    have hD9 : va_D A (nX g aN hw wx wy ad q ((sN_step (wOf sl wv) s0 h st cnt hw wx wy i what).1.1).1 f ((sN_step (wOf sl wv) s0 h st cnt hw wx wy i what).1.1).2 sl cnt ((sN_step (wOf sl wv) s0 h st cnt hw wx wy i what).1.2.1) ((sN_step (wOf sl wv) s0 h st cnt hw wx wy i what).1.2.2) ++ plW LW wv) := by rw [hEF]; exact hD
    have hmF : mu (sN_step (wOf sl wv) s0 h st cnt hw wx wy i what).1.1.1 = mu gs.1.1 := by rw [hEF]
    refine W.widen (k := (mu (sN_step (wOf sl wv) s0 h st cnt hw wx wy i what).1.1.1 - mu s0.1)) (n := (mu (sN_step (wOf sl wv) s0 h st cnt hw wx wy i what).1.1.1 - mu s0.1)) (by omega) (by omega) ?_
    exact W.iret hx hb hr (fun t ht9 hW => ⟨⟨_, (q, f), rfl, ⟨by rw [hEF], hz9⟩, by rw [ht9]; exact hP9, hD9⟩, hS.F ht9⟩) hS.2.2 dN_step_88
  · skip
    refine lv_iconst (v := -1) hx hb dN_step_7 (by decide) ?_
    have hEF : (sN_step (wOf sl wv) s0 h st cnt hw wx wy i what) = ((s0, h, st), (-1)) := by rw [sN_step, if_pos c_7]
    have hz9 : rowsT (sN_step (wOf sl wv) s0 h st cnt hw wx wy i what).1.1.1 f (sN_step (wOf sl wv) s0 h st cnt hw wx wy i what).1.1.2 := by rw [hEF]; exact hz
    have hP9 : va_P g.1 vwCl (nX g aN hw wx wy ad q ((sN_step (wOf sl wv) s0 h st cnt hw wx wy i what).1.1).1 f ((sN_step (wOf sl wv) s0 h st cnt hw wx wy i what).1.1).2 sl cnt ((sN_step (wOf sl wv) s0 h st cnt hw wx wy i what).1.2.1) ((sN_step (wOf sl wv) s0 h st cnt hw wx wy i what).1.2.2) ++ plW LW wv) s.heap := by rw [hEF]; exact hP
    have hD9 : va_D A (nX g aN hw wx wy ad q ((sN_step (wOf sl wv) s0 h st cnt hw wx wy i what).1.1).1 f ((sN_step (wOf sl wv) s0 h st cnt hw wx wy i what).1.1).2 sl cnt ((sN_step (wOf sl wv) s0 h st cnt hw wx wy i what).1.2.1) ((sN_step (wOf sl wv) s0 h st cnt hw wx wy i what).1.2.2) ++ plW LW wv) := by rw [hEF]; exact hD
    have hmF : mu (sN_step (wOf sl wv) s0 h st cnt hw wx wy i what).1.1.1 = mu s0.1 := by rw [hEF]
    refine W.widen (k := (mu (sN_step (wOf sl wv) s0 h st cnt hw wx wy i what).1.1.1 - mu s0.1)) (n := (mu (sN_step (wOf sl wv) s0 h st cnt hw wx wy i what).1.1.1 - mu s0.1)) (by omega) (by omega) ?_
    exact W.iret hx hb hr (fun t ht9 hW => ⟨⟨_, (q, f), rfl, ⟨by rw [hEF], hz9⟩, by rw [ht9]; exact hP9, hD9⟩, hS.F ht9⟩) hS.2.2 dN_step_8
def sN_of (Wl : Nat → Option WV) (s0 : TSt) (h st cnt hw wx wy : Int32) (i : Int32) (what : Int32) : (TSt × Int32 × Int32) × Int32 :=
  (match wAt Wl i with
  | none => ((s0, h, st), 100000)
  | some vx_11 => if what = 0 then
      ((s0, h, st), vx_11.1)
    else
      if what = 1 then
        ((s0, h, st), vx_11.2.1)
      else
        if what = 2 then
          ((s0, h, st), vx_11.2.2.1)
        else
          if what = 3 then
            ((s0, h, st), vx_11.2.2.2)
          else
            if what = 4 then
              (((sT_grow Wl s0 h st).1, (sT_grow Wl s0 h st).2.1, (sT_grow Wl s0 h st).2.2), (sT_piecesOfWall (sT_grow Wl s0 h st).1.2 Wl i))
            else
              ((s0, h, st), 100000))
set_option maxHeartbeats 4000000 in
set_option maxRecDepth 100000 in
theorem cN_of (l : Launch) (g : CX) (sz : Nat) (aN : Nat) (hw wx wy : Int32) (ad q : Nat → Nat) (f : Nat → Nat → Int32) (s0 : TSt) (sl : Nat → Option Nat) (cnt h st : Int32) (LW : List Nat) (wv : Nat → WV) (hz : rowsT s0.1 f s0.2) (hsl : slOK sl LW) (i : Int32) (what : Int32) : Met l yN_of (wm yN_of kN_of 4 (some .int)) ({ frames := 7, cells := (mu (sN_of (wOf sl wv) s0 h st cnt hw wx wy i what).1.1.1 - mu s0.1), slots := (mu (sN_of (wOf sl wv) s0 h st cnt hw wx wy i what).1.1.1 - mu s0.1), locals := 206 }) (rw g [.ref aN, .int i, .int what] (nX g aN hw wx wy ad q s0.1 f s0.2 sl cnt h st ++ plW LW wv) sz) (va_Qi (fun (r : Int32) (u : (Nat → Nat) × (Nat → Nat → Int32)) => r = (sN_of (wOf sl wv) s0 h st cnt hw wx wy i what).2 ∧ rowsT (sN_of (wOf sl wv) s0 h st cnt hw wx wy i what).1.1.1 u.2 (sN_of (wOf sl wv) s0 h st cnt hw wx wy i what).1.1.2) (rB g (va_A (nX g aN hw wx wy ad q s0.1 f s0.2 sl cnt h st ++ plW LW wv) sz) (fun u => (nX g aN hw wx wy ad u.1 (sN_of (wOf sl wv) s0 h st cnt hw wx wy i what).1.1.1 u.2 (sN_of (wOf sl wv) s0 h st cnt hw wx wy i what).1.1.2 sl cnt (sN_of (wOf sl wv) s0 h st cnt hw wx wy i what).1.2.1 (sN_of (wOf sl wv) s0 h st cnt hw wx wy i what).1.2.2 ++ plW LW wv))) (va_A (nX g aN hw wx wy ad q s0.1 f s0.2 sl cnt h st ++ plW LW wv) sz)) (mu (sN_of (wOf sl wv) s0 h st cnt hw wx wy i what).1.1.1 - mu s0.1) (mu (sN_of (wOf sl wv) s0 h st cnt hw wx wy i what).1.1.1 - mu s0.1) (va_A (nX g aN hw wx wy ad q s0.1 f s0.2 sl cnt h st ++ plW LW wv) sz) := by
  refine Met.ofW (cc := kN_of) (maxL := 4) (ret := (some .int)) (by decide) rfl ?_
  intro p e s m args below meth c s₁ B hml hv
  obtain ⟨rfl, hsz, hK, hP, hD0⟩ := hv
  have hx := B.exec
  have hb := B.bytes
  have hr := B.returns
  have ht : ∀ w ∈ wT, w.before _ s = true := fun w h => atoms_spec (ws := wm yN_of kN_of 4 (some .int)) B.pre w (List.mem_cons_of_mem _ h)
  have hown : s.vm.findClass "NodeMaker" = some m.cls := findClass_of_methodNamed B.named
  have hlocks := B.notSynchronized
  subst hsz
  have hD := hD0.self (sz := s.heap.size)
  generalize hAe : va_A (nX g aN hw wx wy ad q s0.1 f s0.2 sl cnt h st ++ plW LW wv) s.heap.size = A at hD ⊢
  have hA : ∀ q : Nat, s.heap.size ≤ q → A q := fun q h => by rw [← hAe]; exact Or.inr h
  have hS : va_S A s.heap s.heap [] := va_S.rf
  have hl := lv_entry ([.ref aN, .int i, .int what]) (n := 4) (Nat.le_of_ble_eq_true rfl)
  rw [lg_entry_eq]
  generalize (lg_sl ([.ref aN, .int i, .int what]) ++ List.replicate (4 - (lg_sl ([.ref aN, .int i, .int what])).length) Slot.unset).toArray = ls at hl ⊢
  have hl : lv_has ls 4 [(0, .ref aN), (1, .int i), (2, .int what)] := hl
  refine lv_aload_n hx hb dN_of_0 rfl (lv_at hl 0 rfl) ?_
  refine va_get (D := g.1) (ci := 5) (v := .ref (ad 0)) (C := "NodeMaker") (T := Fd_N) (N := 4) hx hb ht i_N hown hK.1 hP 0 rfl rfl 0 (by decide) (ht _ q_154) (fun _ h9 => h9) rfl dN_of_1 ?_
  refine lv_iload_n hx hb dN_of_4 rfl (lv_at hl 1 rfl) ?_
  have hPt : va_P g.1 vwCl (treeX g ad q s0.1 f s0.2 sl cnt h st ++ plW LW wv) s.heap := pl_P hP [1, 2, 3, 4, 5, 6, 7, 8, 9, 10, 11, 12, 13, 14, 15, 16, 17, 18, 19, 20, 21, 22, 23, 24, 25, 26, 27, 28, 29, 30, 31, 32, 33, 34, 35, 36, 37, 38, 39, 40, 41, 42, 43, 44] rfl
  refine ro_Vq (As := [.int i]) (rest := []) ⟨hx, hb, hml, hown, ht⟩ (cT_wallAt l g ad q s0.1 f s0.2 sl cnt h st LW wv hz hsl i) (cwV 1 ht (g_V q_490 q_491 q_492 q_35 q_493) rfl rfl rfl hd_T_wallAt ⟨Nat.le_of_ble_eq_true rfl, Nat.le_of_ble_eq_true rfl⟩) hK hPt (va_recv hK.1 hPt (ci := 4) (q0 := 0) rfl rfl) rfl hl.1 rfl (Nat.le_of_ble_eq_true rfl) dN_of_5 ⟨Nat.zero_le _, Nat.zero_le _⟩ (fun hq => ?_) (fun x_11 hq => ?_)
  · skip
    have hwx_11 : wAt (wOf sl wv) i = none := hq.1.symm
    refine lv_astore_nN (lv' := [(3, .null), (0, .ref aN), (1, .int i), (2, .int what)]) hx hb dN_of_8 rfl hl (by decide) rfl (fun ls hl => ?_)
    refine lv_aload_nN hx hb dN_of_9 rfl (lv_at hl 0 rfl) ?_
    refine lv_ifnonnullN hx hb dN_of_10 ?_
    refine lv_ldc (v := 100000) hx hb hown (ht _ q_494) dN_of_13 ?_
    have hEF : (sN_of (wOf sl wv) s0 h st cnt hw wx wy i what) = ((s0, h, st), 100000) := by simp only [sN_of, hwx_11]
    have hz9 : rowsT (sN_of (wOf sl wv) s0 h st cnt hw wx wy i what).1.1.1 f (sN_of (wOf sl wv) s0 h st cnt hw wx wy i what).1.1.2 := by rw [hEF]; exact hz
    have hP9 : va_P g.1 vwCl (nX g aN hw wx wy ad q ((sN_of (wOf sl wv) s0 h st cnt hw wx wy i what).1.1).1 f ((sN_of (wOf sl wv) s0 h st cnt hw wx wy i what).1.1).2 sl cnt ((sN_of (wOf sl wv) s0 h st cnt hw wx wy i what).1.2.1) ((sN_of (wOf sl wv) s0 h st cnt hw wx wy i what).1.2.2) ++ plW LW wv) s.heap := by rw [hEF]; exact hP
    have hD9 : va_D A (nX g aN hw wx wy ad q ((sN_of (wOf sl wv) s0 h st cnt hw wx wy i what).1.1).1 f ((sN_of (wOf sl wv) s0 h st cnt hw wx wy i what).1.1).2 sl cnt ((sN_of (wOf sl wv) s0 h st cnt hw wx wy i what).1.2.1) ((sN_of (wOf sl wv) s0 h st cnt hw wx wy i what).1.2.2) ++ plW LW wv) := by rw [hEF]; exact hD
    have hmF : mu (sN_of (wOf sl wv) s0 h st cnt hw wx wy i what).1.1.1 = mu s0.1 := by rw [hEF]
    refine W.widen (k := (mu (sN_of (wOf sl wv) s0 h st cnt hw wx wy i what).1.1.1 - mu s0.1)) (n := (mu (sN_of (wOf sl wv) s0 h st cnt hw wx wy i what).1.1.1 - mu s0.1)) (by omega) (by omega) ?_
    exact W.iret hx hb hr (fun t ht9 hW => ⟨⟨_, (q, f), rfl, ⟨by rw [hEF], hz9⟩, by rw [ht9]; exact hP9, hD9⟩, hS.F ht9⟩) hS.2.2 dN_of_15
  · skip
    have hwx_11 : wAt (wOf sl wv) i = some (wv x_11) := hq.1.symm
    have hxx_11 : x_11 ∈ LW := hq.2 _ rfl
    refine lv_astore_n (lv' := [(3, .ref x_11), (0, .ref aN), (1, .int i), (2, .int what)]) hx hb dN_of_8 rfl hl (by decide) rfl (fun ls hl => ?_)
    refine lv_aload_n hx hb dN_of_9 rfl (lv_at hl 0 rfl) ?_
    refine lv_ifnonnull (tgt := 16) hx hb dN_of_10 (by decide) ?_
    refine lv_iload_n hx hb dN_of_16 rfl (lv_at hl 3 rfl) ?_
    by_cases c_12 : what = 0
    · skip
      refine lv_tableIn (off := 35) (tgt := 52) hx hb dN_of_17 (by rw [c_12]; decide) (by rw [c_12]; decide) (by rw [c_12]; decide) (by decide) ?_
      refine lv_aload_n hx hb dN_of_52 rfl (lv_at hl 0 rfl) ?_
      have hPx := pl_one hP hxx_11
      refine va_getN (D := g.1) (ci := 2) (v := .int (wv x_11).1) (C := "NodeMaker$Wall") (T := Fd_W) (N := 4) hx hb ht i_W hown hK.1 hPx 0 rfl rfl 0 (by decide) (va_Nw.use rfl (nw_6 hK.2)) (fun _ h9 => h9) rfl dN_of_53 ?_
      have hEF : (sN_of (wOf sl wv) s0 h st cnt hw wx wy i what) = ((s0, h, st), (wv x_11).1) := by simp only [sN_of, hwx_11, if_pos c_12]
      have hz9 : rowsT (sN_of (wOf sl wv) s0 h st cnt hw wx wy i what).1.1.1 f (sN_of (wOf sl wv) s0 h st cnt hw wx wy i what).1.1.2 := by rw [hEF]; exact hz
      have hP9 : va_P g.1 vwCl (nX g aN hw wx wy ad q ((sN_of (wOf sl wv) s0 h st cnt hw wx wy i what).1.1).1 f ((sN_of (wOf sl wv) s0 h st cnt hw wx wy i what).1.1).2 sl cnt ((sN_of (wOf sl wv) s0 h st cnt hw wx wy i what).1.2.1) ((sN_of (wOf sl wv) s0 h st cnt hw wx wy i what).1.2.2) ++ plW LW wv) s.heap := by rw [hEF]; exact hP
      have hD9 : va_D A (nX g aN hw wx wy ad q ((sN_of (wOf sl wv) s0 h st cnt hw wx wy i what).1.1).1 f ((sN_of (wOf sl wv) s0 h st cnt hw wx wy i what).1.1).2 sl cnt ((sN_of (wOf sl wv) s0 h st cnt hw wx wy i what).1.2.1) ((sN_of (wOf sl wv) s0 h st cnt hw wx wy i what).1.2.2) ++ plW LW wv) := by rw [hEF]; exact hD
      have hmF : mu (sN_of (wOf sl wv) s0 h st cnt hw wx wy i what).1.1.1 = mu s0.1 := by rw [hEF]
      refine W.widen (k := (mu (sN_of (wOf sl wv) s0 h st cnt hw wx wy i what).1.1.1 - mu s0.1)) (n := (mu (sN_of (wOf sl wv) s0 h st cnt hw wx wy i what).1.1.1 - mu s0.1)) (by omega) (by omega) ?_
      exact W.iret hx hb hr (fun t ht9 hW => ⟨⟨_, (q, f), rfl, ⟨by rw [hEF], hz9⟩, by rw [ht9]; exact hP9, hD9⟩, hS.F ht9⟩) hS.2.2 dN_of_56
    by_cases c_13 : what = 1
    · skip
      refine lv_tableIn (off := 40) (tgt := 57) hx hb dN_of_17 (by rw [c_13]; decide) (by rw [c_13]; decide) (by rw [c_13]; decide) (by decide) ?_
      refine lv_aload_n hx hb dN_of_57 rfl (lv_at hl 0 rfl) ?_
      have hPx := pl_one hP hxx_11
      refine va_getN (D := g.1) (ci := 2) (v := .int (wv x_11).2.1) (C := "NodeMaker$Wall") (T := Fd_W) (N := 4) hx hb ht i_W hown hK.1 hPx 0 rfl rfl 1 (by decide) (va_Nw.use rfl (nw_7 hK.2)) (fun _ h9 => h9) rfl dN_of_58 ?_
      have hEF : (sN_of (wOf sl wv) s0 h st cnt hw wx wy i what) = ((s0, h, st), (wv x_11).2.1) := by simp only [sN_of, hwx_11, if_neg c_12, if_pos c_13]
      have hz9 : rowsT (sN_of (wOf sl wv) s0 h st cnt hw wx wy i what).1.1.1 f (sN_of (wOf sl wv) s0 h st cnt hw wx wy i what).1.1.2 := by rw [hEF]; exact hz
      have hP9 : va_P g.1 vwCl (nX g aN hw wx wy ad q ((sN_of (wOf sl wv) s0 h st cnt hw wx wy i what).1.1).1 f ((sN_of (wOf sl wv) s0 h st cnt hw wx wy i what).1.1).2 sl cnt ((sN_of (wOf sl wv) s0 h st cnt hw wx wy i what).1.2.1) ((sN_of (wOf sl wv) s0 h st cnt hw wx wy i what).1.2.2) ++ plW LW wv) s.heap := by rw [hEF]; exact hP
      have hD9 : va_D A (nX g aN hw wx wy ad q ((sN_of (wOf sl wv) s0 h st cnt hw wx wy i what).1.1).1 f ((sN_of (wOf sl wv) s0 h st cnt hw wx wy i what).1.1).2 sl cnt ((sN_of (wOf sl wv) s0 h st cnt hw wx wy i what).1.2.1) ((sN_of (wOf sl wv) s0 h st cnt hw wx wy i what).1.2.2) ++ plW LW wv) := by rw [hEF]; exact hD
      have hmF : mu (sN_of (wOf sl wv) s0 h st cnt hw wx wy i what).1.1.1 = mu s0.1 := by rw [hEF]
      refine W.widen (k := (mu (sN_of (wOf sl wv) s0 h st cnt hw wx wy i what).1.1.1 - mu s0.1)) (n := (mu (sN_of (wOf sl wv) s0 h st cnt hw wx wy i what).1.1.1 - mu s0.1)) (by omega) (by omega) ?_
      exact W.iret hx hb hr (fun t ht9 hW => ⟨⟨_, (q, f), rfl, ⟨by rw [hEF], hz9⟩, by rw [ht9]; exact hP9, hD9⟩, hS.F ht9⟩) hS.2.2 dN_of_61
    by_cases c_14 : what = 2
    · skip
      refine lv_tableIn (off := 45) (tgt := 62) hx hb dN_of_17 (by rw [c_14]; decide) (by rw [c_14]; decide) (by rw [c_14]; decide) (by decide) ?_
      refine lv_aload_n hx hb dN_of_62 rfl (lv_at hl 0 rfl) ?_
      have hPx := pl_one hP hxx_11
      refine va_getN (D := g.1) (ci := 2) (v := .int (wv x_11).2.2.1) (C := "NodeMaker$Wall") (T := Fd_W) (N := 4) hx hb ht i_W hown hK.1 hPx 0 rfl rfl 2 (by decide) (va_Nw.use rfl (nw_8 hK.2)) (fun _ h9 => h9) rfl dN_of_63 ?_
      have hEF : (sN_of (wOf sl wv) s0 h st cnt hw wx wy i what) = ((s0, h, st), (wv x_11).2.2.1) := by simp only [sN_of, hwx_11, if_neg c_12, if_neg c_13, if_pos c_14]
      have hz9 : rowsT (sN_of (wOf sl wv) s0 h st cnt hw wx wy i what).1.1.1 f (sN_of (wOf sl wv) s0 h st cnt hw wx wy i what).1.1.2 := by rw [hEF]; exact hz
      have hP9 : va_P g.1 vwCl (nX g aN hw wx wy ad q ((sN_of (wOf sl wv) s0 h st cnt hw wx wy i what).1.1).1 f ((sN_of (wOf sl wv) s0 h st cnt hw wx wy i what).1.1).2 sl cnt ((sN_of (wOf sl wv) s0 h st cnt hw wx wy i what).1.2.1) ((sN_of (wOf sl wv) s0 h st cnt hw wx wy i what).1.2.2) ++ plW LW wv) s.heap := by rw [hEF]; exact hP
      have hD9 : va_D A (nX g aN hw wx wy ad q ((sN_of (wOf sl wv) s0 h st cnt hw wx wy i what).1.1).1 f ((sN_of (wOf sl wv) s0 h st cnt hw wx wy i what).1.1).2 sl cnt ((sN_of (wOf sl wv) s0 h st cnt hw wx wy i what).1.2.1) ((sN_of (wOf sl wv) s0 h st cnt hw wx wy i what).1.2.2) ++ plW LW wv) := by rw [hEF]; exact hD
      have hmF : mu (sN_of (wOf sl wv) s0 h st cnt hw wx wy i what).1.1.1 = mu s0.1 := by rw [hEF]
      refine W.widen (k := (mu (sN_of (wOf sl wv) s0 h st cnt hw wx wy i what).1.1.1 - mu s0.1)) (n := (mu (sN_of (wOf sl wv) s0 h st cnt hw wx wy i what).1.1.1 - mu s0.1)) (by omega) (by omega) ?_
      exact W.iret hx hb hr (fun t ht9 hW => ⟨⟨_, (q, f), rfl, ⟨by rw [hEF], hz9⟩, by rw [ht9]; exact hP9, hD9⟩, hS.F ht9⟩) hS.2.2 dN_of_66
    by_cases c_15 : what = 3
    · skip
      refine lv_tableIn (off := 50) (tgt := 67) hx hb dN_of_17 (by rw [c_15]; decide) (by rw [c_15]; decide) (by rw [c_15]; decide) (by decide) ?_
      refine lv_aload_n hx hb dN_of_67 rfl (lv_at hl 0 rfl) ?_
      have hPx := pl_one hP hxx_11
      refine va_getN (D := g.1) (ci := 2) (v := .int (wv x_11).2.2.2) (C := "NodeMaker$Wall") (T := Fd_W) (N := 4) hx hb ht i_W hown hK.1 hPx 0 rfl rfl 3 (by decide) (va_Nw.use rfl (nw_9 hK.2)) (fun _ h9 => h9) rfl dN_of_68 ?_
      have hEF : (sN_of (wOf sl wv) s0 h st cnt hw wx wy i what) = ((s0, h, st), (wv x_11).2.2.2) := by simp only [sN_of, hwx_11, if_neg c_12, if_neg c_13, if_neg c_14, if_pos c_15]
      have hz9 : rowsT (sN_of (wOf sl wv) s0 h st cnt hw wx wy i what).1.1.1 f (sN_of (wOf sl wv) s0 h st cnt hw wx wy i what).1.1.2 := by rw [hEF]; exact hz
      have hP9 : va_P g.1 vwCl (nX g aN hw wx wy ad q ((sN_of (wOf sl wv) s0 h st cnt hw wx wy i what).1.1).1 f ((sN_of (wOf sl wv) s0 h st cnt hw wx wy i what).1.1).2 sl cnt ((sN_of (wOf sl wv) s0 h st cnt hw wx wy i what).1.2.1) ((sN_of (wOf sl wv) s0 h st cnt hw wx wy i what).1.2.2) ++ plW LW wv) s.heap := by rw [hEF]; exact hP
      have hD9 : va_D A (nX g aN hw wx wy ad q ((sN_of (wOf sl wv) s0 h st cnt hw wx wy i what).1.1).1 f ((sN_of (wOf sl wv) s0 h st cnt hw wx wy i what).1.1).2 sl cnt ((sN_of (wOf sl wv) s0 h st cnt hw wx wy i what).1.2.1) ((sN_of (wOf sl wv) s0 h st cnt hw wx wy i what).1.2.2) ++ plW LW wv) := by rw [hEF]; exact hD
      have hmF : mu (sN_of (wOf sl wv) s0 h st cnt hw wx wy i what).1.1.1 = mu s0.1 := by rw [hEF]
      refine W.widen (k := (mu (sN_of (wOf sl wv) s0 h st cnt hw wx wy i what).1.1.1 - mu s0.1)) (n := (mu (sN_of (wOf sl wv) s0 h st cnt hw wx wy i what).1.1.1 - mu s0.1)) (by omega) (by omega) ?_
      exact W.iret hx hb hr (fun t ht9 hW => ⟨⟨_, (q, f), rfl, ⟨by rw [hEF], hz9⟩, by rw [ht9]; exact hP9, hD9⟩, hS.F ht9⟩) hS.2.2 dN_of_71
    by_cases c_16 : what = 4
    · skip
      refine lv_tableIn (off := 55) (tgt := 72) hx hb dN_of_17 (by rw [c_16]; decide) (by rw [c_16]; decide) (by rw [c_16]; decide) (by decide) ?_
      refine lv_aload_n hx hb dN_of_72 rfl (lv_at hl 1 rfl) ?_
      refine va_get (D := g.1) (ci := 5) (v := .ref (ad 0)) (C := "NodeMaker") (T := Fd_N) (N := 4) hx hb ht i_N hown hK.1 hP 0 rfl rfl 0 (by decide) (ht _ q_154) (fun _ h9 => h9) rfl dN_of_73 ?_
      have hPt : va_P g.1 vwCl (treeX g ad q s0.1 f s0.2 sl cnt h st ++ plW LW wv) s.heap := pl_P hP [1, 2, 3, 4, 5, 6, 7, 8, 9, 10, 11, 12, 13, 14, 15, 16, 17, 18, 19, 20, 21, 22, 23, 24, 25, 26, 27, 28, 29, 30, 31, 32, 33, 34, 35, 36, 37, 38, 39, 40, 41, 42, 43, 44] rfl
      have hDt : va_D A (treeX g ad q s0.1 f s0.2 sl cnt h st ++ plW LW wv) := pl_D hD [1, 2, 3, 4, 5, 6, 7, 8, 9, 10, 11, 12, 13, 14, 15, 16, 17, 18, 19, 20, 21, 22, 23, 24, 25, 26, 27, 28, 29, 30, 31, 32, 33, 34, 35, 36, 37, 38, 39, 40, 41, 42, 43, 44] (by decide) rfl
      have hFG : (sN_of (wOf sl wv) s0 h st cnt hw wx wy i what).1 = sT_grow (wOf sl wv) s0 h st := by simp only [sN_of, hwx_11, if_neg c_12, if_neg c_13, if_neg c_14, if_neg c_15, if_pos c_16]; all_goals ((repeat' split) <;> rfl)
      have hFm : mu (sN_of (wOf sl wv) s0 h st cnt hw wx wy i what).1.1.1 = mu (sT_grow (wOf sl wv) s0 h st).1.1 := by rw [hFG]
      have hgm : mu s0.1 ≤ mu (sT_grow (wOf sl wv) s0 h st).1.1 := grow_mono _ _ _ _
      obtain ⟨gs, hgs⟩ : ∃ x, x = sT_grow (wOf sl wv) s0 h st := ⟨_, rfl⟩
      refine rw_vP (X := nX g aN hw wx wy ad q s0.1 f s0.2 sl cnt h st) (pl := plW LW wv) (cx := treeX g ad q s0.1 f s0.2 sl cnt h st) (rx := fun (u : (Nat → Nat) × (Nat → Nat → Int32)) => treeX g ad u.1 (sT_grow (wOf sl wv) s0 h st).1.1 u.2 (sT_grow (wOf sl wv) s0 h st).1.2 sl cnt (sT_grow (wOf sl wv) s0 h st).2.1 (sT_grow (wOf sl wv) s0 h st).2.2) (pl1 := fun _ => plW LW wv) (wr := [(aN, .inr (5, [.ref (ad 0), .int hw, .int wx, .int wy]))]) (va_runV (As := []) (rest := []) ⟨hx, hb, hml, hown, ht⟩ (cT_grow l g s.heap.size ad q f s0 sl cnt h st LW wv hz hsl) (cwV 0 ht (g_V q_267 q_268 q_269 q_35 q_270) rfl rfl rfl hd_T_grow ⟨Nat.le_of_ble_eq_true rfl, Nat.le_of_ble_eq_true rfl⟩) (rw_V hK hPt hDt (va_recv hK.1 hPt (ci := 4) (q0 := 0) rfl rfl)) rfl rfl hl.1 rfl (lv_room (Nat.le_of_ble_eq_true rfl)) dN_of_76 ⟨by show 0 + (mu (sT_grow (wOf sl wv) s0 h st).1.1 - mu s0.1) ≤ (mu (sN_of (wOf sl wv) s0 h st cnt hw wx wy i what).1.1.1 - mu s0.1); omega, by show 0 + (mu (sT_grow (wOf sl wv) s0 h st).1.1 - mu s0.1) ≤ (mu (sN_of (wOf sl wv) s0 h st cnt hw wx wy i what).1.1.1 - mu s0.1); omega⟩) hP hD hS hA [1, 2, 3, 4, 5, 6, 7, 8, 9, 10, 11, 12, 13, 14, 15, 16, 17, 18, 19, 20, 21, 22, 23, 24, 25, 26, 27, 28, 29, 30, 31, 32, 33, 34, 35, 36, 37, 38, 39, 40, 41, 42, 43, 44] [0] rfl rfl (by decide) (by decide) (fun u H locs hw9 hP hD hS => ?_)
      obtain ⟨q, f⟩ := u
      have hz : rowsT gs.1.1 f gs.1.2 := by rw [hgs]; exact hw9
      have hP : va_P g.1 vwCl (nX g aN hw wx wy ad q gs.1.1 f gs.1.2 sl cnt gs.2.1 gs.2.2 ++ plW LW wv) H := by rw [hgs]; exact hP
      have hD : va_D A (nX g aN hw wx wy ad q gs.1.1 f gs.1.2 sl cnt gs.2.1 gs.2.2 ++ plW LW wv) := by rw [hgs]; exact hD
      have hgu : mu (sT_grow (wOf sl wv) s0 h st).1.1 = mu gs.1.1 := by rw [hgs]
      have hgm : mu s0.1 ≤ mu gs.1.1 := by rw [hgs]; exact grow_mono _ _ _ _
      rw [← hgs] at hFG
      refine W.widen (k := mu gs.1.1 - mu s0.1) (n := mu gs.1.1 - mu s0.1) (by show 0 + (mu (sT_grow (wOf sl wv) s0 h st).1.1 - mu s0.1) ≤ _; omega) (by show 0 + (mu (sT_grow (wOf sl wv) s0 h st).1.1 - mu s0.1) ≤ _; omega) ?_
      refine lv_aload_n hx hb dN_of_79 rfl (lv_at hl 1 rfl) ?_
      refine va_get (D := g.1) (ci := 5) (v := .ref (ad 0)) (C := "NodeMaker") (T := Fd_N) (N := 4) hx hb ht i_N hown hK.1 hP 0 rfl rfl 0 (by decide) (ht _ q_154) (fun _ h9 => h9) rfl dN_of_80 ?_
      refine lv_iload_n hx hb dN_of_83 rfl (lv_at hl 2 rfl) ?_
      have hPt : va_P g.1 vwCl (treeX g ad q gs.1.1 f gs.1.2 sl cnt gs.2.1 gs.2.2 ++ plW LW wv) H := pl_P hP [1, 2, 3, 4, 5, 6, 7, 8, 9, 10, 11, 12, 13, 14, 15, 16, 17, 18, 19, 20, 21, 22, 23, 24, 25, 26, 27, 28, 29, 30, 31, 32, 33, 34, 35, 36, 37, 38, 39, 40, 41, 42, 43, 44] rfl
      refine ro_Vi (v := sT_piecesOfWall gs.1.2 (wOf sl wv) i) (As := [.int i]) (rest := []) ⟨hx, hb, hml, hown, ht⟩ (cT_piecesOfWall l g ad q gs.1.1 f gs.1.2 sl cnt gs.2.1 gs.2.2 LW wv hz hsl i) (cwV 1 ht (g_V q_495 q_496 q_497 q_35 q_498) rfl rfl rfl hd_T_piecesOfWall ⟨Nat.le_of_ble_eq_true rfl, Nat.le_of_ble_eq_true rfl⟩) hK (hPt) (va_recv hK.1 hPt (ci := 4) (q0 := 0) rfl rfl) rfl hl.1 rfl (Nat.le_of_ble_eq_true rfl) dN_of_84 ⟨by show mu gs.1.1 - mu s0.1 ≤ (mu (sN_of (wOf sl wv) s0 h st cnt hw wx wy i what).1.1.1 - mu s0.1); omega, by show mu gs.1.1 - mu s0.1 ≤ (mu (sN_of (wOf sl wv) s0 h st cnt hw wx wy i what).1.1.1 - mu s0.1); omega⟩ ?_
      have hEF : (sN_of (wOf sl wv) s0 h st cnt hw wx wy i what) = ((gs.1, gs.2.1, gs.2.2), (sT_piecesOfWall gs.1.2 (wOf sl wv) i)) := by subst hgs; simp only [sN_of, hwx_11, if_neg c_12, if_neg c_13, if_neg c_14, if_neg c_15, if_pos c_16]
      have hz9 : rowsT (sN_of (wOf sl wv) s0 h st cnt hw wx wy i what).1.1.1 f (sN_of (wOf sl wv) s0 h st cnt hw wx wy i what).1.1.2 := by rw [hEF]; exact hz
      have hP9 : va_P g.1 vwCl (nX g aN hw wx wy ad q ((sN_of (wOf sl wv) s0 h st cnt hw wx wy i what).1.1).1 f ((sN_of (wOf sl wv) s0 h st cnt hw wx wy i what).1.1).2 sl cnt ((sN_of (wOf sl wv) s0 h st cnt hw wx wy i what).1.2.1) ((sN_of (wOf sl wv) s0 h st cnt hw wx wy i what).1.2.2) ++ plW LW wv) H := by rw [hEF]; exact hP
      have hD9 : va_D A (nX g aN hw wx wy ad q ((sN_of (wOf sl wv) s0 h st cnt hw wx wy i what).1.1).1 f ((sN_of (wOf sl wv) s0 h st cnt hw wx wy i what).1.1).2 sl cnt ((sN_of (wOf sl wv) s0 h st cnt hw wx wy i what).1.2.1) ((sN_of (wOf sl wv) s0 h st cnt hw wx wy i what).1.2.2) ++ plW LW wv) := by rw [hEF]; exact hD
      have hmF : mu (sN_of (wOf sl wv) s0 h st cnt hw wx wy i what).1.1.1 = mu gs.1.1 := by rw [hEF]
      refine W.widen (k := (mu (sN_of (wOf sl wv) s0 h st cnt hw wx wy i what).1.1.1 - mu s0.1)) (n := (mu (sN_of (wOf sl wv) s0 h st cnt hw wx wy i what).1.1.1 - mu s0.1)) (by omega) (by omega) ?_
      exact W.iret hx hb hr (fun t ht9 hW => ⟨⟨_, (q, f), rfl, ⟨by rw [hEF], hz9⟩, by rw [ht9]; exact hP9, hD9⟩, hS.F ht9⟩) hS.2.2 dN_of_87
    refine lv_tableOut (tgt := 88) hx hb dN_of_17 (sw_out5 c_12 c_13 c_14 c_15 c_16) (by decide) ?_
    refine lv_ldc (v := 100000) hx hb hown (ht _ q_494) dN_of_88 ?_
    have hEF : (sN_of (wOf sl wv) s0 h st cnt hw wx wy i what) = ((s0, h, st), 100000) := by simp only [sN_of, hwx_11, if_neg c_12, if_neg c_13, if_neg c_14, if_neg c_15, if_neg c_16]
    have hz9 : rowsT (sN_of (wOf sl wv) s0 h st cnt hw wx wy i what).1.1.1 f (sN_of (wOf sl wv) s0 h st cnt hw wx wy i what).1.1.2 := by rw [hEF]; exact hz
    have hP9 : va_P g.1 vwCl (nX g aN hw wx wy ad q ((sN_of (wOf sl wv) s0 h st cnt hw wx wy i what).1.1).1 f ((sN_of (wOf sl wv) s0 h st cnt hw wx wy i what).1.1).2 sl cnt ((sN_of (wOf sl wv) s0 h st cnt hw wx wy i what).1.2.1) ((sN_of (wOf sl wv) s0 h st cnt hw wx wy i what).1.2.2) ++ plW LW wv) s.heap := by rw [hEF]; exact hP
    have hD9 : va_D A (nX g aN hw wx wy ad q ((sN_of (wOf sl wv) s0 h st cnt hw wx wy i what).1.1).1 f ((sN_of (wOf sl wv) s0 h st cnt hw wx wy i what).1.1).2 sl cnt ((sN_of (wOf sl wv) s0 h st cnt hw wx wy i what).1.2.1) ((sN_of (wOf sl wv) s0 h st cnt hw wx wy i what).1.2.2) ++ plW LW wv) := by rw [hEF]; exact hD
    have hmF : mu (sN_of (wOf sl wv) s0 h st cnt hw wx wy i what).1.1.1 = mu s0.1 := by rw [hEF]
    refine W.widen (k := (mu (sN_of (wOf sl wv) s0 h st cnt hw wx wy i what).1.1.1 - mu s0.1)) (n := (mu (sN_of (wOf sl wv) s0 h st cnt hw wx wy i what).1.1.1 - mu s0.1)) (by omega) (by omega) ?_
    exact W.iret hx hb hr (fun t ht9 hW => ⟨⟨_, (q, f), rfl, ⟨by rw [hEF], hz9⟩, by rw [ht9]; exact hP9, hD9⟩, hS.F ht9⟩) hS.2.2 dN_of_90
def sN_way (Wl : Nat → Option WV) (s0 : TSt) (h st cnt hw wx wy : Int32) (x y : Int32) : (TSt × Int32 × Int32) × Int32 :=
  if (sN_isPlace x y) = 0 then
    ((s0, h, st), (-1))
  else
    (((sT_grow Wl s0 h st).1, (sT_grow Wl s0 h st).2.1, (sT_grow Wl s0 h st).2.2), (sT_pieceCount (sT_grow Wl s0 h st).1.2 Wl))
set_option maxHeartbeats 4000000 in
set_option maxRecDepth 100000 in
theorem cN_way (l : Launch) (g : CX) (sz : Nat) (aN : Nat) (hw wx wy : Int32) (ad q : Nat → Nat) (f : Nat → Nat → Int32) (s0 : TSt) (sl : Nat → Option Nat) (cnt h st : Int32) (LW : List Nat) (wv : Nat → WV) (hz : rowsT s0.1 f s0.2) (hsl : slOK sl LW) (x y : Int32) : Met l yN_way (wm yN_way kN_way 3 (some .int)) ({ frames := 7, cells := (mu (sN_way (wOf sl wv) s0 h st cnt hw wx wy x y).1.1.1 - mu s0.1), slots := (mu (sN_way (wOf sl wv) s0 h st cnt hw wx wy x y).1.1.1 - mu s0.1), locals := 206 }) (rw g [.ref aN, .int x, .int y] (nX g aN hw wx wy ad q s0.1 f s0.2 sl cnt h st ++ plW LW wv) sz) (va_Qi (fun (r : Int32) (u : (Nat → Nat) × (Nat → Nat → Int32)) => r = (sN_way (wOf sl wv) s0 h st cnt hw wx wy x y).2 ∧ rowsT (sN_way (wOf sl wv) s0 h st cnt hw wx wy x y).1.1.1 u.2 (sN_way (wOf sl wv) s0 h st cnt hw wx wy x y).1.1.2) (rB g (va_A (nX g aN hw wx wy ad q s0.1 f s0.2 sl cnt h st ++ plW LW wv) sz) (fun u => (nX g aN (if sN_isPlace x y = 0 then hw else 1) (if sN_isPlace x y = 0 then wx else x) (if sN_isPlace x y = 0 then wy else y) ad u.1 (sN_way (wOf sl wv) s0 h st cnt hw wx wy x y).1.1.1 u.2 (sN_way (wOf sl wv) s0 h st cnt hw wx wy x y).1.1.2 sl cnt (sN_way (wOf sl wv) s0 h st cnt hw wx wy x y).1.2.1 (sN_way (wOf sl wv) s0 h st cnt hw wx wy x y).1.2.2 ++ plW LW wv))) (va_A (nX g aN hw wx wy ad q s0.1 f s0.2 sl cnt h st ++ plW LW wv) sz)) (mu (sN_way (wOf sl wv) s0 h st cnt hw wx wy x y).1.1.1 - mu s0.1) (mu (sN_way (wOf sl wv) s0 h st cnt hw wx wy x y).1.1.1 - mu s0.1) (va_A (nX g aN hw wx wy ad q s0.1 f s0.2 sl cnt h st ++ plW LW wv) sz) := by
  refine Met.ofW (cc := kN_way) (maxL := 3) (ret := (some .int)) (by decide) rfl ?_
  intro p e s m args below meth c s₁ B hml hv
  obtain ⟨rfl, hsz, hK, hP, hD0⟩ := hv
  have hx := B.exec
  have hb := B.bytes
  have hr := B.returns
  have ht : ∀ w ∈ wT, w.before _ s = true := fun w h => atoms_spec (ws := wm yN_way kN_way 3 (some .int)) B.pre w (List.mem_cons_of_mem _ h)
  have hown : s.vm.findClass "NodeMaker" = some m.cls := findClass_of_methodNamed B.named
  have hlocks := B.notSynchronized
  subst hsz
  have hD := hD0.self (sz := s.heap.size)
  generalize hAe : va_A (nX g aN hw wx wy ad q s0.1 f s0.2 sl cnt h st ++ plW LW wv) s.heap.size = A at hD ⊢
  have hA : ∀ q : Nat, s.heap.size ≤ q → A q := fun q h => by rw [← hAe]; exact Or.inr h
  have hS : va_S A s.heap s.heap [] := va_S.rf
  have hl := lv_entry ([.ref aN, .int x, .int y]) (n := 3) (Nat.le_of_ble_eq_true rfl)
  rw [lg_entry_eq]
  generalize (lg_sl ([.ref aN, .int x, .int y]) ++ List.replicate (3 - (lg_sl ([.ref aN, .int x, .int y])).length) Slot.unset).toArray = ls at hl ⊢
  have hl : lv_has ls 3 [(0, .ref aN), (1, .int x), (2, .int y)] := hl
  refine lv_iload_n hx hb dN_way_0 rfl (lv_at hl 1 rfl) ?_
  refine lv_iload_n hx hb dN_way_1 rfl (lv_at hl 2 rfl) ?_
  refine ro_Si (v := sN_isPlace x y) (As := [.int x, .int y]) (rest := []) ⟨hx, hb, hml, hown, ht⟩ (cN_isPlace l g x y) (cwS 2 ht (g_S q_171 q_172 q_34 q_173) rfl rfl rfl hd_N_isPlace ⟨Nat.le_of_ble_eq_true rfl, Nat.le_of_ble_eq_true rfl⟩) hK (trivial) rfl hl.1 rfl (Nat.le_of_ble_eq_true rfl) dN_way_2 ⟨by show 0 ≤ (mu (sN_way (wOf sl wv) s0 h st cnt hw wx wy x y).1.1.1 - mu s0.1); omega, by show 0 ≤ (mu (sN_way (wOf sl wv) s0 h st cnt hw wx wy x y).1.1.1 - mu s0.1); omega⟩ ?_
  refine lv_if_ne (tgt := 10) hx hb dN_way_5 (by decide) (fun c_17 => ?_) (fun c_17 => ?_)
  · skip
    refine lv_aload_n hx hb dN_way_10 rfl (lv_at hl 0 rfl) ?_
    refine lv_iconst (v := 1) hx hb dN_way_11 (by decide) ?_
    refine va_put (D := g.1) (ci := 5) (v := .int 1) (ty := .boolean) (C := "NodeMaker") (T := Fd_N) (N := 4) hx hb ht i_N ty_N ty_N_ok nm_N hown hK.1 hP hD hS 0 rfl rfl 1 (by decide) (ht _ q_155) (fun _ h9 => h9) rfl (by decide +kernel) rfl rfl (Nat.le_of_ble_eq_true rfl) dN_way_12 (fun H locs hP hD hS => ?_)
    have hP : va_P g.1 vwCl (nX g aN 1 wx wy ad q s0.1 f s0.2 sl cnt h st ++ plW LW wv) H := hP
    have hD : va_D A (nX g aN 1 wx wy ad q s0.1 f s0.2 sl cnt h st ++ plW LW wv) := hD
    refine lv_aload_n hx hb dN_way_15 rfl (lv_at hl 0 rfl) ?_
    refine lv_iload_n hx hb dN_way_16 rfl (lv_at hl 1 rfl) ?_
    refine va_put (D := g.1) (ci := 5) (v := .int x) (ty := .int) (C := "NodeMaker") (T := Fd_N) (N := 4) hx hb ht i_N ty_N ty_N_ok nm_N hown hK.1 hP hD hS 0 rfl rfl 2 (by decide) (ht _ q_156) (fun _ h9 => h9) rfl (by decide +kernel) rfl rfl (Nat.le_of_ble_eq_true rfl) dN_way_17 (fun H locs hP hD hS => ?_)
    have hP : va_P g.1 vwCl (nX g aN 1 x wy ad q s0.1 f s0.2 sl cnt h st ++ plW LW wv) H := hP
    have hD : va_D A (nX g aN 1 x wy ad q s0.1 f s0.2 sl cnt h st ++ plW LW wv) := hD
    refine lv_aload_n hx hb dN_way_20 rfl (lv_at hl 0 rfl) ?_
    refine lv_iload_n hx hb dN_way_21 rfl (lv_at hl 2 rfl) ?_
    refine va_put (D := g.1) (ci := 5) (v := .int y) (ty := .int) (C := "NodeMaker") (T := Fd_N) (N := 4) hx hb ht i_N ty_N ty_N_ok nm_N hown hK.1 hP hD hS 0 rfl rfl 3 (by decide) (ht _ q_157) (fun _ h9 => h9) rfl (by decide +kernel) rfl rfl (Nat.le_of_ble_eq_true rfl) dN_way_22 (fun H locs hP hD hS => ?_)
    have hP : va_P g.1 vwCl (nX g aN 1 x y ad q s0.1 f s0.2 sl cnt h st ++ plW LW wv) H := hP
    have hD : va_D A (nX g aN 1 x y ad q s0.1 f s0.2 sl cnt h st ++ plW LW wv) := hD
    refine lv_aload_n hx hb dN_way_25 rfl (lv_at hl 0 rfl) ?_
    refine va_get (D := g.1) (ci := 5) (v := .ref (ad 0)) (C := "NodeMaker") (T := Fd_N) (N := 4) hx hb ht i_N hown hK.1 hP 0 rfl rfl 0 (by decide) (ht _ q_154) (fun _ h9 => h9) rfl dN_way_26 ?_
    have hPt : va_P g.1 vwCl (treeX g ad q s0.1 f s0.2 sl cnt h st ++ plW LW wv) H := pl_P hP [1, 2, 3, 4, 5, 6, 7, 8, 9, 10, 11, 12, 13, 14, 15, 16, 17, 18, 19, 20, 21, 22, 23, 24, 25, 26, 27, 28, 29, 30, 31, 32, 33, 34, 35, 36, 37, 38, 39, 40, 41, 42, 43, 44] rfl
    have hDt : va_D A (treeX g ad q s0.1 f s0.2 sl cnt h st ++ plW LW wv) := pl_D hD [1, 2, 3, 4, 5, 6, 7, 8, 9, 10, 11, 12, 13, 14, 15, 16, 17, 18, 19, 20, 21, 22, 23, 24, 25, 26, 27, 28, 29, 30, 31, 32, 33, 34, 35, 36, 37, 38, 39, 40, 41, 42, 43, 44] (by decide) rfl
    have hFG : (sN_way (wOf sl wv) s0 h st cnt hw wx wy x y).1 = sT_grow (wOf sl wv) s0 h st := by rw [sN_way, if_neg c_17]; all_goals ((repeat' split) <;> rfl)
    have hFm : mu (sN_way (wOf sl wv) s0 h st cnt hw wx wy x y).1.1.1 = mu (sT_grow (wOf sl wv) s0 h st).1.1 := by rw [hFG]
    have hgm : mu s0.1 ≤ mu (sT_grow (wOf sl wv) s0 h st).1.1 := grow_mono _ _ _ _
    obtain ⟨gs, hgs⟩ : ∃ x, x = sT_grow (wOf sl wv) s0 h st := ⟨_, rfl⟩
    refine rw_vP (X := nX g aN 1 x y ad q s0.1 f s0.2 sl cnt h st) (pl := plW LW wv) (cx := treeX g ad q s0.1 f s0.2 sl cnt h st) (rx := fun (u : (Nat → Nat) × (Nat → Nat → Int32)) => treeX g ad u.1 (sT_grow (wOf sl wv) s0 h st).1.1 u.2 (sT_grow (wOf sl wv) s0 h st).1.2 sl cnt (sT_grow (wOf sl wv) s0 h st).2.1 (sT_grow (wOf sl wv) s0 h st).2.2) (pl1 := fun _ => plW LW wv) (wr := [(aN, .inr (5, [.ref (ad 0), .int 1, .int x, .int y]))]) (va_runV (As := []) (rest := []) ⟨hx, hb, hml, hown, ht⟩ (cT_grow l g H.size ad q f s0 sl cnt h st LW wv hz hsl) (cwV 0 ht (g_V q_267 q_268 q_269 q_35 q_270) rfl rfl rfl hd_T_grow ⟨Nat.le_of_ble_eq_true rfl, Nat.le_of_ble_eq_true rfl⟩) (rw_V hK hPt hDt (va_recv hK.1 hPt (ci := 4) (q0 := 0) rfl rfl)) rfl rfl hl.1 rfl (lv_room (Nat.le_of_ble_eq_true rfl)) dN_way_29 ⟨by show 0 + (mu (sT_grow (wOf sl wv) s0 h st).1.1 - mu s0.1) ≤ (mu (sN_way (wOf sl wv) s0 h st cnt hw wx wy x y).1.1.1 - mu s0.1); omega, by show 0 + (mu (sT_grow (wOf sl wv) s0 h st).1.1 - mu s0.1) ≤ (mu (sN_way (wOf sl wv) s0 h st cnt hw wx wy x y).1.1.1 - mu s0.1); omega⟩) hP hD hS hA [1, 2, 3, 4, 5, 6, 7, 8, 9, 10, 11, 12, 13, 14, 15, 16, 17, 18, 19, 20, 21, 22, 23, 24, 25, 26, 27, 28, 29, 30, 31, 32, 33, 34, 35, 36, 37, 38, 39, 40, 41, 42, 43, 44] [0] rfl rfl (by decide) (by decide) (fun u H locs hw9 hP hD hS => ?_)
    obtain ⟨q, f⟩ := u
    have hz : rowsT gs.1.1 f gs.1.2 := by rw [hgs]; exact hw9
    have hP : va_P g.1 vwCl (nX g aN 1 x y ad q gs.1.1 f gs.1.2 sl cnt gs.2.1 gs.2.2 ++ plW LW wv) H := by rw [hgs]; exact hP
    have hD : va_D A (nX g aN 1 x y ad q gs.1.1 f gs.1.2 sl cnt gs.2.1 gs.2.2 ++ plW LW wv) := by rw [hgs]; exact hD
    have hgu : mu (sT_grow (wOf sl wv) s0 h st).1.1 = mu gs.1.1 := by rw [hgs]
    have hgm : mu s0.1 ≤ mu gs.1.1 := by rw [hgs]; exact grow_mono _ _ _ _
    rw [← hgs] at hFG
    refine W.widen (k := mu gs.1.1 - mu s0.1) (n := mu gs.1.1 - mu s0.1) (by show 0 + (mu (sT_grow (wOf sl wv) s0 h st).1.1 - mu s0.1) ≤ _; omega) (by show 0 + (mu (sT_grow (wOf sl wv) s0 h st).1.1 - mu s0.1) ≤ _; omega) ?_
    refine lv_aload_n hx hb dN_way_32 rfl (lv_at hl 0 rfl) ?_
    refine va_get (D := g.1) (ci := 5) (v := .ref (ad 0)) (C := "NodeMaker") (T := Fd_N) (N := 4) hx hb ht i_N hown hK.1 hP 0 rfl rfl 0 (by decide) (ht _ q_154) (fun _ h9 => h9) rfl dN_way_33 ?_
    have hPt : va_P g.1 vwCl (treeX g ad q gs.1.1 f gs.1.2 sl cnt gs.2.1 gs.2.2 ++ plW LW wv) H := pl_P hP [1, 2, 3, 4, 5, 6, 7, 8, 9, 10, 11, 12, 13, 14, 15, 16, 17, 18, 19, 20, 21, 22, 23, 24, 25, 26, 27, 28, 29, 30, 31, 32, 33, 34, 35, 36, 37, 38, 39, 40, 41, 42, 43, 44] rfl
    refine ro_Vi (v := sT_pieceCount gs.1.2 (wOf sl wv) ) (As := []) (rest := []) ⟨hx, hb, hml, hown, ht⟩ (cT_pieceCount l g ad q gs.1.1 f gs.1.2 sl cnt gs.2.1 gs.2.2 LW wv hz hsl ) (cwV 0 ht (g_V q_462 q_463 q_464 q_35 q_465) rfl rfl rfl hd_T_pieceCount ⟨Nat.le_of_ble_eq_true rfl, Nat.le_of_ble_eq_true rfl⟩) hK (hPt) (va_recv hK.1 hPt (ci := 4) (q0 := 0) rfl rfl) rfl hl.1 rfl (Nat.le_of_ble_eq_true rfl) dN_way_36 ⟨by show mu gs.1.1 - mu s0.1 ≤ (mu (sN_way (wOf sl wv) s0 h st cnt hw wx wy x y).1.1.1 - mu s0.1); omega, by show mu gs.1.1 - mu s0.1 ≤ (mu (sN_way (wOf sl wv) s0 h st cnt hw wx wy x y).1.1.1 - mu s0.1); omega⟩ ?_
    have hEF : (sN_way (wOf sl wv) s0 h st cnt hw wx wy x y) = ((gs.1, gs.2.1, gs.2.2), (sT_pieceCount gs.1.2 (wOf sl wv))) := by subst hgs; rw [sN_way, if_neg c_17]
    have hz9 : rowsT (sN_way (wOf sl wv) s0 h st cnt hw wx wy x y).1.1.1 f (sN_way (wOf sl wv) s0 h st cnt hw wx wy x y).1.1.2 := by rw [hEF]; exact hz
    have hP9 : va_P g.1 vwCl (nX g aN (if sN_isPlace x y = 0 then hw else 1) (if sN_isPlace x y = 0 then wx else x) (if sN_isPlace x y = 0 then wy else y) ad q ((sN_way (wOf sl wv) s0 h st cnt hw wx wy x y).1.1).1 f ((sN_way (wOf sl wv) s0 h st cnt hw wx wy x y).1.1).2 sl cnt ((sN_way (wOf sl wv) s0 h st cnt hw wx wy x y).1.2.1) ((sN_way (wOf sl wv) s0 h st cnt hw wx wy x y).1.2.2) ++ plW LW wv) H := by rw [hEF, if_neg c_17, if_neg c_17, if_neg c_17]; exact hP
    have hD9 : va_D A (nX g aN (if sN_isPlace x y = 0 then hw else 1) (if sN_isPlace x y = 0 then wx else x) (if sN_isPlace x y = 0 then wy else y) ad q ((sN_way (wOf sl wv) s0 h st cnt hw wx wy x y).1.1).1 f ((sN_way (wOf sl wv) s0 h st cnt hw wx wy x y).1.1).2 sl cnt ((sN_way (wOf sl wv) s0 h st cnt hw wx wy x y).1.2.1) ((sN_way (wOf sl wv) s0 h st cnt hw wx wy x y).1.2.2) ++ plW LW wv) := by rw [hEF, if_neg c_17, if_neg c_17, if_neg c_17]; exact hD
    have hmF : mu (sN_way (wOf sl wv) s0 h st cnt hw wx wy x y).1.1.1 = mu gs.1.1 := by rw [hEF]
    refine W.widen (k := (mu (sN_way (wOf sl wv) s0 h st cnt hw wx wy x y).1.1.1 - mu s0.1)) (n := (mu (sN_way (wOf sl wv) s0 h st cnt hw wx wy x y).1.1.1 - mu s0.1)) (by omega) (by omega) ?_
    exact W.iret hx hb hr (fun t ht9 hW => ⟨⟨_, (q, f), rfl, ⟨by rw [hEF], hz9⟩, by rw [ht9]; exact hP9, hD9⟩, hS.F ht9⟩) hS.2.2 dN_way_39
  · skip
    refine lv_iconst (v := -1) hx hb dN_way_8 (by decide) ?_
    have hEF : (sN_way (wOf sl wv) s0 h st cnt hw wx wy x y) = ((s0, h, st), (-1)) := by rw [sN_way, if_pos c_17]
    have hz9 : rowsT (sN_way (wOf sl wv) s0 h st cnt hw wx wy x y).1.1.1 f (sN_way (wOf sl wv) s0 h st cnt hw wx wy x y).1.1.2 := by rw [hEF]; exact hz
    have hP9 : va_P g.1 vwCl (nX g aN (if sN_isPlace x y = 0 then hw else 1) (if sN_isPlace x y = 0 then wx else x) (if sN_isPlace x y = 0 then wy else y) ad q ((sN_way (wOf sl wv) s0 h st cnt hw wx wy x y).1.1).1 f ((sN_way (wOf sl wv) s0 h st cnt hw wx wy x y).1.1).2 sl cnt ((sN_way (wOf sl wv) s0 h st cnt hw wx wy x y).1.2.1) ((sN_way (wOf sl wv) s0 h st cnt hw wx wy x y).1.2.2) ++ plW LW wv) s.heap := by rw [hEF, if_pos c_17, if_pos c_17, if_pos c_17]; exact hP
    have hD9 : va_D A (nX g aN (if sN_isPlace x y = 0 then hw else 1) (if sN_isPlace x y = 0 then wx else x) (if sN_isPlace x y = 0 then wy else y) ad q ((sN_way (wOf sl wv) s0 h st cnt hw wx wy x y).1.1).1 f ((sN_way (wOf sl wv) s0 h st cnt hw wx wy x y).1.1).2 sl cnt ((sN_way (wOf sl wv) s0 h st cnt hw wx wy x y).1.2.1) ((sN_way (wOf sl wv) s0 h st cnt hw wx wy x y).1.2.2) ++ plW LW wv) := by rw [hEF, if_pos c_17, if_pos c_17, if_pos c_17]; exact hD
    have hmF : mu (sN_way (wOf sl wv) s0 h st cnt hw wx wy x y).1.1.1 = mu s0.1 := by rw [hEF]
    refine W.widen (k := (mu (sN_way (wOf sl wv) s0 h st cnt hw wx wy x y).1.1.1 - mu s0.1)) (n := (mu (sN_way (wOf sl wv) s0 h st cnt hw wx wy x y).1.1.1 - mu s0.1)) (by omega) (by omega) ?_
    exact W.iret hx hb hr (fun t ht9 hW => ⟨⟨_, (q, f), rfl, ⟨by rw [hEF], hz9⟩, by rw [ht9]; exact hP9, hD9⟩, hS.F ht9⟩) hS.2.2 dN_way_9
