def sT_quotientOf (Rw : Nat → List Int32) (Wl : Nat → Option WV) (k : Int32) (la : Int32) (ab : Int32) : Int64 :=
  (match wAt Wl (rAt (Rw 6) k) with
  | none => if la = 0 then
      (match wAt Wl (rAt (Rw 7) k) with
      | none => (-1)
      | some vx_3 => (-1))
    else
      (match wAt Wl (rAt (Rw 8) k) with
      | none => (-1)
      | some vx_4 => (-1))
  | some vx_1 => if la = 0 then
      (match wAt Wl (rAt (Rw 7) k) with
      | none => if ab = 0 then
          1
        else
          0
      | some vx_6 => if (sT_commonDivisor ((if 0 < (sW_side vx_6 (vx_1.1) (vx_1.2.1)) then (sW_side vx_6 (vx_1.1) (vx_1.2.1)) else -(sW_side vx_6 (vx_1.1) (vx_1.2.1))) + (if 0 < (sW_side vx_6 (vx_1.2.2.1) (vx_1.2.2.2)) then (sW_side vx_6 (vx_1.2.2.1) (vx_1.2.2.2)) else -(sW_side vx_6 (vx_1.2.2.1) (vx_1.2.2.2)))) (if 0 < (sW_side vx_6 (vx_1.1) (vx_1.2.1)) then (sW_side vx_6 (vx_1.1) (vx_1.2.1)) else -(sW_side vx_6 (vx_1.1) (vx_1.2.1)))) = 0 then
          (-1)
        else
          if ab = 0 then
            (((if 0 < (sW_side vx_6 (vx_1.1) (vx_1.2.1)) then (sW_side vx_6 (vx_1.1) (vx_1.2.1)) else -(sW_side vx_6 (vx_1.1) (vx_1.2.1))) + (if 0 < (sW_side vx_6 (vx_1.2.2.1) (vx_1.2.2.2)) then (sW_side vx_6 (vx_1.2.2.1) (vx_1.2.2.2)) else -(sW_side vx_6 (vx_1.2.2.1) (vx_1.2.2.2)))) / (sT_commonDivisor ((if 0 < (sW_side vx_6 (vx_1.1) (vx_1.2.1)) then (sW_side vx_6 (vx_1.1) (vx_1.2.1)) else -(sW_side vx_6 (vx_1.1) (vx_1.2.1))) + (if 0 < (sW_side vx_6 (vx_1.2.2.1) (vx_1.2.2.2)) then (sW_side vx_6 (vx_1.2.2.1) (vx_1.2.2.2)) else -(sW_side vx_6 (vx_1.2.2.1) (vx_1.2.2.2)))) (if 0 < (sW_side vx_6 (vx_1.1) (vx_1.2.1)) then (sW_side vx_6 (vx_1.1) (vx_1.2.1)) else -(sW_side vx_6 (vx_1.1) (vx_1.2.1)))))
          else
            ((if 0 < (sW_side vx_6 (vx_1.1) (vx_1.2.1)) then (sW_side vx_6 (vx_1.1) (vx_1.2.1)) else -(sW_side vx_6 (vx_1.1) (vx_1.2.1))) / (sT_commonDivisor ((if 0 < (sW_side vx_6 (vx_1.1) (vx_1.2.1)) then (sW_side vx_6 (vx_1.1) (vx_1.2.1)) else -(sW_side vx_6 (vx_1.1) (vx_1.2.1))) + (if 0 < (sW_side vx_6 (vx_1.2.2.1) (vx_1.2.2.2)) then (sW_side vx_6 (vx_1.2.2.1) (vx_1.2.2.2)) else -(sW_side vx_6 (vx_1.2.2.1) (vx_1.2.2.2)))) (if 0 < (sW_side vx_6 (vx_1.1) (vx_1.2.1)) then (sW_side vx_6 (vx_1.1) (vx_1.2.1)) else -(sW_side vx_6 (vx_1.1) (vx_1.2.1))))))
    else
      (match wAt Wl (rAt (Rw 8) k) with
      | none => if ab = 0 then
          1
        else
          1
      | some vx_11 => if (sT_commonDivisor ((if 0 < (sW_side vx_11 (vx_1.1) (vx_1.2.1)) then (sW_side vx_11 (vx_1.1) (vx_1.2.1)) else -(sW_side vx_11 (vx_1.1) (vx_1.2.1))) + (if 0 < (sW_side vx_11 (vx_1.2.2.1) (vx_1.2.2.2)) then (sW_side vx_11 (vx_1.2.2.1) (vx_1.2.2.2)) else -(sW_side vx_11 (vx_1.2.2.1) (vx_1.2.2.2)))) (if 0 < (sW_side vx_11 (vx_1.1) (vx_1.2.1)) then (sW_side vx_11 (vx_1.1) (vx_1.2.1)) else -(sW_side vx_11 (vx_1.1) (vx_1.2.1)))) = 0 then
          (-1)
        else
          if ab = 0 then
            (((if 0 < (sW_side vx_11 (vx_1.1) (vx_1.2.1)) then (sW_side vx_11 (vx_1.1) (vx_1.2.1)) else -(sW_side vx_11 (vx_1.1) (vx_1.2.1))) + (if 0 < (sW_side vx_11 (vx_1.2.2.1) (vx_1.2.2.2)) then (sW_side vx_11 (vx_1.2.2.1) (vx_1.2.2.2)) else -(sW_side vx_11 (vx_1.2.2.1) (vx_1.2.2.2)))) / (sT_commonDivisor ((if 0 < (sW_side vx_11 (vx_1.1) (vx_1.2.1)) then (sW_side vx_11 (vx_1.1) (vx_1.2.1)) else -(sW_side vx_11 (vx_1.1) (vx_1.2.1))) + (if 0 < (sW_side vx_11 (vx_1.2.2.1) (vx_1.2.2.2)) then (sW_side vx_11 (vx_1.2.2.1) (vx_1.2.2.2)) else -(sW_side vx_11 (vx_1.2.2.1) (vx_1.2.2.2)))) (if 0 < (sW_side vx_11 (vx_1.1) (vx_1.2.1)) then (sW_side vx_11 (vx_1.1) (vx_1.2.1)) else -(sW_side vx_11 (vx_1.1) (vx_1.2.1)))))
          else
            ((if 0 < (sW_side vx_11 (vx_1.1) (vx_1.2.1)) then (sW_side vx_11 (vx_1.1) (vx_1.2.1)) else -(sW_side vx_11 (vx_1.1) (vx_1.2.1))) / (sT_commonDivisor ((if 0 < (sW_side vx_11 (vx_1.1) (vx_1.2.1)) then (sW_side vx_11 (vx_1.1) (vx_1.2.1)) else -(sW_side vx_11 (vx_1.1) (vx_1.2.1))) + (if 0 < (sW_side vx_11 (vx_1.2.2.1) (vx_1.2.2.2)) then (sW_side vx_11 (vx_1.2.2.1) (vx_1.2.2.2)) else -(sW_side vx_11 (vx_1.2.2.1) (vx_1.2.2.2)))) (if 0 < (sW_side vx_11 (vx_1.1) (vx_1.2.1)) then (sW_side vx_11 (vx_1.1) (vx_1.2.1)) else -(sW_side vx_11 (vx_1.1) (vx_1.2.1)))))))
set_option maxHeartbeats 4000000 in
set_option maxRecDepth 100000 in
theorem cT_quotientOf (l : Launch) (g : CX) (ad q cp : Nat → Nat) (f : Nat → Nat → Int32) (Rw : Nat → List Int32) (sl : Nat → Option Nat) (cnt h st : Int32) (LW : List Nat) (wv : Nat → WV) (hz : rowsT cp f Rw) (hsl : slOK sl LW) (k : Int32) (la : Int32) (ab : Int32) : Met l yT_quotientOf (wm yT_quotientOf kT_quotientOf 12 (some .long)) ({ frames := 2, cells := 0, slots := 0, locals := 42 }) (ro g [.ref (ad 0), .int k, .int la, .int ab] (va_P g.1 vwCl (TW g ad q cp f Rw sl cnt h st LW wv))) (vp_Sl (fun r => r = sT_quotientOf Rw (wOf sl wv) k la ab)) 0 0 (fun _ => False) := by
  refine Met.ofW (cc := kT_quotientOf) (maxL := 12) (ret := (some .long)) (by decide) rfl ?_
  intro p e s m args below meth c s₁ B hml hv
  obtain ⟨rfl, hK, hP⟩ := hv
  have hx := B.exec
  have hb := B.bytes
  have hr := B.returns
  have ht : ∀ w ∈ wT, w.before _ s = true := fun w h => atoms_spec (ws := wm yT_quotientOf kT_quotientOf 12 (some .long)) B.pre w (List.mem_cons_of_mem _ h)
  have hown : s.vm.findClass "NodeMaker$Tree" = some m.cls := findClass_of_methodNamed B.named
  have hlocks := B.notSynchronized
  have hl := lv_entry ([.ref (ad 0), .int k, .int la, .int ab]) (n := 12) (Nat.le_of_ble_eq_true rfl)
  rw [lg_entry_eq]
  generalize (lg_sl ([.ref (ad 0), .int k, .int la, .int ab]) ++ List.replicate (12 - (lg_sl ([.ref (ad 0), .int k, .int la, .int ab])).length) Slot.unset).toArray = ls at hl ⊢
  have hl : lv_has ls 12 [(0, .ref (ad 0)), (1, .int k), (2, .int la), (3, .int ab)] := hl
  refine lv_aload_n hx hb dT_quotientOf_0 rfl (lv_at hl 0 rfl) ?_
  refine va_get (D := g.1) (ci := 4) (v := .ref (ad 1)) (C := "NodeMaker$Tree") (T := Fd_T) (N := 16) hx hb ht i_T hown hK.1 hP 0 rfl rfl 0 (by decide) (ht _ q_105) (fun _ h9 => h9) rfl dT_quotientOf_1 ?_
  refine lv_aload_n hx hb dT_quotientOf_4 rfl (lv_at hl 0 rfl) ?_
  refine va_get (D := g.1) (ci := 4) (v := .ref (ad 3)) (C := "NodeMaker$Tree") (T := Fd_T) (N := 16) hx hb ht i_T hown hK.1 hP 0 rfl rfl 7 (by decide) (ht _ q_112) (fun _ h9 => h9) rfl dT_quotientOf_5 ?_
  refine lv_iload_n hx hb dT_quotientOf_8 rfl (lv_at hl 1 rfl) ?_
  have hPc := hP.sub (ws' := (piW g (ad 3) (fun k => ad (12 + k)) (fun k => q (6 + k)) (fun k => cp (6 + k)) (fun k => f (6 + k)) (fun k => (Rw (6 + k)).length))) [3, 18, 19, 20, 21, 22, 23] rfl
  refine ro_Vi (v := rAt (Rw 6) k) (As := [.int k]) (rest := [.ref (ad 1)]) ⟨hx, hb, hml, hown, ht⟩ (cP_wallAt l g (ad 3) (fun k => ad (12 + k)) (fun k => q (6 + k)) (fun k => cp (6 + k)) (fun k => f (6 + k)) (fun k => Rw (6 + k)) (rows_3 6 (by decide) hz) k) (cwV 1 ht (g_V q_341 q_342 q_343 q_38 q_344) rfl rfl rfl hd_P_wallAt ⟨Nat.le_of_ble_eq_true rfl, Nat.le_of_ble_eq_true rfl⟩) hK (hPc) (va_recv hK.1 hPc (ci := 1) (q0 := 0) rfl rfl) rfl hl.1 rfl (Nat.le_of_ble_eq_true rfl) dT_quotientOf_9 ⟨by show 0 ≤ 0; omega, by show 0 ≤ 0; omega⟩ ?_
  have hPc := pl_P (cx := wsX g (ad 1) (ad 2) sl cnt) hP [1, 2] rfl
  refine ro_Vq (As := [.int (rAt (Rw 6) k)]) (rest := []) ⟨hx, hb, hml, hown, ht⟩ (cS_at l g (ad 1) (ad 2) sl cnt LW wv hsl (rAt (Rw 6) k)) (cwV 1 ht (g_V q_284 q_248 q_249 q_36 q_250) rfl rfl rfl hd_S_at ⟨Nat.le_of_ble_eq_true rfl, Nat.le_of_ble_eq_true rfl⟩) hK hPc (va_recv hK.1 hPc (ci := 3) (q0 := 0) rfl rfl) rfl hl.1 rfl (Nat.le_of_ble_eq_true rfl) dT_quotientOf_12 ⟨by show 0 ≤ 0; omega, by show 0 ≤ 0; omega⟩ (fun hq => ?_) (fun x_1 hq => ?_)
  · skip
    have hwx_1 : wAt (wOf sl wv) (rAt (Rw 6) k) = none := hq.1.symm
    refine lv_astoreN (lv' := [(4, .null), (0, .ref (ad 0)), (1, .int k), (2, .int la), (3, .int ab)]) hx hb dT_quotientOf_15 hl (by decide) rfl (fun ls hl => ?_)
    refine lv_aload_n hx hb dT_quotientOf_17 rfl (lv_at hl 1 rfl) ?_
    refine va_get (D := g.1) (ci := 4) (v := .ref (ad 1)) (C := "NodeMaker$Tree") (T := Fd_T) (N := 16) hx hb ht i_T hown hK.1 hP 0 rfl rfl 0 (by decide) (ht _ q_105) (fun _ h9 => h9) rfl dT_quotientOf_18 ?_
    refine lv_iload_n hx hb dT_quotientOf_21 rfl (lv_at hl 3 rfl) ?_
    refine lv_if_eq (tgt := 36) hx hb dT_quotientOf_22 (by decide) (fun c_2 => ?_) (fun c_2 => ?_)
    · skip
      refine lv_aload_n hx hb dT_quotientOf_36 rfl (lv_at hl 1 rfl) ?_
      refine va_get (D := g.1) (ci := 4) (v := .ref (ad 3)) (C := "NodeMaker$Tree") (T := Fd_T) (N := 16) hx hb ht i_T hown hK.1 hP 0 rfl rfl 7 (by decide) (ht _ q_112) (fun _ h9 => h9) rfl dT_quotientOf_37 ?_
      refine lv_iload_n hx hb dT_quotientOf_40 rfl (lv_at hl 2 rfl) ?_
      have hPc := hP.sub (ws' := (piW g (ad 3) (fun k => ad (12 + k)) (fun k => q (6 + k)) (fun k => cp (6 + k)) (fun k => f (6 + k)) (fun k => (Rw (6 + k)).length))) [3, 18, 19, 20, 21, 22, 23] rfl
      refine ro_Vi (v := rAt (Rw 7) k) (As := [.int k]) (rest := [.ref (ad 1)]) ⟨hx, hb, hml, hown, ht⟩ (cP_firstAt l g (ad 3) (fun k => ad (12 + k)) (fun k => q (6 + k)) (fun k => cp (6 + k)) (fun k => f (6 + k)) (fun k => Rw (6 + k)) (rows_3 6 (by decide) hz) k) (cwV 1 ht (g_V q_350 q_351 q_352 q_38 q_353) rfl rfl rfl hd_P_firstAt ⟨Nat.le_of_ble_eq_true rfl, Nat.le_of_ble_eq_true rfl⟩) hK (hPc) (va_recv hK.1 hPc (ci := 1) (q0 := 0) rfl rfl) rfl hl.1 rfl (Nat.le_of_ble_eq_true rfl) dT_quotientOf_41 ⟨by show 0 ≤ 0; omega, by show 0 ≤ 0; omega⟩ ?_
      have hPc := pl_P (cx := wsX g (ad 1) (ad 2) sl cnt) hP [1, 2] rfl
      refine ro_Vq (As := [.int (rAt (Rw 7) k)]) (rest := []) ⟨hx, hb, hml, hown, ht⟩ (cS_at l g (ad 1) (ad 2) sl cnt LW wv hsl (rAt (Rw 7) k)) (cwV 1 ht (g_V q_284 q_248 q_249 q_36 q_250) rfl rfl rfl hd_S_at ⟨Nat.le_of_ble_eq_true rfl, Nat.le_of_ble_eq_true rfl⟩) hK hPc (va_recv hK.1 hPc (ci := 3) (q0 := 0) rfl rfl) rfl hl.1 rfl (Nat.le_of_ble_eq_true rfl) dT_quotientOf_44 ⟨by show 0 ≤ 0; omega, by show 0 ≤ 0; omega⟩ (fun hq => ?_) (fun x_3 hq => ?_)
      · skip
        have hwx_3 : wAt (wOf sl wv) (rAt (Rw 7) k) = none := hq.1.symm
        refine lv_astoreN (lv' := [(5, .null), (4, .null), (0, .ref (ad 0)), (1, .int k), (2, .int la), (3, .int ab)]) hx hb dT_quotientOf_47 hl (by decide) rfl (fun ls hl => ?_)
        refine lv_aloadN hx hb dT_quotientOf_49 (lv_at hl 1 rfl) ?_
        refine lv_ifnonnullN hx hb dT_quotientOf_51 ?_
        refine lv_ldc2 (v := (-1)) hx hb hown (ht _ q_442) dT_quotientOf_54 ?_
        exact W.lret hx hb hr (fun t ht9 hW => ⟨_, rfl, by simp only [sT_quotientOf, hwx_1, if_pos c_2, hwx_3], ht9⟩) (fun q h => by cases h) dT_quotientOf_57
      · skip
        have hwx_3 : wAt (wOf sl wv) (rAt (Rw 7) k) = some (wv x_3) := hq.1.symm
        have hxx_3 : x_3 ∈ LW := hq.2 _ rfl
        refine lv_astore (lv' := [(5, .ref x_3), (4, .null), (0, .ref (ad 0)), (1, .int k), (2, .int la), (3, .int ab)]) hx hb dT_quotientOf_47 hl (by decide) rfl (fun ls hl => ?_)
        refine lv_aloadN hx hb dT_quotientOf_49 (lv_at hl 1 rfl) ?_
        refine lv_ifnonnullN hx hb dT_quotientOf_51 ?_
        refine lv_ldc2 (v := (-1)) hx hb hown (ht _ q_442) dT_quotientOf_54 ?_
        exact W.lret hx hb hr (fun t ht9 hW => ⟨_, rfl, by simp only [sT_quotientOf, hwx_1, if_pos c_2, hwx_3], ht9⟩) (fun q h => by cases h) dT_quotientOf_57
    · skip
      refine lv_aload_n hx hb dT_quotientOf_25 rfl (lv_at hl 1 rfl) ?_
      refine va_get (D := g.1) (ci := 4) (v := .ref (ad 3)) (C := "NodeMaker$Tree") (T := Fd_T) (N := 16) hx hb ht i_T hown hK.1 hP 0 rfl rfl 7 (by decide) (ht _ q_112) (fun _ h9 => h9) rfl dT_quotientOf_26 ?_
      refine lv_iload_n hx hb dT_quotientOf_29 rfl (lv_at hl 2 rfl) ?_
      have hPc := hP.sub (ws' := (piW g (ad 3) (fun k => ad (12 + k)) (fun k => q (6 + k)) (fun k => cp (6 + k)) (fun k => f (6 + k)) (fun k => (Rw (6 + k)).length))) [3, 18, 19, 20, 21, 22, 23] rfl
      refine ro_Vi (v := rAt (Rw 8) k) (As := [.int k]) (rest := [.ref (ad 1)]) ⟨hx, hb, hml, hown, ht⟩ (cP_lastAt l g (ad 3) (fun k => ad (12 + k)) (fun k => q (6 + k)) (fun k => cp (6 + k)) (fun k => f (6 + k)) (fun k => Rw (6 + k)) (rows_3 6 (by decide) hz) k) (cwV 1 ht (g_V q_369 q_370 q_371 q_38 q_372) rfl rfl rfl hd_P_lastAt ⟨Nat.le_of_ble_eq_true rfl, Nat.le_of_ble_eq_true rfl⟩) hK (hPc) (va_recv hK.1 hPc (ci := 1) (q0 := 0) rfl rfl) rfl hl.1 rfl (Nat.le_of_ble_eq_true rfl) dT_quotientOf_30 ⟨by show 0 ≤ 0; omega, by show 0 ≤ 0; omega⟩ ?_
      refine lv_goto (tgt := 44) hx hb dT_quotientOf_33 (by decide) ?_
      have hPc := pl_P (cx := wsX g (ad 1) (ad 2) sl cnt) hP [1, 2] rfl
      refine ro_Vq (As := [.int (rAt (Rw 8) k)]) (rest := []) ⟨hx, hb, hml, hown, ht⟩ (cS_at l g (ad 1) (ad 2) sl cnt LW wv hsl (rAt (Rw 8) k)) (cwV 1 ht (g_V q_284 q_248 q_249 q_36 q_250) rfl rfl rfl hd_S_at ⟨Nat.le_of_ble_eq_true rfl, Nat.le_of_ble_eq_true rfl⟩) hK hPc (va_recv hK.1 hPc (ci := 3) (q0 := 0) rfl rfl) rfl hl.1 rfl (Nat.le_of_ble_eq_true rfl) dT_quotientOf_44 ⟨by show 0 ≤ 0; omega, by show 0 ≤ 0; omega⟩ (fun hq => ?_) (fun x_4 hq => ?_)
      · skip
        have hwx_4 : wAt (wOf sl wv) (rAt (Rw 8) k) = none := hq.1.symm
        refine lv_astoreN (lv' := [(5, .null), (4, .null), (0, .ref (ad 0)), (1, .int k), (2, .int la), (3, .int ab)]) hx hb dT_quotientOf_47 hl (by decide) rfl (fun ls hl => ?_)
        refine lv_aloadN hx hb dT_quotientOf_49 (lv_at hl 1 rfl) ?_
        refine lv_ifnonnullN hx hb dT_quotientOf_51 ?_
        refine lv_ldc2 (v := (-1)) hx hb hown (ht _ q_442) dT_quotientOf_54 ?_
        exact W.lret hx hb hr (fun t ht9 hW => ⟨_, rfl, by simp only [sT_quotientOf, hwx_1, if_neg c_2, hwx_4], ht9⟩) (fun q h => by cases h) dT_quotientOf_57
      · skip
        have hwx_4 : wAt (wOf sl wv) (rAt (Rw 8) k) = some (wv x_4) := hq.1.symm
        have hxx_4 : x_4 ∈ LW := hq.2 _ rfl
        refine lv_astore (lv' := [(5, .ref x_4), (4, .null), (0, .ref (ad 0)), (1, .int k), (2, .int la), (3, .int ab)]) hx hb dT_quotientOf_47 hl (by decide) rfl (fun ls hl => ?_)
        refine lv_aloadN hx hb dT_quotientOf_49 (lv_at hl 1 rfl) ?_
        refine lv_ifnonnullN hx hb dT_quotientOf_51 ?_
        refine lv_ldc2 (v := (-1)) hx hb hown (ht _ q_442) dT_quotientOf_54 ?_
        exact W.lret hx hb hr (fun t ht9 hW => ⟨_, rfl, by simp only [sT_quotientOf, hwx_1, if_neg c_2, hwx_4], ht9⟩) (fun q h => by cases h) dT_quotientOf_57
  · skip
    have hwx_1 : wAt (wOf sl wv) (rAt (Rw 6) k) = some (wv x_1) := hq.1.symm
    have hxx_1 : x_1 ∈ LW := hq.2 _ rfl
    refine lv_astore (lv' := [(4, .ref x_1), (0, .ref (ad 0)), (1, .int k), (2, .int la), (3, .int ab)]) hx hb dT_quotientOf_15 hl (by decide) rfl (fun ls hl => ?_)
    refine lv_aload_n hx hb dT_quotientOf_17 rfl (lv_at hl 1 rfl) ?_
    refine va_get (D := g.1) (ci := 4) (v := .ref (ad 1)) (C := "NodeMaker$Tree") (T := Fd_T) (N := 16) hx hb ht i_T hown hK.1 hP 0 rfl rfl 0 (by decide) (ht _ q_105) (fun _ h9 => h9) rfl dT_quotientOf_18 ?_
    refine lv_iload_n hx hb dT_quotientOf_21 rfl (lv_at hl 3 rfl) ?_
    refine lv_if_eq (tgt := 36) hx hb dT_quotientOf_22 (by decide) (fun c_5 => ?_) (fun c_5 => ?_)
    · skip
      refine lv_aload_n hx hb dT_quotientOf_36 rfl (lv_at hl 1 rfl) ?_
      refine va_get (D := g.1) (ci := 4) (v := .ref (ad 3)) (C := "NodeMaker$Tree") (T := Fd_T) (N := 16) hx hb ht i_T hown hK.1 hP 0 rfl rfl 7 (by decide) (ht _ q_112) (fun _ h9 => h9) rfl dT_quotientOf_37 ?_
      refine lv_iload_n hx hb dT_quotientOf_40 rfl (lv_at hl 2 rfl) ?_
      have hPc := hP.sub (ws' := (piW g (ad 3) (fun k => ad (12 + k)) (fun k => q (6 + k)) (fun k => cp (6 + k)) (fun k => f (6 + k)) (fun k => (Rw (6 + k)).length))) [3, 18, 19, 20, 21, 22, 23] rfl
      refine ro_Vi (v := rAt (Rw 7) k) (As := [.int k]) (rest := [.ref (ad 1)]) ⟨hx, hb, hml, hown, ht⟩ (cP_firstAt l g (ad 3) (fun k => ad (12 + k)) (fun k => q (6 + k)) (fun k => cp (6 + k)) (fun k => f (6 + k)) (fun k => Rw (6 + k)) (rows_3 6 (by decide) hz) k) (cwV 1 ht (g_V q_350 q_351 q_352 q_38 q_353) rfl rfl rfl hd_P_firstAt ⟨Nat.le_of_ble_eq_true rfl, Nat.le_of_ble_eq_true rfl⟩) hK (hPc) (va_recv hK.1 hPc (ci := 1) (q0 := 0) rfl rfl) rfl hl.1 rfl (Nat.le_of_ble_eq_true rfl) dT_quotientOf_41 ⟨by show 0 ≤ 0; omega, by show 0 ≤ 0; omega⟩ ?_
      have hPc := pl_P (cx := wsX g (ad 1) (ad 2) sl cnt) hP [1, 2] rfl
      refine ro_Vq (As := [.int (rAt (Rw 7) k)]) (rest := []) ⟨hx, hb, hml, hown, ht⟩ (cS_at l g (ad 1) (ad 2) sl cnt LW wv hsl (rAt (Rw 7) k)) (cwV 1 ht (g_V q_284 q_248 q_249 q_36 q_250) rfl rfl rfl hd_S_at ⟨Nat.le_of_ble_eq_true rfl, Nat.le_of_ble_eq_true rfl⟩) hK hPc (va_recv hK.1 hPc (ci := 3) (q0 := 0) rfl rfl) rfl hl.1 rfl (Nat.le_of_ble_eq_true rfl) dT_quotientOf_44 ⟨by show 0 ≤ 0; omega, by show 0 ≤ 0; omega⟩ (fun hq => ?_) (fun x_6 hq => ?_)
      · skip
        have hwx_6 : wAt (wOf sl wv) (rAt (Rw 7) k) = none := hq.1.symm
        refine lv_astoreN (lv' := [(5, .null), (4, .ref x_1), (0, .ref (ad 0)), (1, .int k), (2, .int la), (3, .int ab)]) hx hb dT_quotientOf_47 hl (by decide) rfl (fun ls hl => ?_)
        refine lv_aload hx hb dT_quotientOf_49 (lv_at hl 1 rfl) ?_
        refine lv_ifnonnull (tgt := 58) hx hb dT_quotientOf_51 (by decide) ?_
        refine lv_aloadN hx hb dT_quotientOf_58 (lv_at hl 0 rfl) ?_
        refine lv_ifnonnullN hx hb dT_quotientOf_60 ?_
        refine lv_iload_n hx hb dT_quotientOf_63 rfl (lv_at hl 5 rfl) ?_
        refine lv_if_eq (tgt := 75) hx hb dT_quotientOf_64 (by decide) (fun c_7 => ?_) (fun c_7 => ?_)
        · skip
          refine lv_lconst (v := 1) hx hb dT_quotientOf_75 (by decide) ?_
          exact W.lret hx hb hr (fun t ht9 hW => ⟨_, rfl, by simp only [sT_quotientOf, hwx_1, if_pos c_5, hwx_6, if_pos c_7], ht9⟩) (fun q h => by cases h) dT_quotientOf_76
        · skip
          refine lv_iload_n hx hb dT_quotientOf_67 rfl (lv_at hl 4 rfl) ?_
          refine lv_if_ne (tgt := 75) hx hb dT_quotientOf_68 (by decide) (fun c_8 => ?_) (fun c_8 => ?_)
          · skip
            exact absurd c_5 c_8
          · skip
            refine lv_lconst (v := 0) hx hb dT_quotientOf_71 (by decide) ?_
            refine lv_goto (tgt := 76) hx hb dT_quotientOf_72 (by decide) ?_
            exact W.lret hx hb hr (fun t ht9 hW => ⟨_, rfl, by simp only [sT_quotientOf, hwx_1, if_pos c_5, hwx_6, if_neg c_7], ht9⟩) (fun q h => by cases h) dT_quotientOf_76
      · skip
        have hwx_6 : wAt (wOf sl wv) (rAt (Rw 7) k) = some (wv x_6) := hq.1.symm
        have hxx_6 : x_6 ∈ LW := hq.2 _ rfl
        refine lv_astore (lv' := [(5, .ref x_6), (4, .ref x_1), (0, .ref (ad 0)), (1, .int k), (2, .int la), (3, .int ab)]) hx hb dT_quotientOf_47 hl (by decide) rfl (fun ls hl => ?_)
        refine lv_aload hx hb dT_quotientOf_49 (lv_at hl 1 rfl) ?_
        refine lv_ifnonnull (tgt := 58) hx hb dT_quotientOf_51 (by decide) ?_
        refine lv_aload hx hb dT_quotientOf_58 (lv_at hl 0 rfl) ?_
        refine lv_ifnonnull (tgt := 77) hx hb dT_quotientOf_60 (by decide) ?_
        refine lv_aload hx hb dT_quotientOf_77 (lv_at hl 0 rfl) ?_
        refine lv_aload hx hb dT_quotientOf_79 (lv_at hl 1 rfl) ?_
        have hPx := pl_one hP hxx_1
        refine va_getN (D := g.1) (ci := 2) (v := .int (wv x_1).1) (C := "NodeMaker$Wall") (T := Fd_W) (N := 4) hx hb ht i_W hown hK.1 hPx 0 rfl rfl 0 (by decide) (va_Nw.use rfl (nw_10 hK.2)) (fun _ h9 => h9) rfl dT_quotientOf_81 ?_
        refine lv_aload hx hb dT_quotientOf_84 (lv_at hl 1 rfl) ?_
        have hPx := pl_one hP hxx_1
        refine va_getN (D := g.1) (ci := 2) (v := .int (wv x_1).2.1) (C := "NodeMaker$Wall") (T := Fd_W) (N := 4) hx hb ht i_W hown hK.1 hPx 0 rfl rfl 1 (by decide) (va_Nw.use rfl (nw_11 hK.2)) (fun _ h9 => h9) rfl dT_quotientOf_86 ?_
        have hPx := pl_one hP hxx_6
        refine ro_Vl (v := sW_side (wv x_6) ((wv x_1).1) ((wv x_1).2.1)) (As := [.int (wv x_1).1, .int (wv x_1).2.1]) (rest := []) ⟨hx, hb, hml, hown, ht⟩ (cW_side l g x_6 (wv x_6) ((wv x_1).1) ((wv x_1).2.1)) (cwV 2 ht (g_V q_358 q_222 q_223 q_40 q_224) rfl rfl rfl hd_W_side ⟨Nat.le_of_ble_eq_true rfl, Nat.le_of_ble_eq_true rfl⟩) hK (hPx) (va_recv hK.1 hPx (ci := 2) (q0 := 0) rfl rfl) rfl hl.1 rfl (Nat.le_of_ble_eq_true rfl) dT_quotientOf_89 ⟨by show 0 ≤ 0; omega, by show 0 ≤ 0; omega⟩ ?_
        refine va_mabs_long hx hb (by rw [hml]; exact hl.1.symm) hown (ht _ q_362) (ht _ q_363) (ht _ q_41) (ht _ q_364) (Nat.le_of_ble_eq_true rfl) (Nat.le_of_ble_eq_true rfl) (by show 0 ≤ 0; omega) (by show 0 ≤ 0; omega) dT_quotientOf_92 ?_
        refine lv_lstore (lv' := [(6, .long (if 0 < (sW_side (wv x_6) ((wv x_1).1) ((wv x_1).2.1)) then (sW_side (wv x_6) ((wv x_1).1) ((wv x_1).2.1)) else -(sW_side (wv x_6) ((wv x_1).1) ((wv x_1).2.1)))), (5, .ref x_6), (4, .ref x_1), (0, .ref (ad 0)), (1, .int k), (2, .int la), (3, .int ab)]) hx hb dT_quotientOf_95 hl (by decide) rfl (fun ls hl => ?_)
        refine lv_lload hx hb dT_quotientOf_97 (lv_at hl 0 rfl) ?_
        refine lv_aload hx hb dT_quotientOf_99 (lv_at hl 1 rfl) ?_
        refine lv_aload hx hb dT_quotientOf_101 (lv_at hl 2 rfl) ?_
        have hPx := pl_one hP hxx_1
        refine va_getN (D := g.1) (ci := 2) (v := .int (wv x_1).2.2.1) (C := "NodeMaker$Wall") (T := Fd_W) (N := 4) hx hb ht i_W hown hK.1 hPx 0 rfl rfl 2 (by decide) (va_Nw.use rfl (nw_12 hK.2)) (fun _ h9 => h9) rfl dT_quotientOf_103 ?_
        refine lv_aload hx hb dT_quotientOf_106 (lv_at hl 2 rfl) ?_
        have hPx := pl_one hP hxx_1
        refine va_getN (D := g.1) (ci := 2) (v := .int (wv x_1).2.2.2) (C := "NodeMaker$Wall") (T := Fd_W) (N := 4) hx hb ht i_W hown hK.1 hPx 0 rfl rfl 3 (by decide) (va_Nw.use rfl (nw_13 hK.2)) (fun _ h9 => h9) rfl dT_quotientOf_108 ?_
        have hPx := pl_one hP hxx_6
        refine ro_Vl (v := sW_side (wv x_6) ((wv x_1).2.2.1) ((wv x_1).2.2.2)) (As := [.int (wv x_1).2.2.1, .int (wv x_1).2.2.2]) (rest := [.long (if 0 < (sW_side (wv x_6) ((wv x_1).1) ((wv x_1).2.1)) then (sW_side (wv x_6) ((wv x_1).1) ((wv x_1).2.1)) else -(sW_side (wv x_6) ((wv x_1).1) ((wv x_1).2.1)))]) ⟨hx, hb, hml, hown, ht⟩ (cW_side l g x_6 (wv x_6) ((wv x_1).2.2.1) ((wv x_1).2.2.2)) (cwV 2 ht (g_V q_358 q_222 q_223 q_40 q_224) rfl rfl rfl hd_W_side ⟨Nat.le_of_ble_eq_true rfl, Nat.le_of_ble_eq_true rfl⟩) hK (hPx) (va_recv hK.1 hPx (ci := 2) (q0 := 0) rfl rfl) rfl hl.1 rfl (Nat.le_of_ble_eq_true rfl) dT_quotientOf_111 ⟨by show 0 ≤ 0; omega, by show 0 ≤ 0; omega⟩ ?_
        refine va_mabs_long hx hb (by rw [hml]; exact hl.1.symm) hown (ht _ q_362) (ht _ q_363) (ht _ q_41) (ht _ q_364) (Nat.le_of_ble_eq_true rfl) (Nat.le_of_ble_eq_true rfl) (by show 0 ≤ 0; omega) (by show 0 ≤ 0; omega) dT_quotientOf_114 ?_
        refine lv_ladd hx hb dT_quotientOf_117 ?_
        refine lv_lstore (lv' := [(8, .long ((if 0 < (sW_side (wv x_6) ((wv x_1).1) ((wv x_1).2.1)) then (sW_side (wv x_6) ((wv x_1).1) ((wv x_1).2.1)) else -(sW_side (wv x_6) ((wv x_1).1) ((wv x_1).2.1))) + (if 0 < (sW_side (wv x_6) ((wv x_1).2.2.1) ((wv x_1).2.2.2)) then (sW_side (wv x_6) ((wv x_1).2.2.1) ((wv x_1).2.2.2)) else -(sW_side (wv x_6) ((wv x_1).2.2.1) ((wv x_1).2.2.2))))), (6, .long (if 0 < (sW_side (wv x_6) ((wv x_1).1) ((wv x_1).2.1)) then (sW_side (wv x_6) ((wv x_1).1) ((wv x_1).2.1)) else -(sW_side (wv x_6) ((wv x_1).1) ((wv x_1).2.1)))), (5, .ref x_6), (4, .ref x_1), (0, .ref (ad 0)), (1, .int k), (2, .int la), (3, .int ab)]) hx hb dT_quotientOf_118 hl (by decide) rfl (fun ls hl => ?_)
        refine lv_lload hx hb dT_quotientOf_120 (lv_at hl 0 rfl) ?_
        refine lv_lload hx hb dT_quotientOf_122 (lv_at hl 1 rfl) ?_
        refine ro_Sl (v := sT_commonDivisor ((if 0 < (sW_side (wv x_6) ((wv x_1).1) ((wv x_1).2.1)) then (sW_side (wv x_6) ((wv x_1).1) ((wv x_1).2.1)) else -(sW_side (wv x_6) ((wv x_1).1) ((wv x_1).2.1))) + (if 0 < (sW_side (wv x_6) ((wv x_1).2.2.1) ((wv x_1).2.2.2)) then (sW_side (wv x_6) ((wv x_1).2.2.1) ((wv x_1).2.2.2)) else -(sW_side (wv x_6) ((wv x_1).2.2.1) ((wv x_1).2.2.2)))) (if 0 < (sW_side (wv x_6) ((wv x_1).1) ((wv x_1).2.1)) then (sW_side (wv x_6) ((wv x_1).1) ((wv x_1).2.1)) else -(sW_side (wv x_6) ((wv x_1).1) ((wv x_1).2.1)))) (As := [.long ((if 0 < (sW_side (wv x_6) ((wv x_1).1) ((wv x_1).2.1)) then (sW_side (wv x_6) ((wv x_1).1) ((wv x_1).2.1)) else -(sW_side (wv x_6) ((wv x_1).1) ((wv x_1).2.1))) + (if 0 < (sW_side (wv x_6) ((wv x_1).2.2.1) ((wv x_1).2.2.2)) then (sW_side (wv x_6) ((wv x_1).2.2.1) ((wv x_1).2.2.2)) else -(sW_side (wv x_6) ((wv x_1).2.2.1) ((wv x_1).2.2.2)))), .long (if 0 < (sW_side (wv x_6) ((wv x_1).1) ((wv x_1).2.1)) then (sW_side (wv x_6) ((wv x_1).1) ((wv x_1).2.1)) else -(sW_side (wv x_6) ((wv x_1).1) ((wv x_1).2.1)))]) (rest := []) ⟨hx, hb, hml, hown, ht⟩ (cT_commonDivisor l g ((if 0 < (sW_side (wv x_6) ((wv x_1).1) ((wv x_1).2.1)) then (sW_side (wv x_6) ((wv x_1).1) ((wv x_1).2.1)) else -(sW_side (wv x_6) ((wv x_1).1) ((wv x_1).2.1))) + (if 0 < (sW_side (wv x_6) ((wv x_1).2.2.1) ((wv x_1).2.2.2)) then (sW_side (wv x_6) ((wv x_1).2.2.1) ((wv x_1).2.2.2)) else -(sW_side (wv x_6) ((wv x_1).2.2.1) ((wv x_1).2.2.2)))) (if 0 < (sW_side (wv x_6) ((wv x_1).1) ((wv x_1).2.1)) then (sW_side (wv x_6) ((wv x_1).1) ((wv x_1).2.1)) else -(sW_side (wv x_6) ((wv x_1).1) ((wv x_1).2.1)))) (cwS 2 ht (g_S q_443 q_444 q_35 q_445) rfl rfl rfl hd_T_commonDivisor ⟨Nat.le_of_ble_eq_true rfl, Nat.le_of_ble_eq_true rfl⟩) hK (trivial) rfl hl.1 rfl (Nat.le_of_ble_eq_true rfl) dT_quotientOf_124 ⟨by show 0 ≤ 0; omega, by show 0 ≤ 0; omega⟩ ?_
        refine lv_lstore (lv' := [(10, .long (sT_commonDivisor ((if 0 < (sW_side (wv x_6) ((wv x_1).1) ((wv x_1).2.1)) then (sW_side (wv x_6) ((wv x_1).1) ((wv x_1).2.1)) else -(sW_side (wv x_6) ((wv x_1).1) ((wv x_1).2.1))) + (if 0 < (sW_side (wv x_6) ((wv x_1).2.2.1) ((wv x_1).2.2.2)) then (sW_side (wv x_6) ((wv x_1).2.2.1) ((wv x_1).2.2.2)) else -(sW_side (wv x_6) ((wv x_1).2.2.1) ((wv x_1).2.2.2)))) (if 0 < (sW_side (wv x_6) ((wv x_1).1) ((wv x_1).2.1)) then (sW_side (wv x_6) ((wv x_1).1) ((wv x_1).2.1)) else -(sW_side (wv x_6) ((wv x_1).1) ((wv x_1).2.1))))), (8, .long ((if 0 < (sW_side (wv x_6) ((wv x_1).1) ((wv x_1).2.1)) then (sW_side (wv x_6) ((wv x_1).1) ((wv x_1).2.1)) else -(sW_side (wv x_6) ((wv x_1).1) ((wv x_1).2.1))) + (if 0 < (sW_side (wv x_6) ((wv x_1).2.2.1) ((wv x_1).2.2.2)) then (sW_side (wv x_6) ((wv x_1).2.2.1) ((wv x_1).2.2.2)) else -(sW_side (wv x_6) ((wv x_1).2.2.1) ((wv x_1).2.2.2))))), (6, .long (if 0 < (sW_side (wv x_6) ((wv x_1).1) ((wv x_1).2.1)) then (sW_side (wv x_6) ((wv x_1).1) ((wv x_1).2.1)) else -(sW_side (wv x_6) ((wv x_1).1) ((wv x_1).2.1)))), (5, .ref x_6), (4, .ref x_1), (0, .ref (ad 0)), (1, .int k), (2, .int la), (3, .int ab)]) hx hb dT_quotientOf_127 hl (by decide) rfl (fun ls hl => ?_)
        refine lv_lload hx hb dT_quotientOf_129 (lv_at hl 0 rfl) ?_
        refine lv_lconst (v := 0) hx hb dT_quotientOf_131 (by decide) ?_
        refine W.lcmp hx hb dT_quotientOf_132 ?_
        refine lv_if_ne (tgt := 140) hx hb dT_quotientOf_133 (by decide) (fun c_9 => ?_) (fun c_9 => ?_)
        · skip
          rw [lg_cmp_eq] at c_9
          refine lv_iload_n hx hb dT_quotientOf_140 rfl (lv_at hl 8 rfl) ?_
          refine lv_if_eq (tgt := 149) hx hb dT_quotientOf_141 (by decide) (fun c_10 => ?_) (fun c_10 => ?_)
          · skip
            refine lv_lload hx hb dT_quotientOf_149 (lv_at hl 1 rfl) ?_
            refine lv_lload hx hb dT_quotientOf_151 (lv_at hl 0 rfl) ?_
            refine lv_ldiv hx hb dT_quotientOf_153 (c_9) ?_
            exact W.lret hx hb hr (fun t ht9 hW => ⟨_, rfl, by simp only [sT_quotientOf, hwx_1, if_pos c_5, hwx_6, if_neg c_9, if_pos c_10], ht9⟩) (fun q h => by cases h) dT_quotientOf_154
          · skip
            refine lv_lload hx hb dT_quotientOf_144 (lv_at hl 2 rfl) ?_
            refine lv_goto (tgt := 151) hx hb dT_quotientOf_146 (by decide) ?_
            refine lv_lload hx hb dT_quotientOf_151 (lv_at hl 0 rfl) ?_
            refine lv_ldiv hx hb dT_quotientOf_153 (c_9) ?_
            exact W.lret hx hb hr (fun t ht9 hW => ⟨_, rfl, by simp only [sT_quotientOf, hwx_1, if_pos c_5, hwx_6, if_neg c_9, if_neg c_10], ht9⟩) (fun q h => by cases h) dT_quotientOf_154
        · skip
          rw [lg_cmp_eq] at c_9
          refine lv_ldc2 (v := (-1)) hx hb hown (ht _ q_442) dT_quotientOf_136 ?_
          exact W.lret hx hb hr (fun t ht9 hW => ⟨_, rfl, by simp only [sT_quotientOf, hwx_1, if_pos c_5, hwx_6, if_pos c_9], ht9⟩) (fun q h => by cases h) dT_quotientOf_139
    · skip
      refine lv_aload_n hx hb dT_quotientOf_25 rfl (lv_at hl 1 rfl) ?_
      refine va_get (D := g.1) (ci := 4) (v := .ref (ad 3)) (C := "NodeMaker$Tree") (T := Fd_T) (N := 16) hx hb ht i_T hown hK.1 hP 0 rfl rfl 7 (by decide) (ht _ q_112) (fun _ h9 => h9) rfl dT_quotientOf_26 ?_
      refine lv_iload_n hx hb dT_quotientOf_29 rfl (lv_at hl 2 rfl) ?_
      have hPc := hP.sub (ws' := (piW g (ad 3) (fun k => ad (12 + k)) (fun k => q (6 + k)) (fun k => cp (6 + k)) (fun k => f (6 + k)) (fun k => (Rw (6 + k)).length))) [3, 18, 19, 20, 21, 22, 23] rfl
      refine ro_Vi (v := rAt (Rw 8) k) (As := [.int k]) (rest := [.ref (ad 1)]) ⟨hx, hb, hml, hown, ht⟩ (cP_lastAt l g (ad 3) (fun k => ad (12 + k)) (fun k => q (6 + k)) (fun k => cp (6 + k)) (fun k => f (6 + k)) (fun k => Rw (6 + k)) (rows_3 6 (by decide) hz) k) (cwV 1 ht (g_V q_369 q_370 q_371 q_38 q_372) rfl rfl rfl hd_P_lastAt ⟨Nat.le_of_ble_eq_true rfl, Nat.le_of_ble_eq_true rfl⟩) hK (hPc) (va_recv hK.1 hPc (ci := 1) (q0 := 0) rfl rfl) rfl hl.1 rfl (Nat.le_of_ble_eq_true rfl) dT_quotientOf_30 ⟨by show 0 ≤ 0; omega, by show 0 ≤ 0; omega⟩ ?_
      refine lv_goto (tgt := 44) hx hb dT_quotientOf_33 (by decide) ?_
      have hPc := pl_P (cx := wsX g (ad 1) (ad 2) sl cnt) hP [1, 2] rfl
      refine ro_Vq (As := [.int (rAt (Rw 8) k)]) (rest := []) ⟨hx, hb, hml, hown, ht⟩ (cS_at l g (ad 1) (ad 2) sl cnt LW wv hsl (rAt (Rw 8) k)) (cwV 1 ht (g_V q_284 q_248 q_249 q_36 q_250) rfl rfl rfl hd_S_at ⟨Nat.le_of_ble_eq_true rfl, Nat.le_of_ble_eq_true rfl⟩) hK hPc (va_recv hK.1 hPc (ci := 3) (q0 := 0) rfl rfl) rfl hl.1 rfl (Nat.le_of_ble_eq_true rfl) dT_quotientOf_44 ⟨by show 0 ≤ 0; omega, by show 0 ≤ 0; omega⟩ (fun hq => ?_) (fun x_11 hq => ?_)
      · skip
        have hwx_11 : wAt (wOf sl wv) (rAt (Rw 8) k) = none := hq.1.symm
        refine lv_astoreN (lv' := [(5, .null), (4, .ref x_1), (0, .ref (ad 0)), (1, .int k), (2, .int la), (3, .int ab)]) hx hb dT_quotientOf_47 hl (by decide) rfl (fun ls hl => ?_)
        refine lv_aload hx hb dT_quotientOf_49 (lv_at hl 1 rfl) ?_
        refine lv_ifnonnull (tgt := 58) hx hb dT_quotientOf_51 (by decide) ?_
        refine lv_aloadN hx hb dT_quotientOf_58 (lv_at hl 0 rfl) ?_
        refine lv_ifnonnullN hx hb dT_quotientOf_60 ?_
        refine lv_iload_n hx hb dT_quotientOf_63 rfl (lv_at hl 5 rfl) ?_
        refine lv_if_eq (tgt := 75) hx hb dT_quotientOf_64 (by decide) (fun c_12 => ?_) (fun c_12 => ?_)
        · skip
          refine lv_lconst (v := 1) hx hb dT_quotientOf_75 (by decide) ?_
          exact W.lret hx hb hr (fun t ht9 hW => ⟨_, rfl, by simp only [sT_quotientOf, hwx_1, if_neg c_5, hwx_11, if_pos c_12], ht9⟩) (fun q h => by cases h) dT_quotientOf_76
        · skip
          refine lv_iload_n hx hb dT_quotientOf_67 rfl (lv_at hl 4 rfl) ?_
          refine lv_if_ne (tgt := 75) hx hb dT_quotientOf_68 (by decide) (fun c_13 => ?_) (fun c_13 => ?_)
          · skip
            refine lv_lconst (v := 1) hx hb dT_quotientOf_75 (by decide) ?_
            exact W.lret hx hb hr (fun t ht9 hW => ⟨_, rfl, by simp only [sT_quotientOf, hwx_1, if_neg c_5, hwx_11, if_neg c_12], ht9⟩) (fun q h => by cases h) dT_quotientOf_76
          · skip
            exact absurd c_13 c_5
      · skip
        have hwx_11 : wAt (wOf sl wv) (rAt (Rw 8) k) = some (wv x_11) := hq.1.symm
        have hxx_11 : x_11 ∈ LW := hq.2 _ rfl
        refine lv_astore (lv' := [(5, .ref x_11), (4, .ref x_1), (0, .ref (ad 0)), (1, .int k), (2, .int la), (3, .int ab)]) hx hb dT_quotientOf_47 hl (by decide) rfl (fun ls hl => ?_)
        refine lv_aload hx hb dT_quotientOf_49 (lv_at hl 1 rfl) ?_
        refine lv_ifnonnull (tgt := 58) hx hb dT_quotientOf_51 (by decide) ?_
        refine lv_aload hx hb dT_quotientOf_58 (lv_at hl 0 rfl) ?_
        refine lv_ifnonnull (tgt := 77) hx hb dT_quotientOf_60 (by decide) ?_
        refine lv_aload hx hb dT_quotientOf_77 (lv_at hl 0 rfl) ?_
        refine lv_aload hx hb dT_quotientOf_79 (lv_at hl 1 rfl) ?_
        have hPx := pl_one hP hxx_1
        refine va_getN (D := g.1) (ci := 2) (v := .int (wv x_1).1) (C := "NodeMaker$Wall") (T := Fd_W) (N := 4) hx hb ht i_W hown hK.1 hPx 0 rfl rfl 0 (by decide) (va_Nw.use rfl (nw_10 hK.2)) (fun _ h9 => h9) rfl dT_quotientOf_81 ?_
        refine lv_aload hx hb dT_quotientOf_84 (lv_at hl 1 rfl) ?_
        have hPx := pl_one hP hxx_1
        refine va_getN (D := g.1) (ci := 2) (v := .int (wv x_1).2.1) (C := "NodeMaker$Wall") (T := Fd_W) (N := 4) hx hb ht i_W hown hK.1 hPx 0 rfl rfl 1 (by decide) (va_Nw.use rfl (nw_11 hK.2)) (fun _ h9 => h9) rfl dT_quotientOf_86 ?_
        have hPx := pl_one hP hxx_11
        refine ro_Vl (v := sW_side (wv x_11) ((wv x_1).1) ((wv x_1).2.1)) (As := [.int (wv x_1).1, .int (wv x_1).2.1]) (rest := []) ⟨hx, hb, hml, hown, ht⟩ (cW_side l g x_11 (wv x_11) ((wv x_1).1) ((wv x_1).2.1)) (cwV 2 ht (g_V q_358 q_222 q_223 q_40 q_224) rfl rfl rfl hd_W_side ⟨Nat.le_of_ble_eq_true rfl, Nat.le_of_ble_eq_true rfl⟩) hK (hPx) (va_recv hK.1 hPx (ci := 2) (q0 := 0) rfl rfl) rfl hl.1 rfl (Nat.le_of_ble_eq_true rfl) dT_quotientOf_89 ⟨by show 0 ≤ 0; omega, by show 0 ≤ 0; omega⟩ ?_
        refine va_mabs_long hx hb (by rw [hml]; exact hl.1.symm) hown (ht _ q_362) (ht _ q_363) (ht _ q_41) (ht _ q_364) (Nat.le_of_ble_eq_true rfl) (Nat.le_of_ble_eq_true rfl) (by show 0 ≤ 0; omega) (by show 0 ≤ 0; omega) dT_quotientOf_92 ?_
        refine lv_lstore (lv' := [(6, .long (if 0 < (sW_side (wv x_11) ((wv x_1).1) ((wv x_1).2.1)) then (sW_side (wv x_11) ((wv x_1).1) ((wv x_1).2.1)) else -(sW_side (wv x_11) ((wv x_1).1) ((wv x_1).2.1)))), (5, .ref x_11), (4, .ref x_1), (0, .ref (ad 0)), (1, .int k), (2, .int la), (3, .int ab)]) hx hb dT_quotientOf_95 hl (by decide) rfl (fun ls hl => ?_)
        refine lv_lload hx hb dT_quotientOf_97 (lv_at hl 0 rfl) ?_
        refine lv_aload hx hb dT_quotientOf_99 (lv_at hl 1 rfl) ?_
        refine lv_aload hx hb dT_quotientOf_101 (lv_at hl 2 rfl) ?_
        have hPx := pl_one hP hxx_1
        refine va_getN (D := g.1) (ci := 2) (v := .int (wv x_1).2.2.1) (C := "NodeMaker$Wall") (T := Fd_W) (N := 4) hx hb ht i_W hown hK.1 hPx 0 rfl rfl 2 (by decide) (va_Nw.use rfl (nw_12 hK.2)) (fun _ h9 => h9) rfl dT_quotientOf_103 ?_
        refine lv_aload hx hb dT_quotientOf_106 (lv_at hl 2 rfl) ?_
        have hPx := pl_one hP hxx_1
        refine va_getN (D := g.1) (ci := 2) (v := .int (wv x_1).2.2.2) (C := "NodeMaker$Wall") (T := Fd_W) (N := 4) hx hb ht i_W hown hK.1 hPx 0 rfl rfl 3 (by decide) (va_Nw.use rfl (nw_13 hK.2)) (fun _ h9 => h9) rfl dT_quotientOf_108 ?_
        have hPx := pl_one hP hxx_11
        refine ro_Vl (v := sW_side (wv x_11) ((wv x_1).2.2.1) ((wv x_1).2.2.2)) (As := [.int (wv x_1).2.2.1, .int (wv x_1).2.2.2]) (rest := [.long (if 0 < (sW_side (wv x_11) ((wv x_1).1) ((wv x_1).2.1)) then (sW_side (wv x_11) ((wv x_1).1) ((wv x_1).2.1)) else -(sW_side (wv x_11) ((wv x_1).1) ((wv x_1).2.1)))]) ⟨hx, hb, hml, hown, ht⟩ (cW_side l g x_11 (wv x_11) ((wv x_1).2.2.1) ((wv x_1).2.2.2)) (cwV 2 ht (g_V q_358 q_222 q_223 q_40 q_224) rfl rfl rfl hd_W_side ⟨Nat.le_of_ble_eq_true rfl, Nat.le_of_ble_eq_true rfl⟩) hK (hPx) (va_recv hK.1 hPx (ci := 2) (q0 := 0) rfl rfl) rfl hl.1 rfl (Nat.le_of_ble_eq_true rfl) dT_quotientOf_111 ⟨by show 0 ≤ 0; omega, by show 0 ≤ 0; omega⟩ ?_
        refine va_mabs_long hx hb (by rw [hml]; exact hl.1.symm) hown (ht _ q_362) (ht _ q_363) (ht _ q_41) (ht _ q_364) (Nat.le_of_ble_eq_true rfl) (Nat.le_of_ble_eq_true rfl) (by show 0 ≤ 0; omega) (by show 0 ≤ 0; omega) dT_quotientOf_114 ?_
        refine lv_ladd hx hb dT_quotientOf_117 ?_
        refine lv_lstore (lv' := [(8, .long ((if 0 < (sW_side (wv x_11) ((wv x_1).1) ((wv x_1).2.1)) then (sW_side (wv x_11) ((wv x_1).1) ((wv x_1).2.1)) else -(sW_side (wv x_11) ((wv x_1).1) ((wv x_1).2.1))) + (if 0 < (sW_side (wv x_11) ((wv x_1).2.2.1) ((wv x_1).2.2.2)) then (sW_side (wv x_11) ((wv x_1).2.2.1) ((wv x_1).2.2.2)) else -(sW_side (wv x_11) ((wv x_1).2.2.1) ((wv x_1).2.2.2))))), (6, .long (if 0 < (sW_side (wv x_11) ((wv x_1).1) ((wv x_1).2.1)) then (sW_side (wv x_11) ((wv x_1).1) ((wv x_1).2.1)) else -(sW_side (wv x_11) ((wv x_1).1) ((wv x_1).2.1)))), (5, .ref x_11), (4, .ref x_1), (0, .ref (ad 0)), (1, .int k), (2, .int la), (3, .int ab)]) hx hb dT_quotientOf_118 hl (by decide) rfl (fun ls hl => ?_)
        refine lv_lload hx hb dT_quotientOf_120 (lv_at hl 0 rfl) ?_
        refine lv_lload hx hb dT_quotientOf_122 (lv_at hl 1 rfl) ?_
        refine ro_Sl (v := sT_commonDivisor ((if 0 < (sW_side (wv x_11) ((wv x_1).1) ((wv x_1).2.1)) then (sW_side (wv x_11) ((wv x_1).1) ((wv x_1).2.1)) else -(sW_side (wv x_11) ((wv x_1).1) ((wv x_1).2.1))) + (if 0 < (sW_side (wv x_11) ((wv x_1).2.2.1) ((wv x_1).2.2.2)) then (sW_side (wv x_11) ((wv x_1).2.2.1) ((wv x_1).2.2.2)) else -(sW_side (wv x_11) ((wv x_1).2.2.1) ((wv x_1).2.2.2)))) (if 0 < (sW_side (wv x_11) ((wv x_1).1) ((wv x_1).2.1)) then (sW_side (wv x_11) ((wv x_1).1) ((wv x_1).2.1)) else -(sW_side (wv x_11) ((wv x_1).1) ((wv x_1).2.1)))) (As := [.long ((if 0 < (sW_side (wv x_11) ((wv x_1).1) ((wv x_1).2.1)) then (sW_side (wv x_11) ((wv x_1).1) ((wv x_1).2.1)) else -(sW_side (wv x_11) ((wv x_1).1) ((wv x_1).2.1))) + (if 0 < (sW_side (wv x_11) ((wv x_1).2.2.1) ((wv x_1).2.2.2)) then (sW_side (wv x_11) ((wv x_1).2.2.1) ((wv x_1).2.2.2)) else -(sW_side (wv x_11) ((wv x_1).2.2.1) ((wv x_1).2.2.2)))), .long (if 0 < (sW_side (wv x_11) ((wv x_1).1) ((wv x_1).2.1)) then (sW_side (wv x_11) ((wv x_1).1) ((wv x_1).2.1)) else -(sW_side (wv x_11) ((wv x_1).1) ((wv x_1).2.1)))]) (rest := []) ⟨hx, hb, hml, hown, ht⟩ (cT_commonDivisor l g ((if 0 < (sW_side (wv x_11) ((wv x_1).1) ((wv x_1).2.1)) then (sW_side (wv x_11) ((wv x_1).1) ((wv x_1).2.1)) else -(sW_side (wv x_11) ((wv x_1).1) ((wv x_1).2.1))) + (if 0 < (sW_side (wv x_11) ((wv x_1).2.2.1) ((wv x_1).2.2.2)) then (sW_side (wv x_11) ((wv x_1).2.2.1) ((wv x_1).2.2.2)) else -(sW_side (wv x_11) ((wv x_1).2.2.1) ((wv x_1).2.2.2)))) (if 0 < (sW_side (wv x_11) ((wv x_1).1) ((wv x_1).2.1)) then (sW_side (wv x_11) ((wv x_1).1) ((wv x_1).2.1)) else -(sW_side (wv x_11) ((wv x_1).1) ((wv x_1).2.1)))) (cwS 2 ht (g_S q_443 q_444 q_35 q_445) rfl rfl rfl hd_T_commonDivisor ⟨Nat.le_of_ble_eq_true rfl, Nat.le_of_ble_eq_true rfl⟩) hK (trivial) rfl hl.1 rfl (Nat.le_of_ble_eq_true rfl) dT_quotientOf_124 ⟨by show 0 ≤ 0; omega, by show 0 ≤ 0; omega⟩ ?_
        refine lv_lstore (lv' := [(10, .long (sT_commonDivisor ((if 0 < (sW_side (wv x_11) ((wv x_1).1) ((wv x_1).2.1)) then (sW_side (wv x_11) ((wv x_1).1) ((wv x_1).2.1)) else -(sW_side (wv x_11) ((wv x_1).1) ((wv x_1).2.1))) + (if 0 < (sW_side (wv x_11) ((wv x_1).2.2.1) ((wv x_1).2.2.2)) then (sW_side (wv x_11) ((wv x_1).2.2.1) ((wv x_1).2.2.2)) else -(sW_side (wv x_11) ((wv x_1).2.2.1) ((wv x_1).2.2.2)))) (if 0 < (sW_side (wv x_11) ((wv x_1).1) ((wv x_1).2.1)) then (sW_side (wv x_11) ((wv x_1).1) ((wv x_1).2.1)) else -(sW_side (wv x_11) ((wv x_1).1) ((wv x_1).2.1))))), (8, .long ((if 0 < (sW_side (wv x_11) ((wv x_1).1) ((wv x_1).2.1)) then (sW_side (wv x_11) ((wv x_1).1) ((wv x_1).2.1)) else -(sW_side (wv x_11) ((wv x_1).1) ((wv x_1).2.1))) + (if 0 < (sW_side (wv x_11) ((wv x_1).2.2.1) ((wv x_1).2.2.2)) then (sW_side (wv x_11) ((wv x_1).2.2.1) ((wv x_1).2.2.2)) else -(sW_side (wv x_11) ((wv x_1).2.2.1) ((wv x_1).2.2.2))))), (6, .long (if 0 < (sW_side (wv x_11) ((wv x_1).1) ((wv x_1).2.1)) then (sW_side (wv x_11) ((wv x_1).1) ((wv x_1).2.1)) else -(sW_side (wv x_11) ((wv x_1).1) ((wv x_1).2.1)))), (5, .ref x_11), (4, .ref x_1), (0, .ref (ad 0)), (1, .int k), (2, .int la), (3, .int ab)]) hx hb dT_quotientOf_127 hl (by decide) rfl (fun ls hl => ?_)
        refine lv_lload hx hb dT_quotientOf_129 (lv_at hl 0 rfl) ?_
        refine lv_lconst (v := 0) hx hb dT_quotientOf_131 (by decide) ?_
        refine W.lcmp hx hb dT_quotientOf_132 ?_
        refine lv_if_ne (tgt := 140) hx hb dT_quotientOf_133 (by decide) (fun c_14 => ?_) (fun c_14 => ?_)
        · skip
          rw [lg_cmp_eq] at c_14
          refine lv_iload_n hx hb dT_quotientOf_140 rfl (lv_at hl 8 rfl) ?_
          refine lv_if_eq (tgt := 149) hx hb dT_quotientOf_141 (by decide) (fun c_15 => ?_) (fun c_15 => ?_)
          · skip
            refine lv_lload hx hb dT_quotientOf_149 (lv_at hl 1 rfl) ?_
            refine lv_lload hx hb dT_quotientOf_151 (lv_at hl 0 rfl) ?_
            refine lv_ldiv hx hb dT_quotientOf_153 (c_14) ?_
            exact W.lret hx hb hr (fun t ht9 hW => ⟨_, rfl, by simp only [sT_quotientOf, hwx_1, if_neg c_5, hwx_11, if_neg c_14, if_pos c_15], ht9⟩) (fun q h => by cases h) dT_quotientOf_154
          · skip
            refine lv_lload hx hb dT_quotientOf_144 (lv_at hl 2 rfl) ?_
            refine lv_goto (tgt := 151) hx hb dT_quotientOf_146 (by decide) ?_
            refine lv_lload hx hb dT_quotientOf_151 (lv_at hl 0 rfl) ?_
            refine lv_ldiv hx hb dT_quotientOf_153 (c_14) ?_
            exact W.lret hx hb hr (fun t ht9 hW => ⟨_, rfl, by simp only [sT_quotientOf, hwx_1, if_neg c_5, hwx_11, if_neg c_14, if_neg c_15], ht9⟩) (fun q h => by cases h) dT_quotientOf_154
        · skip
          rw [lg_cmp_eq] at c_14
          refine lv_ldc2 (v := (-1)) hx hb hown (ht _ q_442) dT_quotientOf_136 ?_
          exact W.lret hx hb hr (fun t ht9 hW => ⟨_, rfl, by simp only [sT_quotientOf, hwx_1, if_neg c_5, hwx_11, if_pos c_14], ht9⟩) (fun q h => by cases h) dT_quotientOf_139
/-- the near side's node, the far side's -/
def sNear (Rw : Nat → List Int32) (Wl : Nat → Option WV) (x y k : Int32) : Int32 := if sT_liesLeft Rw Wl k x y = 0 then rAt (Rw 2) k else rAt (Rw 1) k
def sFar (Rw : Nat → List Int32) (Wl : Nat → Option WV) (x y k : Int32) : Int32 := if sT_liesLeft Rw Wl k x y = 0 then rAt (Rw 1) k else rAt (Rw 2) k
def sWayL (Rw : Nat → List Int32) (Wl : Nat → Option WV) (x y : Int32) : Nat → Int32 → Int32 → Int32
  | 0, _, _ => -1
  | n + 1, r, k => if sT_hasNode Rw Wl k = 0 then -1 else if sT_piecesIn Rw Wl (sNear Rw Wl x y k) ≤ r then (if sT_ownPieces Rw Wl k ≤ r - sT_piecesIn Rw Wl (sNear Rw Wl x y k) then sWayL Rw Wl x y n (r - sT_piecesIn Rw Wl (sNear Rw Wl x y k) - sT_ownPieces Rw Wl k) (sFar Rw Wl x y k) else sT_firstPieceFrom Rw Wl k + (r - sT_piecesIn Rw Wl (sNear Rw Wl x y k))) else sWayL Rw Wl x y n r (sNear Rw Wl x y k)
def sT_pieceOnWay (Rw : Nat → List Int32) (Wl : Nat → Option WV) (x y i : Int32) : Int32 := if 0 ≤ i then sWayL Rw Wl x y 64 i 0 else -1
set_option maxHeartbeats 4000000 in
set_option maxRecDepth 100000 in
theorem cT_pieceOnWay (l : Launch) (g : CX) (ad q cp : Nat → Nat) (f : Nat → Nat → Int32) (Rw : Nat → List Int32) (sl : Nat → Option Nat) (cnt h st : Int32) (LW : List Nat) (wv : Nat → WV) (hz : rowsT cp f Rw) (hsl : slOK sl LW) (x : Int32) (y : Int32) (i : Int32) : Met l yT_pieceOnWay (wm yT_pieceOnWay kT_pieceOnWay 10 (some .int)) ({ frames := 4, cells := 0, slots := 0, locals := 83 }) (ro g [.ref (ad 0), .int x, .int y, .int i] (va_P g.1 vwCl (TW g ad q cp f Rw sl cnt h st LW wv))) (vp_Si (fun r => r = sT_pieceOnWay Rw (wOf sl wv) x y i)) 0 0 (fun _ => False) := by
  refine Met.ofW (cc := kT_pieceOnWay) (maxL := 10) (ret := (some .int)) (by decide) rfl ?_
  intro p e s m args below meth c s₁ B hml hv
  obtain ⟨rfl, hK, hP⟩ := hv
  have hx := B.exec
  have hb := B.bytes
  have hr := B.returns
  have ht : ∀ w ∈ wT, w.before _ s = true := fun w h => atoms_spec (ws := wm yT_pieceOnWay kT_pieceOnWay 10 (some .int)) B.pre w (List.mem_cons_of_mem _ h)
  have hown : s.vm.findClass "NodeMaker$Tree" = some m.cls := findClass_of_methodNamed B.named
  have hlocks := B.notSynchronized
  have hl := lv_entry ([.ref (ad 0), .int x, .int y, .int i]) (n := 10) (Nat.le_of_ble_eq_true rfl)
  rw [lg_entry_eq]
  generalize (lg_sl ([.ref (ad 0), .int x, .int y, .int i]) ++ List.replicate (10 - (lg_sl ([.ref (ad 0), .int x, .int y, .int i])).length) Slot.unset).toArray = ls at hl ⊢
  have hl : lv_has ls 10 [(0, .ref (ad 0)), (1, .int x), (2, .int y), (3, .int i)] := hl
  refine lv_iload_n hx hb dT_pieceOnWay_0 rfl (lv_at hl 3 rfl) ?_
  refine lv_if_ge (tgt := 6) hx hb dT_pieceOnWay_1 (by decide) (fun c_16 => ?_) (fun c_16 => ?_)
  · skip
    refine lv_iload_n hx hb dT_pieceOnWay_6 rfl (lv_at hl 3 rfl) ?_
    refine lv_istore (lv' := [(4, .int i), (0, .ref (ad 0)), (1, .int x), (2, .int y), (3, .int i)]) hx hb dT_pieceOnWay_7 hl (by decide) rfl (fun ls hl => ?_)
    refine lv_iconst (v := 0) hx hb dT_pieceOnWay_9 (by decide) ?_
    refine lv_istore (lv' := [(5, .int 0), (4, .int i), (0, .ref (ad 0)), (1, .int x), (2, .int y), (3, .int i)]) hx hb dT_pieceOnWay_10 hl (by decide) rfl (fun ls hl => ?_)
    refine lv_iconst (v := 0) hx hb dT_pieceOnWay_12 (by decide) ?_
    refine lv_istore (lv' := [(6, .int 0), (5, .int 0), (4, .int i), (0, .ref (ad 0)), (1, .int x), (2, .int y), (3, .int i)]) hx hb dT_pieceOnWay_13 hl (by decide) rfl (fun ls hl => ?_)
    have loop15 : ∀ (n : Nat) (j : Nat) (r k d : Int32) (ls : Array Slot), j + n = 64 → d = nI j → sWayL Rw (wOf sl wv) x y n r k = sT_pieceOnWay Rw (wOf sl wv) x y i → lv_has ls 10 [(6, .int d), (5, .int k), (4, .int r), (0, .ref (ad 0)), (1, .int x), (2, .int y)] → W p l e (headSpec (wm yT_pieceOnWay kT_pieceOnWay 10 (some .int)) ({ frames := 4, cells := 0, slots := 0, locals := 83 })).room s m ([.ref (ad 0), .int x, .int y, .int i] : List Value).toArray below meth c s.heap [] (0) (0) (MQ below (vp_Si (fun r => r = sT_pieceOnWay Rw (wOf sl wv) x y i)) ([.ref (ad 0), .int x, .int y, .int i] : List Value).toArray s 0 0 (fun _ => False)) (F0 m 15 ls []) := by
      intro n
      induction n with
      | zero =>
        intro j r k d ls hk hi hR hl
        refine lv_iload hx hb dT_pieceOnWay_15 (lv_at hl 0 rfl) ?_
        refine lv_bipush (v := 64) hx hb dT_pieceOnWay_17 (by decide) ?_
        refine lv_icmp_ge (tgt := 164) hx hb dT_pieceOnWay_19 (by decide) (fun c_17 => ?_) (fun c_17 => ?_)
        · skip
          refine lv_iconst (v := -1) hx hb dT_pieceOnWay_164 (by decide) ?_
          exact W.iret hx hb hr (fun t ht9 hW => ⟨_, rfl, hR, ht9⟩) (fun q h => by cases h) dT_pieceOnWay_165
        · skip
          exact absurd (by rw [hi]; exact nI_le (a := 64) (by omega) (by omega)) c_17
      | succ n ih =>
        intro j r k d ls hk hi hR hl
        refine lv_iload hx hb dT_pieceOnWay_15 (lv_at hl 0 rfl) ?_
        refine lv_bipush (v := 64) hx hb dT_pieceOnWay_17 (by decide) ?_
        refine lv_icmp_ge (tgt := 164) hx hb dT_pieceOnWay_19 (by decide) (fun c_18 => ?_) (fun c_18 => ?_)
        · skip
          exact absurd c_18 (by rw [hi]; exact nI_ge (b := 64) (by omega) (by omega))
        · skip
          refine lv_aload_n hx hb dT_pieceOnWay_22 rfl (lv_at hl 3 rfl) ?_
          refine lv_iload hx hb dT_pieceOnWay_23 (lv_at hl 1 rfl) ?_
          refine ro_Vi (v := sT_hasNode Rw (wOf sl wv) k) (As := [.int k]) (rest := []) ⟨hx, hb, hml, hown, ht⟩ (cT_hasNode l g ad q cp f Rw sl cnt h st LW wv hz hsl k) (cwV 1 ht (g_V q_333 q_334 q_335 q_35 q_336) rfl rfl rfl hd_T_hasNode ⟨Nat.le_of_ble_eq_true rfl, Nat.le_of_ble_eq_true rfl⟩) hK (hP) (va_recv hK.1 hP (ci := 4) (q0 := 0) rfl rfl) rfl hl.1 rfl (Nat.le_of_ble_eq_true rfl) dT_pieceOnWay_25 ⟨by show 0 ≤ 0; omega, by show 0 ≤ 0; omega⟩ ?_
          refine lv_if_eq (tgt := 164) hx hb dT_pieceOnWay_28 (by decide) (fun c_19 => ?_) (fun c_19 => ?_)
          · skip
            refine lv_iconst (v := -1) hx hb dT_pieceOnWay_164 (by decide) ?_
            exact W.iret hx hb hr (fun t ht9 hW => ⟨_, rfl, by rw [← hR, sWayL, if_pos c_19], ht9⟩) (fun q h => by cases h) dT_pieceOnWay_165
          · skip
            refine lv_aload_n hx hb dT_pieceOnWay_31 rfl (lv_at hl 3 rfl) ?_
            refine lv_iload hx hb dT_pieceOnWay_32 (lv_at hl 1 rfl) ?_
            refine lv_iload_n hx hb dT_pieceOnWay_34 rfl (lv_at hl 4 rfl) ?_
            refine lv_iload_n hx hb dT_pieceOnWay_35 rfl (lv_at hl 5 rfl) ?_
            refine ro_Vi (v := sT_liesLeft Rw (wOf sl wv) k x y) (As := [.int k, .int x, .int y]) (rest := []) ⟨hx, hb, hml, hown, ht⟩ (cT_liesLeft l g ad q cp f Rw sl cnt h st LW wv hz hsl k x y) (cwV 3 ht (g_V q_454 q_456 q_9 q_35 q_457) rfl rfl rfl hd_T_liesLeft ⟨Nat.le_of_ble_eq_true rfl, Nat.le_of_ble_eq_true rfl⟩) hK (hP) (va_recv hK.1 hP (ci := 4) (q0 := 0) rfl rfl) rfl hl.1 rfl (Nat.le_of_ble_eq_true rfl) dT_pieceOnWay_36 ⟨by show 0 ≤ 0; omega, by show 0 ≤ 0; omega⟩ ?_
            refine lv_istore (lv' := [(7, .int (sT_liesLeft Rw (wOf sl wv) k x y)), (6, .int d), (5, .int k), (4, .int r), (0, .ref (ad 0)), (1, .int x), (2, .int y)]) hx hb dT_pieceOnWay_39 hl (by decide) rfl (fun ls hl => ?_)
            refine lv_iload hx hb dT_pieceOnWay_41 (lv_at hl 0 rfl) ?_
            refine lv_if_eq (tgt := 58) hx hb dT_pieceOnWay_43 (by decide) (fun c_20 => ?_) (fun c_20 => ?_)
            · skip
              refine lv_aload_n hx hb dT_pieceOnWay_58 rfl (lv_at hl 4 rfl) ?_
              refine va_get (D := g.1) (ci := 4) (v := .ref (ad 8)) (C := "NodeMaker$Tree") (T := Fd_T) (N := 16) hx hb ht i_T hown hK.1 hP 0 rfl rfl 3 (by decide) (ht _ q_108) (fun _ h9 => h9) rfl dT_pieceOnWay_59 ?_
              refine lv_iload hx hb dT_pieceOnWay_62 (lv_at hl 2 rfl) ?_
              have hPc := hP.sub (ws' := rowW g (ad 8) (q 2) (cp 2) (f 2) (Rw 2).length) [10, 11] rfl
              refine ro_Vi (v := rAt (Rw 2) k) (As := [.int k]) (rest := []) ⟨hx, hb, hml, hown, ht⟩ (cR_at l g (ad 8) (q 2) (cp 2) (f 2) (Rw 2) (hz 2 (by decide)) k) (cwV 1 ht (g_V q_325 q_326 q_327 q_37 q_328) rfl rfl rfl hd_R_at ⟨Nat.le_of_ble_eq_true rfl, Nat.le_of_ble_eq_true rfl⟩) hK (hPc) (va_recv hK.1 hPc (ci := 0) (q0 := 0) rfl rfl) rfl hl.1 rfl (Nat.le_of_ble_eq_true rfl) dT_pieceOnWay_64 ⟨by show 0 ≤ 0; omega, by show 0 ≤ 0; omega⟩ ?_
              refine lv_istore (lv' := [(8, .int (rAt (Rw 2) k)), (7, .int (sT_liesLeft Rw (wOf sl wv) k x y)), (6, .int d), (5, .int k), (4, .int r), (0, .ref (ad 0)), (1, .int x), (2, .int y)]) hx hb dT_pieceOnWay_67 hl (by decide) rfl (fun ls hl => ?_)
              have hN : sNear Rw (wOf sl wv) x y k = (rAt (Rw 2) k) := by rw [sNear, if_pos c_20]
              refine lv_aload_n hx hb dT_pieceOnWay_69 rfl (lv_at hl 5 rfl) ?_
              refine lv_iload hx hb dT_pieceOnWay_70 (lv_at hl 0 rfl) ?_
              refine ro_Vi (v := sT_piecesIn Rw (wOf sl wv) (rAt (Rw 2) k)) (As := [.int (rAt (Rw 2) k)]) (rest := []) ⟨hx, hb, hml, hown, ht⟩ (cT_piecesIn l g ad q cp f Rw sl cnt h st LW wv hz hsl (rAt (Rw 2) k)) (cwV 1 ht (g_V q_474 q_476 q_10 q_35 q_477) rfl rfl rfl hd_T_piecesIn ⟨Nat.le_of_ble_eq_true rfl, Nat.le_of_ble_eq_true rfl⟩) hK (hP) (va_recv hK.1 hP (ci := 4) (q0 := 0) rfl rfl) rfl hl.1 rfl (Nat.le_of_ble_eq_true rfl) dT_pieceOnWay_72 ⟨by show 0 ≤ 0; omega, by show 0 ≤ 0; omega⟩ ?_
              refine lv_istore (lv' := [(9, .int (sT_piecesIn Rw (wOf sl wv) (rAt (Rw 2) k))), (8, .int (rAt (Rw 2) k)), (7, .int (sT_liesLeft Rw (wOf sl wv) k x y)), (6, .int d), (5, .int k), (4, .int r), (0, .ref (ad 0)), (1, .int x), (2, .int y)]) hx hb dT_pieceOnWay_75 hl (by decide) rfl (fun ls hl => ?_)
              refine lv_iload hx hb dT_pieceOnWay_77 (lv_at hl 5 rfl) ?_
              refine lv_iload hx hb dT_pieceOnWay_79 (lv_at hl 0 rfl) ?_
              refine lv_icmp_ge (tgt := 91) hx hb dT_pieceOnWay_81 (by decide) (fun c_21 => ?_) (fun c_21 => ?_)
              · skip
                refine lv_iload hx hb dT_pieceOnWay_91 (lv_at hl 5 rfl) ?_
                refine lv_iload hx hb dT_pieceOnWay_93 (lv_at hl 0 rfl) ?_
                refine lv_isub hx hb dT_pieceOnWay_95 ?_
                refine lv_istore (lv' := [(4, .int (r - (sT_piecesIn Rw (wOf sl wv) (rAt (Rw 2) k)))), (9, .int (sT_piecesIn Rw (wOf sl wv) (rAt (Rw 2) k))), (8, .int (rAt (Rw 2) k)), (7, .int (sT_liesLeft Rw (wOf sl wv) k x y)), (6, .int d), (5, .int k), (0, .ref (ad 0)), (1, .int x), (2, .int y)]) hx hb dT_pieceOnWay_96 hl (by decide) rfl (fun ls hl => ?_)
                refine lv_iload hx hb dT_pieceOnWay_98 (lv_at hl 0 rfl) ?_
                refine lv_aload_n hx hb dT_pieceOnWay_100 rfl (lv_at hl 6 rfl) ?_
                refine lv_iload hx hb dT_pieceOnWay_101 (lv_at hl 5 rfl) ?_
                refine ro_Vi (v := sT_ownPieces Rw (wOf sl wv) k) (As := [.int k]) (rest := [.int (r - (sT_piecesIn Rw (wOf sl wv) (rAt (Rw 2) k)))]) ⟨hx, hb, hml, hown, ht⟩ (cT_ownPieces l g ad q cp f Rw sl cnt h st LW wv hz hsl k) (cwV 1 ht (g_V q_428 q_408 q_409 q_35 q_410) rfl rfl rfl hd_T_ownPieces ⟨Nat.le_of_ble_eq_true rfl, Nat.le_of_ble_eq_true rfl⟩) hK (hP) (va_recv hK.1 hP (ci := 4) (q0 := 0) rfl rfl) rfl hl.1 rfl (Nat.le_of_ble_eq_true rfl) dT_pieceOnWay_103 ⟨by show 0 ≤ 0; omega, by show 0 ≤ 0; omega⟩ ?_
                refine lv_icmp_ge (tgt := 119) hx hb dT_pieceOnWay_106 (by decide) (fun c_22 => ?_) (fun c_22 => ?_)
                · skip
                  refine lv_iload hx hb dT_pieceOnWay_119 (lv_at hl 0 rfl) ?_
                  refine lv_aload_n hx hb dT_pieceOnWay_121 rfl (lv_at hl 6 rfl) ?_
                  refine lv_iload hx hb dT_pieceOnWay_122 (lv_at hl 5 rfl) ?_
                  refine ro_Vi (v := sT_ownPieces Rw (wOf sl wv) k) (As := [.int k]) (rest := [.int (r - (sT_piecesIn Rw (wOf sl wv) (rAt (Rw 2) k)))]) ⟨hx, hb, hml, hown, ht⟩ (cT_ownPieces l g ad q cp f Rw sl cnt h st LW wv hz hsl k) (cwV 1 ht (g_V q_428 q_408 q_409 q_35 q_410) rfl rfl rfl hd_T_ownPieces ⟨Nat.le_of_ble_eq_true rfl, Nat.le_of_ble_eq_true rfl⟩) hK (hP) (va_recv hK.1 hP (ci := 4) (q0 := 0) rfl rfl) rfl hl.1 rfl (Nat.le_of_ble_eq_true rfl) dT_pieceOnWay_124 ⟨by show 0 ≤ 0; omega, by show 0 ≤ 0; omega⟩ ?_
                  refine lv_isub hx hb dT_pieceOnWay_127 ?_
                  refine lv_istore (lv' := [(4, .int ((r - (sT_piecesIn Rw (wOf sl wv) (rAt (Rw 2) k))) - (sT_ownPieces Rw (wOf sl wv) k))), (9, .int (sT_piecesIn Rw (wOf sl wv) (rAt (Rw 2) k))), (8, .int (rAt (Rw 2) k)), (7, .int (sT_liesLeft Rw (wOf sl wv) k x y)), (6, .int d), (5, .int k), (0, .ref (ad 0)), (1, .int x), (2, .int y)]) hx hb dT_pieceOnWay_128 hl (by decide) rfl (fun ls hl => ?_)
                  refine lv_iload hx hb dT_pieceOnWay_130 (lv_at hl 3 rfl) ?_
                  refine lv_if_eq (tgt := 147) hx hb dT_pieceOnWay_132 (by decide) (fun c_23 => ?_) (fun c_23 => ?_)
                  · skip
                    refine lv_aload_n hx hb dT_pieceOnWay_147 rfl (lv_at hl 6 rfl) ?_
                    refine va_get (D := g.1) (ci := 4) (v := .ref (ad 7)) (C := "NodeMaker$Tree") (T := Fd_T) (N := 16) hx hb ht i_T hown hK.1 hP 0 rfl rfl 2 (by decide) (ht _ q_107) (fun _ h9 => h9) rfl dT_pieceOnWay_148 ?_
                    refine lv_iload hx hb dT_pieceOnWay_151 (lv_at hl 5 rfl) ?_
                    have hPc := hP.sub (ws' := rowW g (ad 7) (q 1) (cp 1) (f 1) (Rw 1).length) [8, 9] rfl
                    refine ro_Vi (v := rAt (Rw 1) k) (As := [.int k]) (rest := []) ⟨hx, hb, hml, hown, ht⟩ (cR_at l g (ad 7) (q 1) (cp 1) (f 1) (Rw 1) (hz 1 (by decide)) k) (cwV 1 ht (g_V q_325 q_326 q_327 q_37 q_328) rfl rfl rfl hd_R_at ⟨Nat.le_of_ble_eq_true rfl, Nat.le_of_ble_eq_true rfl⟩) hK (hPc) (va_recv hK.1 hPc (ci := 0) (q0 := 0) rfl rfl) rfl hl.1 rfl (Nat.le_of_ble_eq_true rfl) dT_pieceOnWay_153 ⟨by show 0 ≤ 0; omega, by show 0 ≤ 0; omega⟩ ?_
                    refine lv_istore (lv' := [(5, .int (rAt (Rw 1) k)), (4, .int ((r - (sT_piecesIn Rw (wOf sl wv) (rAt (Rw 2) k))) - (sT_ownPieces Rw (wOf sl wv) k))), (9, .int (sT_piecesIn Rw (wOf sl wv) (rAt (Rw 2) k))), (8, .int (rAt (Rw 2) k)), (7, .int (sT_liesLeft Rw (wOf sl wv) k x y)), (6, .int d), (0, .ref (ad 0)), (1, .int x), (2, .int y)]) hx hb dT_pieceOnWay_156 hl (by decide) rfl (fun ls hl => ?_)
                    refine lv_iinc (v := d + 1) (lv' := [(6, .int (d + 1)), (5, .int (rAt (Rw 1) k)), (4, .int ((r - (sT_piecesIn Rw (wOf sl wv) (rAt (Rw 2) k))) - (sT_ownPieces Rw (wOf sl wv) k))), (9, .int (sT_piecesIn Rw (wOf sl wv) (rAt (Rw 2) k))), (8, .int (rAt (Rw 2) k)), (7, .int (sT_liesLeft Rw (wOf sl wv) k x y)), (0, .ref (ad 0)), (1, .int x), (2, .int y)]) hx hb dT_pieceOnWay_158 hl (k := 5) rfl rfl (by decide) rfl (fun ls hl => ?_)
                    refine lv_goto (tgt := 15) hx hb dT_pieceOnWay_161 (by decide) ?_
                    exact ih (j + 1) ((r - (sT_piecesIn Rw (wOf sl wv) (rAt (Rw 2) k))) - (sT_ownPieces Rw (wOf sl wv) k)) (rAt (Rw 1) k) (d + 1) ls (by omega) (by rw [hi]; exact nI_1 j) (by rw [← hR, sWayL, if_neg c_19, if_pos (by rw [hN]; exact c_21), if_pos (by rw [hN]; exact c_22), hN, show sFar Rw (wOf sl wv) x y k = (rAt (Rw 1) k) from by rw [sFar, if_pos c_20]]) (lv_sub hl [0, 1, 2, 6, 7, 8] rfl)
                  · skip
                    exact absurd c_20 c_23
                · skip
                  refine lv_aload_n hx hb dT_pieceOnWay_109 rfl (lv_at hl 6 rfl) ?_
                  refine lv_iload hx hb dT_pieceOnWay_110 (lv_at hl 5 rfl) ?_
                  refine ro_Vi (v := sT_firstPieceFrom Rw (wOf sl wv) k) (As := [.int k]) (rest := []) ⟨hx, hb, hml, hown, ht⟩ (cT_firstPieceFrom l g ad q cp f Rw sl cnt h st LW wv hz hsl k) (cwV 1 ht (g_V q_411 q_413 q_8 q_35 q_414) rfl rfl rfl hd_T_firstPieceFrom ⟨Nat.le_of_ble_eq_true rfl, Nat.le_of_ble_eq_true rfl⟩) hK (hP) (va_recv hK.1 hP (ci := 4) (q0 := 0) rfl rfl) rfl hl.1 rfl (Nat.le_of_ble_eq_true rfl) dT_pieceOnWay_112 ⟨by show 0 ≤ 0; omega, by show 0 ≤ 0; omega⟩ ?_
                  refine lv_iload hx hb dT_pieceOnWay_115 (lv_at hl 0 rfl) ?_
                  refine lv_iadd hx hb dT_pieceOnWay_117 ?_
                  exact W.iret hx hb hr (fun t ht9 hW => ⟨_, rfl, by rw [← hR, sWayL, if_neg c_19, if_pos (by rw [hN]; exact c_21), if_neg (by rw [hN]; exact c_22), hN], ht9⟩) (fun q h => by cases h) dT_pieceOnWay_118
              · skip
                refine lv_iload hx hb dT_pieceOnWay_84 (lv_at hl 1 rfl) ?_
                refine lv_istore (lv' := [(5, .int (rAt (Rw 2) k)), (9, .int (sT_piecesIn Rw (wOf sl wv) (rAt (Rw 2) k))), (8, .int (rAt (Rw 2) k)), (7, .int (sT_liesLeft Rw (wOf sl wv) k x y)), (6, .int d), (4, .int r), (0, .ref (ad 0)), (1, .int x), (2, .int y)]) hx hb dT_pieceOnWay_86 hl (by decide) rfl (fun ls hl => ?_)
                refine lv_goto (tgt := 158) hx hb dT_pieceOnWay_88 (by decide) ?_
                refine lv_iinc (v := d + 1) (lv' := [(6, .int (d + 1)), (5, .int (rAt (Rw 2) k)), (9, .int (sT_piecesIn Rw (wOf sl wv) (rAt (Rw 2) k))), (8, .int (rAt (Rw 2) k)), (7, .int (sT_liesLeft Rw (wOf sl wv) k x y)), (4, .int r), (0, .ref (ad 0)), (1, .int x), (2, .int y)]) hx hb dT_pieceOnWay_158 hl (k := 4) rfl rfl (by decide) rfl (fun ls hl => ?_)
                refine lv_goto (tgt := 15) hx hb dT_pieceOnWay_161 (by decide) ?_
                exact ih (j + 1) r (rAt (Rw 2) k) (d + 1) ls (by omega) (by rw [hi]; exact nI_1 j) (by rw [← hR, sWayL, if_neg c_19, if_neg (by rw [hN]; exact c_21), hN]) (lv_sub hl [0, 1, 5, 6, 7, 8] rfl)
            · skip
              refine lv_aload_n hx hb dT_pieceOnWay_46 rfl (lv_at hl 4 rfl) ?_
              refine va_get (D := g.1) (ci := 4) (v := .ref (ad 7)) (C := "NodeMaker$Tree") (T := Fd_T) (N := 16) hx hb ht i_T hown hK.1 hP 0 rfl rfl 2 (by decide) (ht _ q_107) (fun _ h9 => h9) rfl dT_pieceOnWay_47 ?_
              refine lv_iload hx hb dT_pieceOnWay_50 (lv_at hl 2 rfl) ?_
              have hPc := hP.sub (ws' := rowW g (ad 7) (q 1) (cp 1) (f 1) (Rw 1).length) [8, 9] rfl
              refine ro_Vi (v := rAt (Rw 1) k) (As := [.int k]) (rest := []) ⟨hx, hb, hml, hown, ht⟩ (cR_at l g (ad 7) (q 1) (cp 1) (f 1) (Rw 1) (hz 1 (by decide)) k) (cwV 1 ht (g_V q_325 q_326 q_327 q_37 q_328) rfl rfl rfl hd_R_at ⟨Nat.le_of_ble_eq_true rfl, Nat.le_of_ble_eq_true rfl⟩) hK (hPc) (va_recv hK.1 hPc (ci := 0) (q0 := 0) rfl rfl) rfl hl.1 rfl (Nat.le_of_ble_eq_true rfl) dT_pieceOnWay_52 ⟨by show 0 ≤ 0; omega, by show 0 ≤ 0; omega⟩ ?_
              refine lv_goto (tgt := 67) hx hb dT_pieceOnWay_55 (by decide) ?_
              refine lv_istore (lv' := [(8, .int (rAt (Rw 1) k)), (7, .int (sT_liesLeft Rw (wOf sl wv) k x y)), (6, .int d), (5, .int k), (4, .int r), (0, .ref (ad 0)), (1, .int x), (2, .int y)]) hx hb dT_pieceOnWay_67 hl (by decide) rfl (fun ls hl => ?_)
              have hN : sNear Rw (wOf sl wv) x y k = (rAt (Rw 1) k) := by rw [sNear, if_neg c_20]
              refine lv_aload_n hx hb dT_pieceOnWay_69 rfl (lv_at hl 5 rfl) ?_
              refine lv_iload hx hb dT_pieceOnWay_70 (lv_at hl 0 rfl) ?_
              refine ro_Vi (v := sT_piecesIn Rw (wOf sl wv) (rAt (Rw 1) k)) (As := [.int (rAt (Rw 1) k)]) (rest := []) ⟨hx, hb, hml, hown, ht⟩ (cT_piecesIn l g ad q cp f Rw sl cnt h st LW wv hz hsl (rAt (Rw 1) k)) (cwV 1 ht (g_V q_474 q_476 q_10 q_35 q_477) rfl rfl rfl hd_T_piecesIn ⟨Nat.le_of_ble_eq_true rfl, Nat.le_of_ble_eq_true rfl⟩) hK (hP) (va_recv hK.1 hP (ci := 4) (q0 := 0) rfl rfl) rfl hl.1 rfl (Nat.le_of_ble_eq_true rfl) dT_pieceOnWay_72 ⟨by show 0 ≤ 0; omega, by show 0 ≤ 0; omega⟩ ?_
              refine lv_istore (lv' := [(9, .int (sT_piecesIn Rw (wOf sl wv) (rAt (Rw 1) k))), (8, .int (rAt (Rw 1) k)), (7, .int (sT_liesLeft Rw (wOf sl wv) k x y)), (6, .int d), (5, .int k), (4, .int r), (0, .ref (ad 0)), (1, .int x), (2, .int y)]) hx hb dT_pieceOnWay_75 hl (by decide) rfl (fun ls hl => ?_)
              refine lv_iload hx hb dT_pieceOnWay_77 (lv_at hl 5 rfl) ?_
              refine lv_iload hx hb dT_pieceOnWay_79 (lv_at hl 0 rfl) ?_
              refine lv_icmp_ge (tgt := 91) hx hb dT_pieceOnWay_81 (by decide) (fun c_24 => ?_) (fun c_24 => ?_)
              · skip
                refine lv_iload hx hb dT_pieceOnWay_91 (lv_at hl 5 rfl) ?_
                refine lv_iload hx hb dT_pieceOnWay_93 (lv_at hl 0 rfl) ?_
                refine lv_isub hx hb dT_pieceOnWay_95 ?_
                refine lv_istore (lv' := [(4, .int (r - (sT_piecesIn Rw (wOf sl wv) (rAt (Rw 1) k)))), (9, .int (sT_piecesIn Rw (wOf sl wv) (rAt (Rw 1) k))), (8, .int (rAt (Rw 1) k)), (7, .int (sT_liesLeft Rw (wOf sl wv) k x y)), (6, .int d), (5, .int k), (0, .ref (ad 0)), (1, .int x), (2, .int y)]) hx hb dT_pieceOnWay_96 hl (by decide) rfl (fun ls hl => ?_)
                refine lv_iload hx hb dT_pieceOnWay_98 (lv_at hl 0 rfl) ?_
                refine lv_aload_n hx hb dT_pieceOnWay_100 rfl (lv_at hl 6 rfl) ?_
                refine lv_iload hx hb dT_pieceOnWay_101 (lv_at hl 5 rfl) ?_
                refine ro_Vi (v := sT_ownPieces Rw (wOf sl wv) k) (As := [.int k]) (rest := [.int (r - (sT_piecesIn Rw (wOf sl wv) (rAt (Rw 1) k)))]) ⟨hx, hb, hml, hown, ht⟩ (cT_ownPieces l g ad q cp f Rw sl cnt h st LW wv hz hsl k) (cwV 1 ht (g_V q_428 q_408 q_409 q_35 q_410) rfl rfl rfl hd_T_ownPieces ⟨Nat.le_of_ble_eq_true rfl, Nat.le_of_ble_eq_true rfl⟩) hK (hP) (va_recv hK.1 hP (ci := 4) (q0 := 0) rfl rfl) rfl hl.1 rfl (Nat.le_of_ble_eq_true rfl) dT_pieceOnWay_103 ⟨by show 0 ≤ 0; omega, by show 0 ≤ 0; omega⟩ ?_
                refine lv_icmp_ge (tgt := 119) hx hb dT_pieceOnWay_106 (by decide) (fun c_25 => ?_) (fun c_25 => ?_)
                · skip
                  refine lv_iload hx hb dT_pieceOnWay_119 (lv_at hl 0 rfl) ?_
                  refine lv_aload_n hx hb dT_pieceOnWay_121 rfl (lv_at hl 6 rfl) ?_
                  refine lv_iload hx hb dT_pieceOnWay_122 (lv_at hl 5 rfl) ?_
                  refine ro_Vi (v := sT_ownPieces Rw (wOf sl wv) k) (As := [.int k]) (rest := [.int (r - (sT_piecesIn Rw (wOf sl wv) (rAt (Rw 1) k)))]) ⟨hx, hb, hml, hown, ht⟩ (cT_ownPieces l g ad q cp f Rw sl cnt h st LW wv hz hsl k) (cwV 1 ht (g_V q_428 q_408 q_409 q_35 q_410) rfl rfl rfl hd_T_ownPieces ⟨Nat.le_of_ble_eq_true rfl, Nat.le_of_ble_eq_true rfl⟩) hK (hP) (va_recv hK.1 hP (ci := 4) (q0 := 0) rfl rfl) rfl hl.1 rfl (Nat.le_of_ble_eq_true rfl) dT_pieceOnWay_124 ⟨by show 0 ≤ 0; omega, by show 0 ≤ 0; omega⟩ ?_
                  refine lv_isub hx hb dT_pieceOnWay_127 ?_
                  refine lv_istore (lv' := [(4, .int ((r - (sT_piecesIn Rw (wOf sl wv) (rAt (Rw 1) k))) - (sT_ownPieces Rw (wOf sl wv) k))), (9, .int (sT_piecesIn Rw (wOf sl wv) (rAt (Rw 1) k))), (8, .int (rAt (Rw 1) k)), (7, .int (sT_liesLeft Rw (wOf sl wv) k x y)), (6, .int d), (5, .int k), (0, .ref (ad 0)), (1, .int x), (2, .int y)]) hx hb dT_pieceOnWay_128 hl (by decide) rfl (fun ls hl => ?_)
                  refine lv_iload hx hb dT_pieceOnWay_130 (lv_at hl 3 rfl) ?_
                  refine lv_if_eq (tgt := 147) hx hb dT_pieceOnWay_132 (by decide) (fun c_26 => ?_) (fun c_26 => ?_)
                  · skip
                    exact absurd c_26 c_20
                  · skip
                    refine lv_aload_n hx hb dT_pieceOnWay_135 rfl (lv_at hl 6 rfl) ?_
                    refine va_get (D := g.1) (ci := 4) (v := .ref (ad 8)) (C := "NodeMaker$Tree") (T := Fd_T) (N := 16) hx hb ht i_T hown hK.1 hP 0 rfl rfl 3 (by decide) (ht _ q_108) (fun _ h9 => h9) rfl dT_pieceOnWay_136 ?_
                    refine lv_iload hx hb dT_pieceOnWay_139 (lv_at hl 5 rfl) ?_
                    have hPc := hP.sub (ws' := rowW g (ad 8) (q 2) (cp 2) (f 2) (Rw 2).length) [10, 11] rfl
                    refine ro_Vi (v := rAt (Rw 2) k) (As := [.int k]) (rest := []) ⟨hx, hb, hml, hown, ht⟩ (cR_at l g (ad 8) (q 2) (cp 2) (f 2) (Rw 2) (hz 2 (by decide)) k) (cwV 1 ht (g_V q_325 q_326 q_327 q_37 q_328) rfl rfl rfl hd_R_at ⟨Nat.le_of_ble_eq_true rfl, Nat.le_of_ble_eq_true rfl⟩) hK (hPc) (va_recv hK.1 hPc (ci := 0) (q0 := 0) rfl rfl) rfl hl.1 rfl (Nat.le_of_ble_eq_true rfl) dT_pieceOnWay_141 ⟨by show 0 ≤ 0; omega, by show 0 ≤ 0; omega⟩ ?_
                    refine lv_goto (tgt := 156) hx hb dT_pieceOnWay_144 (by decide) ?_
                    refine lv_istore (lv' := [(5, .int (rAt (Rw 2) k)), (4, .int ((r - (sT_piecesIn Rw (wOf sl wv) (rAt (Rw 1) k))) - (sT_ownPieces Rw (wOf sl wv) k))), (9, .int (sT_piecesIn Rw (wOf sl wv) (rAt (Rw 1) k))), (8, .int (rAt (Rw 1) k)), (7, .int (sT_liesLeft Rw (wOf sl wv) k x y)), (6, .int d), (0, .ref (ad 0)), (1, .int x), (2, .int y)]) hx hb dT_pieceOnWay_156 hl (by decide) rfl (fun ls hl => ?_)
                    refine lv_iinc (v := d + 1) (lv' := [(6, .int (d + 1)), (5, .int (rAt (Rw 2) k)), (4, .int ((r - (sT_piecesIn Rw (wOf sl wv) (rAt (Rw 1) k))) - (sT_ownPieces Rw (wOf sl wv) k))), (9, .int (sT_piecesIn Rw (wOf sl wv) (rAt (Rw 1) k))), (8, .int (rAt (Rw 1) k)), (7, .int (sT_liesLeft Rw (wOf sl wv) k x y)), (0, .ref (ad 0)), (1, .int x), (2, .int y)]) hx hb dT_pieceOnWay_158 hl (k := 5) rfl rfl (by decide) rfl (fun ls hl => ?_)
                    refine lv_goto (tgt := 15) hx hb dT_pieceOnWay_161 (by decide) ?_
                    exact ih (j + 1) ((r - (sT_piecesIn Rw (wOf sl wv) (rAt (Rw 1) k))) - (sT_ownPieces Rw (wOf sl wv) k)) (rAt (Rw 2) k) (d + 1) ls (by omega) (by rw [hi]; exact nI_1 j) (by rw [← hR, sWayL, if_neg c_19, if_pos (by rw [hN]; exact c_24), if_pos (by rw [hN]; exact c_25), hN, show sFar Rw (wOf sl wv) x y k = (rAt (Rw 2) k) from by rw [sFar, if_neg c_20]]) (lv_sub hl [0, 1, 2, 6, 7, 8] rfl)
                · skip
                  refine lv_aload_n hx hb dT_pieceOnWay_109 rfl (lv_at hl 6 rfl) ?_
                  refine lv_iload hx hb dT_pieceOnWay_110 (lv_at hl 5 rfl) ?_
                  refine ro_Vi (v := sT_firstPieceFrom Rw (wOf sl wv) k) (As := [.int k]) (rest := []) ⟨hx, hb, hml, hown, ht⟩ (cT_firstPieceFrom l g ad q cp f Rw sl cnt h st LW wv hz hsl k) (cwV 1 ht (g_V q_411 q_413 q_8 q_35 q_414) rfl rfl rfl hd_T_firstPieceFrom ⟨Nat.le_of_ble_eq_true rfl, Nat.le_of_ble_eq_true rfl⟩) hK (hP) (va_recv hK.1 hP (ci := 4) (q0 := 0) rfl rfl) rfl hl.1 rfl (Nat.le_of_ble_eq_true rfl) dT_pieceOnWay_112 ⟨by show 0 ≤ 0; omega, by show 0 ≤ 0; omega⟩ ?_
                  refine lv_iload hx hb dT_pieceOnWay_115 (lv_at hl 0 rfl) ?_
                  refine lv_iadd hx hb dT_pieceOnWay_117 ?_
                  exact W.iret hx hb hr (fun t ht9 hW => ⟨_, rfl, by rw [← hR, sWayL, if_neg c_19, if_pos (by rw [hN]; exact c_24), if_neg (by rw [hN]; exact c_25), hN], ht9⟩) (fun q h => by cases h) dT_pieceOnWay_118
              · skip
                refine lv_iload hx hb dT_pieceOnWay_84 (lv_at hl 1 rfl) ?_
                refine lv_istore (lv' := [(5, .int (rAt (Rw 1) k)), (9, .int (sT_piecesIn Rw (wOf sl wv) (rAt (Rw 1) k))), (8, .int (rAt (Rw 1) k)), (7, .int (sT_liesLeft Rw (wOf sl wv) k x y)), (6, .int d), (4, .int r), (0, .ref (ad 0)), (1, .int x), (2, .int y)]) hx hb dT_pieceOnWay_86 hl (by decide) rfl (fun ls hl => ?_)
                refine lv_goto (tgt := 158) hx hb dT_pieceOnWay_88 (by decide) ?_
                refine lv_iinc (v := d + 1) (lv' := [(6, .int (d + 1)), (5, .int (rAt (Rw 1) k)), (9, .int (sT_piecesIn Rw (wOf sl wv) (rAt (Rw 1) k))), (8, .int (rAt (Rw 1) k)), (7, .int (sT_liesLeft Rw (wOf sl wv) k x y)), (4, .int r), (0, .ref (ad 0)), (1, .int x), (2, .int y)]) hx hb dT_pieceOnWay_158 hl (k := 4) rfl rfl (by decide) rfl (fun ls hl => ?_)
                refine lv_goto (tgt := 15) hx hb dT_pieceOnWay_161 (by decide) ?_
                exact ih (j + 1) r (rAt (Rw 1) k) (d + 1) ls (by omega) (by rw [hi]; exact nI_1 j) (by rw [← hR, sWayL, if_neg c_19, if_neg (by rw [hN]; exact c_24), hN]) (lv_sub hl [0, 1, 5, 6, 7, 8] rfl)
    exact loop15 64 0 i 0 0 ls (by omega) rfl (by rw [sT_pieceOnWay, if_pos c_16]) (lv_sub hl [0, 1, 2, 3, 4, 5] rfl)
  · skip
    refine lv_iconst (v := -1) hx hb dT_pieceOnWay_4 (by decide) ?_
    exact W.iret hx hb hr (fun t ht9 hW => ⟨_, rfl, by rw [sT_pieceOnWay, if_neg c_16], ht9⟩) (fun q h => by cases h) dT_pieceOnWay_5
