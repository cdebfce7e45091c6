/-- the reference's state: its ints, its arrays of ints (and booleans), its arrays of longs, by their fields' places -/
abbrev MSt : Type := (Nat → Int32) × (Nat → Nat → Int32) × (Nat → Nat → Int64)
/-- an index that is in its array -/
abbrev vpin (i : Int32) (n : Nat) : Prop := 0 ≤ i.toInt ∧ i.toInt < n
abbrev mX (g : CX) (aM : Nat) (b : Nat → Nat) (mz : MSt) : va_W := [(aM, .inr (6, [.int (mz.1 0), .ref (b 1), .ref (b 2), .ref (b 3), .ref (b 4), .ref (b 5), .int (mz.1 6), .int (mz.1 7), .ref (b 8), .ref (b 9), .ref (b 10), .ref (b 11), .ref (b 12), .int (mz.1 13), .int (mz.1 14), .ref (b 15), .ref (b 16), .ref (b 17), .ref (b 18), .ref (b 19), .int (mz.1 20), .ref (b 21), .ref (b 22), .ref (b 23), .ref (b 24), .ref (b 25), .ref (b 26), .ref (b 27), .int (mz.1 28), .int (mz.1 29), .int (mz.1 30), .int (mz.1 31), .ref (b 32), .int (mz.1 33), .int (mz.1 34), .int (mz.1 35), .ref (b 36)])), (b 1, .inl (g.2 3, 64, .inl (mz.2.1 1))), (b 2, .inl (g.2 0, 64, .inl (mz.2.1 2))), (b 3, .inl (g.2 0, 64, .inl (mz.2.1 3))), (b 4, .inl (g.2 0, 64, .inl (mz.2.1 4))), (b 5, .inl (g.2 0, 64, .inl (mz.2.1 5))), (b 8, .inl (g.2 0, 8300, .inl (mz.2.1 8))), (b 9, .inl (g.2 2, 8300, .inr (.inl (mz.2.2 9)))), (b 10, .inl (g.2 2, 8300, .inr (.inl (mz.2.2 10)))), (b 11, .inl (g.2 2, 8300, .inr (.inl (mz.2.2 11)))), (b 12, .inl (g.2 2, 8300, .inr (.inl (mz.2.2 12)))), (b 15, .inl (g.2 0, 9000, .inl (mz.2.1 15))), (b 16, .inl (g.2 0, 140, .inl (mz.2.1 16))), (b 17, .inl (g.2 0, 140, .inl (mz.2.1 17))), (b 18, .inl (g.2 0, 140, .inl (mz.2.1 18))), (b 19, .inl (g.2 0, 140, .inl (mz.2.1 19))), (b 21, .inl (g.2 0, 4200, .inl (mz.2.1 21))), (b 22, .inl (g.2 0, 4200, .inl (mz.2.1 22))), (b 23, .inl (g.2 0, 4200, .inl (mz.2.1 23))), (b 24, .inl (g.2 0, 4200, .inl (mz.2.1 24))), (b 25, .inl (g.2 0, 4200, .inl (mz.2.1 25))), (b 26, .inl (g.2 0, 4200, .inl (mz.2.1 26))), (b 27, .inl (g.2 0, 8300, .inl (mz.2.1 27))), (b 32, .inl (g.2 0, 64, .inl (mz.2.1 32))), (b 36, .inl (g.2 0, 8600, .inl (mz.2.1 36)))]
def sM_sideOf (mz : MSt) (i : Int32) (x : Int64) (y : Int64) : Option Int64 :=
  if vpin i 64 then
    some (sM_cross ((((mz.2.1 4) i.toNatClampNeg) - ((mz.2.1 2) i.toNatClampNeg)).toInt64) ((((mz.2.1 5) i.toNatClampNeg) - ((mz.2.1 3) i.toNatClampNeg)).toInt64) (x - (((mz.2.1 2) i.toNatClampNeg).toInt64)) (y - (((mz.2.1 3) i.toNatClampNeg).toInt64)))
  else
    none
set_option maxHeartbeats 4000000 in
set_option maxRecDepth 100000 in
theorem cM_sideOf (l : Launch) (g : CX) (aM : Nat) (b : Nat → Nat) (mz : MSt) (i : Int32) (x : Int64) (y : Int64) (r0 : Int64) (hok : sM_sideOf mz i x y = some r0) : Met l yM_sideOf (wm yM_sideOf kM_sideOf 6 (some .long)) ({ frames := 1, cells := 0, slots := 0, locals := 27 }) (ro g [.ref aM, .int i, .long x, .long y] (va_P g.1 vwCl (mX g aM b mz))) (vp_Sl (fun r => r = r0)) 0 0 (fun _ => False) := by
  refine Met.ofW (cc := kM_sideOf) (maxL := 6) (ret := (some .long)) (by decide) rfl ?_
  intro p e s m args below meth c s₁ B hml hv
  obtain ⟨rfl, hK, hP⟩ := hv
  have hx := B.exec
  have hb := B.bytes
  have hr := B.returns
  have ht : ∀ w ∈ wT, w.before _ s = true := fun w h => atoms_spec (ws := wm yM_sideOf kM_sideOf 6 (some .long)) B.pre w (List.mem_cons_of_mem _ h)
  have hown : s.vm.findClass "NodeMakerModel" = some m.cls := findClass_of_methodNamed B.named
  have hlocks := B.notSynchronized
  have hl := lv_entry ([.ref aM, .int i, .long x, .long y]) (n := 6) (Nat.le_of_ble_eq_true rfl)
  rw [lg_entry_eq]
  generalize (lg_sl ([.ref aM, .int i, .long x, .long y]) ++ List.replicate (6 - (lg_sl ([.ref aM, .int i, .long x, .long y])).length) Slot.unset).toArray = ls at hl ⊢
  have hl : lv_has ls 6 [(0, .ref aM), (1, .int i), (2, .long x), (4, .long y)] := hl
  refine lv_aload_n hx hb dM_sideOf_0 rfl (lv_at hl 0 rfl) ?_
  refine va_get (D := g.1) (ci := 6) (v := .ref (b 4)) (C := "NodeMakerModel") (T := Fd_M) (N := 37) hx hb ht i_M hown hK.1 hP 0 rfl rfl 4 (by decide) (ht _ q_529) (fun _ h9 => h9) rfl dM_sideOf_1 ?_
  refine lv_iload_n hx hb dM_sideOf_4 rfl (lv_at hl 1 rfl) ?_
  have h_1 : vpin i 64 := Decidable.byContradiction (fun h9 => by simp only [sM_sideOf, if_neg h9] at hok; cases hok)
  refine va_iald hx hb hK.1 hP 4 0 rfl rfl (vp_in_iff.mpr h_1) dM_sideOf_5 ?_
  refine lv_aload_n hx hb dM_sideOf_6 rfl (lv_at hl 0 rfl) ?_
  refine va_get (D := g.1) (ci := 6) (v := .ref (b 2)) (C := "NodeMakerModel") (T := Fd_M) (N := 37) hx hb ht i_M hown hK.1 hP 0 rfl rfl 2 (by decide) (ht _ q_527) (fun _ h9 => h9) rfl dM_sideOf_7 ?_
  refine lv_iload_n hx hb dM_sideOf_10 rfl (lv_at hl 1 rfl) ?_
  refine va_iald hx hb hK.1 hP 2 0 rfl rfl (vp_in_iff.mpr h_1) dM_sideOf_11 ?_
  refine lv_isub hx hb dM_sideOf_12 ?_
  refine lv_i2l hx hb dM_sideOf_13 rfl ?_
  refine lv_aload_n hx hb dM_sideOf_14 rfl (lv_at hl 0 rfl) ?_
  refine va_get (D := g.1) (ci := 6) (v := .ref (b 5)) (C := "NodeMakerModel") (T := Fd_M) (N := 37) hx hb ht i_M hown hK.1 hP 0 rfl rfl 5 (by decide) (ht _ q_530) (fun _ h9 => h9) rfl dM_sideOf_15 ?_
  refine lv_iload_n hx hb dM_sideOf_18 rfl (lv_at hl 1 rfl) ?_
  refine va_iald hx hb hK.1 hP 5 0 rfl rfl (vp_in_iff.mpr h_1) dM_sideOf_19 ?_
  refine lv_aload_n hx hb dM_sideOf_20 rfl (lv_at hl 0 rfl) ?_
  refine va_get (D := g.1) (ci := 6) (v := .ref (b 3)) (C := "NodeMakerModel") (T := Fd_M) (N := 37) hx hb ht i_M hown hK.1 hP 0 rfl rfl 3 (by decide) (ht _ q_528) (fun _ h9 => h9) rfl dM_sideOf_21 ?_
  refine lv_iload_n hx hb dM_sideOf_24 rfl (lv_at hl 1 rfl) ?_
  refine va_iald hx hb hK.1 hP 3 0 rfl rfl (vp_in_iff.mpr h_1) dM_sideOf_25 ?_
  refine lv_isub hx hb dM_sideOf_26 ?_
  refine lv_i2l hx hb dM_sideOf_27 rfl ?_
  refine lv_lload_n hx hb dM_sideOf_28 rfl (lv_at hl 2 rfl) ?_
  refine lv_aload_n hx hb dM_sideOf_29 rfl (lv_at hl 0 rfl) ?_
  refine va_get (D := g.1) (ci := 6) (v := .ref (b 2)) (C := "NodeMakerModel") (T := Fd_M) (N := 37) hx hb ht i_M hown hK.1 hP 0 rfl rfl 2 (by decide) (ht _ q_527) (fun _ h9 => h9) rfl dM_sideOf_30 ?_
  refine lv_iload_n hx hb dM_sideOf_33 rfl (lv_at hl 1 rfl) ?_
  refine va_iald hx hb hK.1 hP 2 0 rfl rfl (vp_in_iff.mpr h_1) dM_sideOf_34 ?_
  refine lv_i2l hx hb dM_sideOf_35 rfl ?_
  refine lv_lsub hx hb dM_sideOf_36 ?_
  refine lv_lload hx hb dM_sideOf_37 (lv_at hl 3 rfl) ?_
  refine lv_aload_n hx hb dM_sideOf_39 rfl (lv_at hl 0 rfl) ?_
  refine va_get (D := g.1) (ci := 6) (v := .ref (b 3)) (C := "NodeMakerModel") (T := Fd_M) (N := 37) hx hb ht i_M hown hK.1 hP 0 rfl rfl 3 (by decide) (ht _ q_528) (fun _ h9 => h9) rfl dM_sideOf_40 ?_
  refine lv_iload_n hx hb dM_sideOf_43 rfl (lv_at hl 1 rfl) ?_
  refine va_iald hx hb hK.1 hP 3 0 rfl rfl (vp_in_iff.mpr h_1) dM_sideOf_44 ?_
  refine lv_i2l hx hb dM_sideOf_45 rfl ?_
  refine lv_lsub hx hb dM_sideOf_46 ?_
  refine ro_Sl (v := sM_cross ((((mz.2.1 4) i.toNatClampNeg) - ((mz.2.1 2) i.toNatClampNeg)).toInt64) ((((mz.2.1 5) i.toNatClampNeg) - ((mz.2.1 3) i.toNatClampNeg)).toInt64) (x - (((mz.2.1 2) i.toNatClampNeg).toInt64)) (y - (((mz.2.1 3) i.toNatClampNeg).toInt64))) (As := [.long ((((mz.2.1 4) i.toNatClampNeg) - ((mz.2.1 2) i.toNatClampNeg)).toInt64), .long ((((mz.2.1 5) i.toNatClampNeg) - ((mz.2.1 3) i.toNatClampNeg)).toInt64), .long (x - (((mz.2.1 2) i.toNatClampNeg).toInt64)), .long (y - (((mz.2.1 3) i.toNatClampNeg).toInt64))]) (rest := []) ⟨hx, hb, hml, hown, ht⟩ (cM_cross l g ((((mz.2.1 4) i.toNatClampNeg) - ((mz.2.1 2) i.toNatClampNeg)).toInt64) ((((mz.2.1 5) i.toNatClampNeg) - ((mz.2.1 3) i.toNatClampNeg)).toInt64) (x - (((mz.2.1 2) i.toNatClampNeg).toInt64)) (y - (((mz.2.1 3) i.toNatClampNeg).toInt64))) (cwS 4 ht (g_S q_662 q_663 q_39 q_664) rfl rfl rfl hd_M_cross ⟨Nat.le_of_ble_eq_true rfl, Nat.le_of_ble_eq_true rfl⟩) hK (trivial) rfl hl.1 rfl (Nat.le_of_ble_eq_true rfl) dM_sideOf_47 ⟨by show 0 ≤ 0; omega, by show 0 ≤ 0; omega⟩ ?_
  simp only [sM_sideOf, if_pos h_1] at hok
  exact W.lret hx hb hr (fun t ht9 hW => ⟨_, rfl, Option.some.inj hok, ht9⟩) (fun q h => by cases h) dM_sideOf_50
def sM_isEnd (mz : MSt) (i : Int32) (x : Int32) (y : Int32) : Option Int32 :=
  if vpin i 64 then
    if ((mz.2.1 2) i.toNatClampNeg) = x then
      if ((mz.2.1 3) i.toNatClampNeg) = y then
        some 1
      else
        if ((mz.2.1 4) i.toNatClampNeg) = x then
          if ((mz.2.1 5) i.toNatClampNeg) = y then
            some 1
          else
            some 0
        else
          some 0
    else
      if ((mz.2.1 4) i.toNatClampNeg) = x then
        if ((mz.2.1 5) i.toNatClampNeg) = y then
          some 1
        else
          some 0
      else
        some 0
  else
    none
set_option maxHeartbeats 4000000 in
set_option maxRecDepth 100000 in
theorem cM_isEnd (l : Launch) (g : CX) (aM : Nat) (b : Nat → Nat) (mz : MSt) (i : Int32) (x : Int32) (y : Int32) (r0 : Int32) (hok : sM_isEnd mz i x y = some r0) : Met l yM_isEnd (wm yM_isEnd kM_isEnd 4 (some .boolean)) ({ frames := 0, cells := 0, slots := 0, locals := 0 }) (ro g [.ref aM, .int i, .int x, .int y] (va_P g.1 vwCl (mX g aM b mz))) (vp_Si (fun r => r = r0)) 0 0 (fun _ => False) := by
  refine Met.ofW (cc := kM_isEnd) (maxL := 4) (ret := (some .boolean)) (by decide) rfl ?_
  intro p e s m args below meth c s₁ B hml hv
  obtain ⟨rfl, hK, hP⟩ := hv
  have hx := B.exec
  have hb := B.bytes
  have hr := B.returns
  have ht : ∀ w ∈ wT, w.before _ s = true := fun w h => atoms_spec (ws := wm yM_isEnd kM_isEnd 4 (some .boolean)) B.pre w (List.mem_cons_of_mem _ h)
  have hown : s.vm.findClass "NodeMakerModel" = some m.cls := findClass_of_methodNamed B.named
  have hlocks := B.notSynchronized
  have hl := lv_entry ([.ref aM, .int i, .int x, .int y]) (n := 4) (Nat.le_of_ble_eq_true rfl)
  rw [lg_entry_eq]
  generalize (lg_sl ([.ref aM, .int i, .int x, .int y]) ++ List.replicate (4 - (lg_sl ([.ref aM, .int i, .int x, .int y])).length) Slot.unset).toArray = ls at hl ⊢
  have hl : lv_has ls 4 [(0, .ref aM), (1, .int i), (2, .int x), (3, .int y)] := hl
  refine lv_aload_n hx hb dM_isEnd_0 rfl (lv_at hl 0 rfl) ?_
  refine va_get (D := g.1) (ci := 6) (v := .ref (b 2)) (C := "NodeMakerModel") (T := Fd_M) (N := 37) hx hb ht i_M hown hK.1 hP 0 rfl rfl 2 (by decide) (ht _ q_527) (fun _ h9 => h9) rfl dM_isEnd_1 ?_
  refine lv_iload_n hx hb dM_isEnd_4 rfl (lv_at hl 1 rfl) ?_
  have h_2 : vpin i 64 := Decidable.byContradiction (fun h9 => by simp only [sM_isEnd, if_neg h9] at hok; cases hok)
  refine va_iald hx hb hK.1 hP 2 0 rfl rfl (vp_in_iff.mpr h_2) dM_isEnd_5 ?_
  refine lv_iload_n hx hb dM_isEnd_6 rfl (lv_at hl 2 rfl) ?_
  refine lv_icmp_ne (tgt := 20) hx hb dM_isEnd_7 (by decide) (fun c_3 => ?_) (fun c_3 => ?_)
  · skip
    refine lv_aload_n hx hb dM_isEnd_20 rfl (lv_at hl 0 rfl) ?_
    refine va_get (D := g.1) (ci := 6) (v := .ref (b 4)) (C := "NodeMakerModel") (T := Fd_M) (N := 37) hx hb ht i_M hown hK.1 hP 0 rfl rfl 4 (by decide) (ht _ q_529) (fun _ h9 => h9) rfl dM_isEnd_21 ?_
    refine lv_iload_n hx hb dM_isEnd_24 rfl (lv_at hl 1 rfl) ?_
    refine va_iald hx hb hK.1 hP 4 0 rfl rfl (vp_in_iff.mpr h_2) dM_isEnd_25 ?_
    refine lv_iload_n hx hb dM_isEnd_26 rfl (lv_at hl 2 rfl) ?_
    refine lv_icmp_ne (tgt := 44) hx hb dM_isEnd_27 (by decide) (fun c_4 => ?_) (fun c_4 => ?_)
    · skip
      refine lv_iconst (v := 0) hx hb dM_isEnd_44 (by decide) ?_
      simp only [sM_isEnd, if_pos h_2, if_neg c_3, if_neg c_4] at hok
      exact W.zret hx hb hr rfl (fun t ht9 hW => ⟨_, rfl, Option.some.inj hok, ht9⟩) (fun q h => by cases h) dM_isEnd_45
    · skip
      refine lv_aload_n hx hb dM_isEnd_30 rfl (lv_at hl 0 rfl) ?_
      refine va_get (D := g.1) (ci := 6) (v := .ref (b 5)) (C := "NodeMakerModel") (T := Fd_M) (N := 37) hx hb ht i_M hown hK.1 hP 0 rfl rfl 5 (by decide) (ht _ q_530) (fun _ h9 => h9) rfl dM_isEnd_31 ?_
      refine lv_iload_n hx hb dM_isEnd_34 rfl (lv_at hl 1 rfl) ?_
      refine va_iald hx hb hK.1 hP 5 0 rfl rfl (vp_in_iff.mpr h_2) dM_isEnd_35 ?_
      refine lv_iload_n hx hb dM_isEnd_36 rfl (lv_at hl 3 rfl) ?_
      refine lv_icmp_ne (tgt := 44) hx hb dM_isEnd_37 (by decide) (fun c_5 => ?_) (fun c_5 => ?_)
      · skip
        refine lv_iconst (v := 0) hx hb dM_isEnd_44 (by decide) ?_
        simp only [sM_isEnd, if_pos h_2, if_neg c_3, if_pos c_4, if_neg c_5] at hok
        exact W.zret hx hb hr rfl (fun t ht9 hW => ⟨_, rfl, Option.some.inj hok, ht9⟩) (fun q h => by cases h) dM_isEnd_45
      · skip
        refine lv_iconst (v := 1) hx hb dM_isEnd_40 (by decide) ?_
        refine lv_goto (tgt := 45) hx hb dM_isEnd_41 (by decide) ?_
        simp only [sM_isEnd, if_pos h_2, if_neg c_3, if_pos c_4, if_pos c_5] at hok
        exact W.zret hx hb hr rfl (fun t ht9 hW => ⟨_, rfl, Option.some.inj hok, ht9⟩) (fun q h => by cases h) dM_isEnd_45
  · skip
    refine lv_aload_n hx hb dM_isEnd_10 rfl (lv_at hl 0 rfl) ?_
    refine va_get (D := g.1) (ci := 6) (v := .ref (b 3)) (C := "NodeMakerModel") (T := Fd_M) (N := 37) hx hb ht i_M hown hK.1 hP 0 rfl rfl 3 (by decide) (ht _ q_528) (fun _ h9 => h9) rfl dM_isEnd_11 ?_
    refine lv_iload_n hx hb dM_isEnd_14 rfl (lv_at hl 1 rfl) ?_
    refine va_iald hx hb hK.1 hP 3 0 rfl rfl (vp_in_iff.mpr h_2) dM_isEnd_15 ?_
    refine lv_iload_n hx hb dM_isEnd_16 rfl (lv_at hl 3 rfl) ?_
    refine lv_icmp_eq (tgt := 40) hx hb dM_isEnd_17 (by decide) (fun c_6 => ?_) (fun c_6 => ?_)
    · skip
      refine lv_iconst (v := 1) hx hb dM_isEnd_40 (by decide) ?_
      refine lv_goto (tgt := 45) hx hb dM_isEnd_41 (by decide) ?_
      simp only [sM_isEnd, if_pos h_2, if_pos c_3, if_pos c_6] at hok
      exact W.zret hx hb hr rfl (fun t ht9 hW => ⟨_, rfl, Option.some.inj hok, ht9⟩) (fun q h => by cases h) dM_isEnd_45
    · skip
      refine lv_aload_n hx hb dM_isEnd_20 rfl (lv_at hl 0 rfl) ?_
      refine va_get (D := g.1) (ci := 6) (v := .ref (b 4)) (C := "NodeMakerModel") (T := Fd_M) (N := 37) hx hb ht i_M hown hK.1 hP 0 rfl rfl 4 (by decide) (ht _ q_529) (fun _ h9 => h9) rfl dM_isEnd_21 ?_
      refine lv_iload_n hx hb dM_isEnd_24 rfl (lv_at hl 1 rfl) ?_
      refine va_iald hx hb hK.1 hP 4 0 rfl rfl (vp_in_iff.mpr h_2) dM_isEnd_25 ?_
      refine lv_iload_n hx hb dM_isEnd_26 rfl (lv_at hl 2 rfl) ?_
      refine lv_icmp_ne (tgt := 44) hx hb dM_isEnd_27 (by decide) (fun c_7 => ?_) (fun c_7 => ?_)
      · skip
        refine lv_iconst (v := 0) hx hb dM_isEnd_44 (by decide) ?_
        simp only [sM_isEnd, if_pos h_2, if_pos c_3, if_neg c_6, if_neg c_7] at hok
        exact W.zret hx hb hr rfl (fun t ht9 hW => ⟨_, rfl, Option.some.inj hok, ht9⟩) (fun q h => by cases h) dM_isEnd_45
      · skip
        refine lv_aload_n hx hb dM_isEnd_30 rfl (lv_at hl 0 rfl) ?_
        refine va_get (D := g.1) (ci := 6) (v := .ref (b 5)) (C := "NodeMakerModel") (T := Fd_M) (N := 37) hx hb ht i_M hown hK.1 hP 0 rfl rfl 5 (by decide) (ht _ q_530) (fun _ h9 => h9) rfl dM_isEnd_31 ?_
        refine lv_iload_n hx hb dM_isEnd_34 rfl (lv_at hl 1 rfl) ?_
        refine va_iald hx hb hK.1 hP 5 0 rfl rfl (vp_in_iff.mpr h_2) dM_isEnd_35 ?_
        refine lv_iload_n hx hb dM_isEnd_36 rfl (lv_at hl 3 rfl) ?_
        refine lv_icmp_ne (tgt := 44) hx hb dM_isEnd_37 (by decide) (fun c_8 => ?_) (fun c_8 => ?_)
        · skip
          refine lv_iconst (v := 0) hx hb dM_isEnd_44 (by decide) ?_
          simp only [sM_isEnd, if_pos h_2, if_pos c_3, if_neg c_6, if_pos c_7, if_neg c_8] at hok
          exact W.zret hx hb hr rfl (fun t ht9 hW => ⟨_, rfl, Option.some.inj hok, ht9⟩) (fun q h => by cases h) dM_isEnd_45
        · skip
          refine lv_iconst (v := 1) hx hb dM_isEnd_40 (by decide) ?_
          refine lv_goto (tgt := 45) hx hb dM_isEnd_41 (by decide) ?_
          simp only [sM_isEnd, if_pos h_2, if_pos c_3, if_neg c_6, if_pos c_7, if_pos c_8] at hok
          exact W.zret hx hb hr rfl (fun t ht9 hW => ⟨_, rfl, Option.some.inj hok, ht9⟩) (fun q h => by cases h) dM_isEnd_45
