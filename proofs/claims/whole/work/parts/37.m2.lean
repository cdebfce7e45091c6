def sM_lies (mz : MSt) (i : Int32) (x : Int32) (y : Int32) : Option Int32 :=
  (match sM_isEnd mz i x y with
  | none => none
  | some r_1 => if r_1 = 0 then
      (match sM_sideOf mz i (x.toInt64) (y.toInt64) with
      | none => none
      | some r_4 => if r_4 = 0 then
          if vpin i 64 then
            if 0 ≤ ((((((mz.2.1 2) i.toNatClampNeg) - x).toInt64) * ((((mz.2.1 4) i.toNatClampNeg) - x).toInt64)) + (((((mz.2.1 3) i.toNatClampNeg) - y).toInt64) * ((((mz.2.1 5) i.toNatClampNeg) - y).toInt64))) then
              some 0
            else
              some 1
          else
            none
        else
          some 0)
    else
      some 0)
set_option maxHeartbeats 4000000 in
set_option maxRecDepth 100000 in
theorem cM_lies (l : Launch) (g : CX) (aM : Nat) (b : Nat → Nat) (mz : MSt) (i : Int32) (x : Int32) (y : Int32) (r0 : Int32) (hok : sM_lies mz i x y = some r0) : Met l yM_lies (wm yM_lies kM_lies 4 (some .boolean)) ({ frames := 2, cells := 0, slots := 0, locals := 52 }) (ro g [.ref aM, .int i, .int x, .int y] (va_P g.1 vwCl (mX g aM b mz))) (vp_Si (fun r => r = r0)) 0 0 (fun _ => False) := by
  refine Met.ofW (cc := kM_lies) (maxL := 4) (ret := (some .boolean)) (by decide) rfl ?_
  intro p e s m args below meth c s₁ B hml hv
  obtain ⟨rfl, hK, hP⟩ := hv
  have hx := B.exec
  have hb := B.bytes
  have hr := B.returns
  have ht : ∀ w ∈ wT, w.before _ s = true := fun w h => atoms_spec (ws := wm yM_lies kM_lies 4 (some .boolean)) B.pre w (List.mem_cons_of_mem _ h)
  have hown : s.vm.findClass "NodeMakerModel" = some m.cls := findClass_of_methodNamed B.named
  have hlocks := B.notSynchronized
  have hl := lv_entry ([.ref aM, .int i, .int x, .int y]) (n := 4) (Nat.le_of_ble_eq_true rfl)
  rw [lg_entry_eq]
  generalize (lg_sl ([.ref aM, .int i, .int x, .int y]) ++ List.replicate (4 - (lg_sl ([.ref aM, .int i, .int x, .int y])).length) Slot.unset).toArray = ls at hl ⊢
  have hl : lv_has ls 4 [(0, .ref aM), (1, .int i), (2, .int x), (3, .int y)] := hl
  refine lv_aload_n hx hb dM_lies_0 rfl (lv_at hl 0 rfl) ?_
  refine lv_iload_n hx hb dM_lies_1 rfl (lv_at hl 1 rfl) ?_
  refine lv_iload_n hx hb dM_lies_2 rfl (lv_at hl 2 rfl) ?_
  refine lv_iload_n hx hb dM_lies_3 rfl (lv_at hl 3 rfl) ?_
  obtain ⟨r_1, hc_2⟩ : ∃ r9, sM_isEnd mz i x y = some r9 := by
    cases hc9 : sM_isEnd mz i x y with
    | some r9 => exact ⟨r9, rfl⟩
    | none => exfalso; simp only [sM_lies, hc9] at hok; cases hok
  refine ro_Vi (v := r_1) (As := [.int i, .int x, .int y]) (rest := []) ⟨hx, hb, hml, hown, ht⟩ (cM_isEnd l g aM b mz i x y r_1 hc_2) (cwV 3 ht (g_V q_654 q_656 q_13 q_39 q_657) rfl rfl rfl hd_M_isEnd ⟨Nat.le_of_ble_eq_true rfl, Nat.le_of_ble_eq_true rfl⟩) hK (hP) (va_recv hK.1 hP (ci := 6) (q0 := 0) rfl rfl) rfl hl.1 rfl (Nat.le_of_ble_eq_true rfl) dM_lies_4 ⟨by show 0 ≤ 0; omega, by show 0 ≤ 0; omega⟩ ?_
  refine lv_if_ne (tgt := 24) hx hb dM_lies_7 (by decide) (fun c_3 => ?_) (fun c_3 => ?_)
  · skip
    refine lv_iconst (v := 0) hx hb dM_lies_24 (by decide) ?_
    simp only [sM_lies, hc_2, if_neg c_3] at hok
    exact W.zret hx hb hr rfl (fun t ht9 hW => ⟨_, rfl, Option.some.inj hok, ht9⟩) (fun q h => by cases h) dM_lies_25
  · skip
    refine lv_aload_n hx hb dM_lies_10 rfl (lv_at hl 0 rfl) ?_
    refine lv_iload_n hx hb dM_lies_11 rfl (lv_at hl 1 rfl) ?_
    refine lv_iload_n hx hb dM_lies_12 rfl (lv_at hl 2 rfl) ?_
    refine lv_i2l hx hb dM_lies_13 rfl ?_
    refine lv_iload_n hx hb dM_lies_14 rfl (lv_at hl 3 rfl) ?_
    refine lv_i2l hx hb dM_lies_15 rfl ?_
    obtain ⟨r_4, hc_5⟩ : ∃ r9, sM_sideOf mz i (x.toInt64) (y.toInt64) = some r9 := by
      cases hc9 : sM_sideOf mz i (x.toInt64) (y.toInt64) with
      | some r9 => exact ⟨r9, rfl⟩
      | none => exfalso; simp only [sM_lies, hc_2, if_pos c_3, hc9] at hok; cases hok
    refine ro_Vl (v := r_4) (As := [.int i, .long (x.toInt64), .long (y.toInt64)]) (rest := []) ⟨hx, hb, hml, hown, ht⟩ (cM_sideOf l g aM b mz i (x.toInt64) (y.toInt64) r_4 hc_5) (cwV 3 ht (g_V q_658 q_660 q_14 q_39 q_661) rfl rfl rfl hd_M_sideOf ⟨Nat.le_of_ble_eq_true rfl, Nat.le_of_ble_eq_true rfl⟩) hK (hP) (va_recv hK.1 hP (ci := 6) (q0 := 0) rfl rfl) rfl hl.1 rfl (Nat.le_of_ble_eq_true rfl) dM_lies_16 ⟨by show 0 ≤ 0; omega, by show 0 ≤ 0; omega⟩ ?_
    refine lv_lconst (v := 0) hx hb dM_lies_19 (by decide) ?_
    refine W.lcmp hx hb dM_lies_20 ?_
    refine lv_if_eq (tgt := 26) hx hb dM_lies_21 (by decide) (fun c_6 => ?_) (fun c_6 => ?_)
    · skip
      rw [lg_cmp_eq] at c_6
      refine lv_aload_n hx hb dM_lies_26 rfl (lv_at hl 0 rfl) ?_
      refine va_get (D := g.1) (ci := 6) (v := .ref (b 2)) (C := "NodeMakerModel") (T := Fd_M) (N := 37) hx hb ht i_M hown hK.1 hP 0 rfl rfl 2 (by decide) (ht _ q_527) (fun _ h9 => h9) rfl dM_lies_27 ?_
      refine lv_iload_n hx hb dM_lies_30 rfl (lv_at hl 1 rfl) ?_
      have h_7 : vpin i 64 := Decidable.byContradiction (fun h9 => by simp only [sM_lies, hc_2, if_pos c_3, hc_5, if_pos c_6, if_neg h9] at hok; cases hok)
      refine va_iald hx hb hK.1 hP 2 0 rfl rfl (vp_in_iff.mpr h_7) dM_lies_31 ?_
      refine lv_iload_n hx hb dM_lies_32 rfl (lv_at hl 2 rfl) ?_
      refine lv_isub hx hb dM_lies_33 ?_
      refine lv_i2l hx hb dM_lies_34 rfl ?_
      refine lv_aload_n hx hb dM_lies_35 rfl (lv_at hl 0 rfl) ?_
      refine va_get (D := g.1) (ci := 6) (v := .ref (b 4)) (C := "NodeMakerModel") (T := Fd_M) (N := 37) hx hb ht i_M hown hK.1 hP 0 rfl rfl 4 (by decide) (ht _ q_529) (fun _ h9 => h9) rfl dM_lies_36 ?_
      refine lv_iload_n hx hb dM_lies_39 rfl (lv_at hl 1 rfl) ?_
      refine va_iald hx hb hK.1 hP 4 0 rfl rfl (vp_in_iff.mpr h_7) dM_lies_40 ?_
      refine lv_iload_n hx hb dM_lies_41 rfl (lv_at hl 2 rfl) ?_
      refine lv_isub hx hb dM_lies_42 ?_
      refine lv_i2l hx hb dM_lies_43 rfl ?_
      refine lv_lmul hx hb dM_lies_44 ?_
      refine lv_aload_n hx hb dM_lies_45 rfl (lv_at hl 0 rfl) ?_
      refine va_get (D := g.1) (ci := 6) (v := .ref (b 3)) (C := "NodeMakerModel") (T := Fd_M) (N := 37) hx hb ht i_M hown hK.1 hP 0 rfl rfl 3 (by decide) (ht _ q_528) (fun _ h9 => h9) rfl dM_lies_46 ?_
      refine lv_iload_n hx hb dM_lies_49 rfl (lv_at hl 1 rfl) ?_
      refine va_iald hx hb hK.1 hP 3 0 rfl rfl (vp_in_iff.mpr h_7) dM_lies_50 ?_
      refine lv_iload_n hx hb dM_lies_51 rfl (lv_at hl 3 rfl) ?_
      refine lv_isub hx hb dM_lies_52 ?_
      refine lv_i2l hx hb dM_lies_53 rfl ?_
      refine lv_aload_n hx hb dM_lies_54 rfl (lv_at hl 0 rfl) ?_
      refine va_get (D := g.1) (ci := 6) (v := .ref (b 5)) (C := "NodeMakerModel") (T := Fd_M) (N := 37) hx hb ht i_M hown hK.1 hP 0 rfl rfl 5 (by decide) (ht _ q_530) (fun _ h9 => h9) rfl dM_lies_55 ?_
      refine lv_iload_n hx hb dM_lies_58 rfl (lv_at hl 1 rfl) ?_
      refine va_iald hx hb hK.1 hP 5 0 rfl rfl (vp_in_iff.mpr h_7) dM_lies_59 ?_
      refine lv_iload_n hx hb dM_lies_60 rfl (lv_at hl 3 rfl) ?_
      refine lv_isub hx hb dM_lies_61 ?_
      refine lv_i2l hx hb dM_lies_62 rfl ?_
      refine lv_lmul hx hb dM_lies_63 ?_
      refine lv_ladd hx hb dM_lies_64 ?_
      refine lv_lconst (v := 0) hx hb dM_lies_65 (by decide) ?_
      refine W.lcmp hx hb dM_lies_66 ?_
      refine lv_if_ge (tgt := 74) hx hb dM_lies_67 (by decide) (fun c_8 => ?_) (fun c_8 => ?_)
      · skip
        rw [lg_cmp_ge] at c_8
        refine lv_iconst (v := 0) hx hb dM_lies_74 (by decide) ?_
        simp only [sM_lies, hc_2, if_pos c_3, hc_5, if_pos c_6, if_pos h_7, if_pos c_8] at hok
        exact W.zret hx hb hr rfl (fun t ht9 hW => ⟨_, rfl, Option.some.inj hok, ht9⟩) (fun q h => by cases h) dM_lies_75
      · skip
        rw [lg_cmp_ge] at c_8
        refine lv_iconst (v := 1) hx hb dM_lies_70 (by decide) ?_
        refine lv_goto (tgt := 75) hx hb dM_lies_71 (by decide) ?_
        simp only [sM_lies, hc_2, if_pos c_3, hc_5, if_pos c_6, if_pos h_7, if_neg c_8] at hok
        exact W.zret hx hb hr rfl (fun t ht9 hW => ⟨_, rfl, Option.some.inj hok, ht9⟩) (fun q h => by cases h) dM_lies_75
    · skip
      rw [lg_cmp_eq] at c_6
      refine lv_iconst (v := 0) hx hb dM_lies_24 (by decide) ?_
      simp only [sM_lies, hc_2, if_pos c_3, hc_5, if_neg c_6] at hok
      exact W.zret hx hb hr rfl (fun t ht9 hW => ⟨_, rfl, Option.some.inj hok, ht9⟩) (fun q h => by cases h) dM_lies_25
def sM_isWall (mz : MSt) (i : Int32) : Option Int32 :=
  if i < 0 then
    some 0
  else
    if 64 ≤ i then
      some 0
    else
      if vpin i 64 then
        if ((mz.2.1 1) i.toNatClampNeg) = 0 then
          some 0
        else
          some 1
      else
        none
set_option maxHeartbeats 4000000 in
set_option maxRecDepth 100000 in
theorem cM_isWall (l : Launch) (g : CX) (aM : Nat) (b : Nat → Nat) (mz : MSt) (i : Int32) (r0 : Int32) (hok : sM_isWall mz i = some r0) : Met l yM_isWall (wm yM_isWall kM_isWall 2 (some .boolean)) ({ frames := 0, cells := 0, slots := 0, locals := 0 }) (ro g [.ref aM, .int i] (va_P g.1 vwCl (mX g aM b mz))) (vp_Si (fun r => r = r0)) 0 0 (fun _ => False) := by
  refine Met.ofW (cc := kM_isWall) (maxL := 2) (ret := (some .boolean)) (by decide) rfl ?_
  intro p e s m args below meth c s₁ B hml hv
  obtain ⟨rfl, hK, hP⟩ := hv
  have hx := B.exec
  have hb := B.bytes
  have hr := B.returns
  have ht : ∀ w ∈ wT, w.before _ s = true := fun w h => atoms_spec (ws := wm yM_isWall kM_isWall 2 (some .boolean)) B.pre w (List.mem_cons_of_mem _ h)
  have hown : s.vm.findClass "NodeMakerModel" = some m.cls := findClass_of_methodNamed B.named
  have hlocks := B.notSynchronized
  have hl := lv_entry ([.ref aM, .int i]) (n := 2) (Nat.le_of_ble_eq_true rfl)
  rw [lg_entry_eq]
  generalize (lg_sl ([.ref aM, .int i]) ++ List.replicate (2 - (lg_sl ([.ref aM, .int i])).length) Slot.unset).toArray = ls at hl ⊢
  have hl : lv_has ls 2 [(0, .ref aM), (1, .int i)] := hl
  refine lv_iload_n hx hb dM_isWall_0 rfl (lv_at hl 1 rfl) ?_
  refine lv_if_lt (tgt := 23) hx hb dM_isWall_1 (by decide) (fun c_9 => ?_) (fun c_9 => ?_)
  · skip
    refine lv_iconst (v := 0) hx hb dM_isWall_23 (by decide) ?_
    simp only [sM_isWall, if_pos c_9] at hok
    exact W.zret hx hb hr rfl (fun t ht9 hW => ⟨_, rfl, Option.some.inj hok, ht9⟩) (fun q h => by cases h) dM_isWall_24
  · skip
    refine lv_iload_n hx hb dM_isWall_4 rfl (lv_at hl 1 rfl) ?_
    refine lv_bipush (v := 64) hx hb dM_isWall_5 (by decide) ?_
    refine lv_icmp_ge (tgt := 23) hx hb dM_isWall_7 (by decide) (fun c_10 => ?_) (fun c_10 => ?_)
    · skip
      refine lv_iconst (v := 0) hx hb dM_isWall_23 (by decide) ?_
      simp only [sM_isWall, if_neg c_9, if_pos c_10] at hok
      exact W.zret hx hb hr rfl (fun t ht9 hW => ⟨_, rfl, Option.some.inj hok, ht9⟩) (fun q h => by cases h) dM_isWall_24
    · skip
      refine lv_aload_n hx hb dM_isWall_10 rfl (lv_at hl 0 rfl) ?_
      refine va_get (D := g.1) (ci := 6) (v := .ref (b 1)) (C := "NodeMakerModel") (T := Fd_M) (N := 37) hx hb ht i_M hown hK.1 hP 0 rfl rfl 1 (by decide) (ht _ q_526) (fun _ h9 => h9) rfl dM_isWall_11 ?_
      refine lv_iload_n hx hb dM_isWall_14 rfl (lv_at hl 1 rfl) ?_
      have h_11 : vpin i 64 := Decidable.byContradiction (fun h9 => by simp only [sM_isWall, if_neg c_9, if_neg c_10, if_neg h9] at hok; cases hok)
      refine va_zald hx hb hK.1 hP 1 3 rfl rfl (vp_in_iff.mpr h_11) dM_isWall_15 ?_
      refine lv_if_eq (tgt := 23) hx hb dM_isWall_16 (by decide) (fun c_12 => ?_) (fun c_12 => ?_)
      · skip
        refine lv_iconst (v := 0) hx hb dM_isWall_23 (by decide) ?_
        simp only [sM_isWall, if_neg c_9, if_neg c_10, if_pos h_11, if_pos c_12] at hok
        exact W.zret hx hb hr rfl (fun t ht9 hW => ⟨_, rfl, Option.some.inj hok, ht9⟩) (fun q h => by cases h) dM_isWall_24
      · skip
        refine lv_iconst (v := 1) hx hb dM_isWall_19 (by decide) ?_
        refine lv_goto (tgt := 24) hx hb dM_isWall_20 (by decide) ?_
        simp only [sM_isWall, if_neg c_9, if_neg c_10, if_pos h_11, if_neg c_12] at hok
        exact W.zret hx hb hr rfl (fun t ht9 hW => ⟨_, rfl, Option.some.inj hok, ht9⟩) (fun q h => by cases h) dM_isWall_24
def sM_sideAt (mz : MSt) (ln : Int32) (i : Int32) (up : Int64) (lo : Int64) : Option Int32 :=
  if vpin i 64 then
    (match sM_sideOf mz ln (((mz.2.1 2) i.toNatClampNeg).toInt64) (((mz.2.1 3) i.toNatClampNeg).toInt64) with
    | none => none
    | some r_14 => (match sM_sideOf mz ln (((mz.2.1 4) i.toNatClampNeg).toInt64) (((mz.2.1 5) i.toNatClampNeg).toInt64) with
      | none => none
      | some r_16 => some (sM_order r_14 (lo - up) (-r_16) up)))
  else
    none
set_option maxHeartbeats 4000000 in
set_option maxRecDepth 100000 in
theorem cM_sideAt (l : Launch) (g : CX) (aM : Nat) (b : Nat → Nat) (mz : MSt) (ln : Int32) (i : Int32) (up : Int64) (lo : Int64) (r0 : Int32) (hok : sM_sideAt mz ln i up lo = some r0) : Met l yM_sideAt (wm yM_sideAt kM_sideAt 11 (some .int)) ({ frames := 2, cells := 0, slots := 0, locals := 74 }) (ro g [.ref aM, .int ln, .int i, .long up, .long lo] (va_P g.1 vwCl (mX g aM b mz))) (vp_Si (fun r => r = r0)) 0 0 (fun _ => False) := by
  refine Met.ofW (cc := kM_sideAt) (maxL := 11) (ret := (some .int)) (by decide) rfl ?_
  intro p e s m args below meth c s₁ B hml hv
  obtain ⟨rfl, hK, hP⟩ := hv
  have hx := B.exec
  have hb := B.bytes
  have hr := B.returns
  have ht : ∀ w ∈ wT, w.before _ s = true := fun w h => atoms_spec (ws := wm yM_sideAt kM_sideAt 11 (some .int)) B.pre w (List.mem_cons_of_mem _ h)
  have hown : s.vm.findClass "NodeMakerModel" = some m.cls := findClass_of_methodNamed B.named
  have hlocks := B.notSynchronized
  have hl := lv_entry ([.ref aM, .int ln, .int i, .long up, .long lo]) (n := 11) (Nat.le_of_ble_eq_true rfl)
  rw [lg_entry_eq]
  generalize (lg_sl ([.ref aM, .int ln, .int i, .long up, .long lo]) ++ List.replicate (11 - (lg_sl ([.ref aM, .int ln, .int i, .long up, .long lo])).length) Slot.unset).toArray = ls at hl ⊢
  have hl : lv_has ls 11 [(0, .ref aM), (1, .int ln), (2, .int i), (3, .long up), (5, .long lo)] := hl
  refine lv_aload_n hx hb dM_sideAt_0 rfl (lv_at hl 0 rfl) ?_
  refine lv_iload_n hx hb dM_sideAt_1 rfl (lv_at hl 1 rfl) ?_
  refine lv_aload_n hx hb dM_sideAt_2 rfl (lv_at hl 0 rfl) ?_
  refine va_get (D := g.1) (ci := 6) (v := .ref (b 2)) (C := "NodeMakerModel") (T := Fd_M) (N := 37) hx hb ht i_M hown hK.1 hP 0 rfl rfl 2 (by decide) (ht _ q_527) (fun _ h9 => h9) rfl dM_sideAt_3 ?_
  refine lv_iload_n hx hb dM_sideAt_6 rfl (lv_at hl 2 rfl) ?_
  have h_13 : vpin i 64 := Decidable.byContradiction (fun h9 => by simp only [sM_sideAt, if_neg h9] at hok; cases hok)
  refine va_iald hx hb hK.1 hP 2 0 rfl rfl (vp_in_iff.mpr h_13) dM_sideAt_7 ?_
  refine lv_i2l hx hb dM_sideAt_8 rfl ?_
  refine lv_aload_n hx hb dM_sideAt_9 rfl (lv_at hl 0 rfl) ?_
  refine va_get (D := g.1) (ci := 6) (v := .ref (b 3)) (C := "NodeMakerModel") (T := Fd_M) (N := 37) hx hb ht i_M hown hK.1 hP 0 rfl rfl 3 (by decide) (ht _ q_528) (fun _ h9 => h9) rfl dM_sideAt_10 ?_
  refine lv_iload_n hx hb dM_sideAt_13 rfl (lv_at hl 2 rfl) ?_
  refine va_iald hx hb hK.1 hP 3 0 rfl rfl (vp_in_iff.mpr h_13) dM_sideAt_14 ?_
  refine lv_i2l hx hb dM_sideAt_15 rfl ?_
  obtain ⟨r_14, hc_15⟩ : ∃ r9, sM_sideOf mz ln (((mz.2.1 2) i.toNatClampNeg).toInt64) (((mz.2.1 3) i.toNatClampNeg).toInt64) = some r9 := by
    cases hc9 : sM_sideOf mz ln (((mz.2.1 2) i.toNatClampNeg).toInt64) (((mz.2.1 3) i.toNatClampNeg).toInt64) with
    | some r9 => exact ⟨r9, rfl⟩
    | none => exfalso; simp only [sM_sideAt, if_pos h_13, hc9] at hok; cases hok
  refine ro_Vl (v := r_14) (As := [.int ln, .long (((mz.2.1 2) i.toNatClampNeg).toInt64), .long (((mz.2.1 3) i.toNatClampNeg).toInt64)]) (rest := []) ⟨hx, hb, hml, hown, ht⟩ (cM_sideOf l g aM b mz ln (((mz.2.1 2) i.toNatClampNeg).toInt64) (((mz.2.1 3) i.toNatClampNeg).toInt64) r_14 hc_15) (cwV 3 ht (g_V q_658 q_660 q_14 q_39 q_661) rfl rfl rfl hd_M_sideOf ⟨Nat.le_of_ble_eq_true rfl, Nat.le_of_ble_eq_true rfl⟩) hK (hP) (va_recv hK.1 hP (ci := 6) (q0 := 0) rfl rfl) rfl hl.1 rfl (Nat.le_of_ble_eq_true rfl) dM_sideAt_16 ⟨by show 0 ≤ 0; omega, by show 0 ≤ 0; omega⟩ ?_
  refine lv_lstore (lv' := [(7, .long r_14), (0, .ref aM), (1, .int ln), (2, .int i), (3, .long up), (5, .long lo)]) hx hb dM_sideAt_19 hl (by decide) rfl (fun ls hl => ?_)
  refine lv_aload_n hx hb dM_sideAt_21 rfl (lv_at hl 1 rfl) ?_
  refine lv_iload_n hx hb dM_sideAt_22 rfl (lv_at hl 2 rfl) ?_
  refine lv_aload_n hx hb dM_sideAt_23 rfl (lv_at hl 1 rfl) ?_
  refine va_get (D := g.1) (ci := 6) (v := .ref (b 4)) (C := "NodeMakerModel") (T := Fd_M) (N := 37) hx hb ht i_M hown hK.1 hP 0 rfl rfl 4 (by decide) (ht _ q_529) (fun _ h9 => h9) rfl dM_sideAt_24 ?_
  refine lv_iload_n hx hb dM_sideAt_27 rfl (lv_at hl 3 rfl) ?_
  refine va_iald hx hb hK.1 hP 4 0 rfl rfl (vp_in_iff.mpr h_13) dM_sideAt_28 ?_
  refine lv_i2l hx hb dM_sideAt_29 rfl ?_
  refine lv_aload_n hx hb dM_sideAt_30 rfl (lv_at hl 1 rfl) ?_
  refine va_get (D := g.1) (ci := 6) (v := .ref (b 5)) (C := "NodeMakerModel") (T := Fd_M) (N := 37) hx hb ht i_M hown hK.1 hP 0 rfl rfl 5 (by decide) (ht _ q_530) (fun _ h9 => h9) rfl dM_sideAt_31 ?_
  refine lv_iload_n hx hb dM_sideAt_34 rfl (lv_at hl 3 rfl) ?_
  refine va_iald hx hb hK.1 hP 5 0 rfl rfl (vp_in_iff.mpr h_13) dM_sideAt_35 ?_
  refine lv_i2l hx hb dM_sideAt_36 rfl ?_
  obtain ⟨r_16, hc_17⟩ : ∃ r9, sM_sideOf mz ln (((mz.2.1 4) i.toNatClampNeg).toInt64) (((mz.2.1 5) i.toNatClampNeg).toInt64) = some r9 := by
    cases hc9 : sM_sideOf mz ln (((mz.2.1 4) i.toNatClampNeg).toInt64) (((mz.2.1 5) i.toNatClampNeg).toInt64) with
    | some r9 => exact ⟨r9, rfl⟩
    | none => exfalso; simp only [sM_sideAt, if_pos h_13, hc_15, hc9] at hok; cases hok
  refine ro_Vl (v := r_16) (As := [.int ln, .long (((mz.2.1 4) i.toNatClampNeg).toInt64), .long (((mz.2.1 5) i.toNatClampNeg).toInt64)]) (rest := []) ⟨hx, hb, hml, hown, ht⟩ (cM_sideOf l g aM b mz ln (((mz.2.1 4) i.toNatClampNeg).toInt64) (((mz.2.1 5) i.toNatClampNeg).toInt64) r_16 hc_17) (cwV 3 ht (g_V q_658 q_660 q_14 q_39 q_661) rfl rfl rfl hd_M_sideOf ⟨Nat.le_of_ble_eq_true rfl, Nat.le_of_ble_eq_true rfl⟩) hK (hP) (va_recv hK.1 hP (ci := 6) (q0 := 0) rfl rfl) rfl hl.1 rfl (Nat.le_of_ble_eq_true rfl) dM_sideAt_37 ⟨by show 0 ≤ 0; omega, by show 0 ≤ 0; omega⟩ ?_
  refine lv_lstore (lv' := [(9, .long r_16), (7, .long r_14), (0, .ref aM), (1, .int ln), (2, .int i), (3, .long up), (5, .long lo)]) hx hb dM_sideAt_40 hl (by decide) rfl (fun ls hl => ?_)
  refine lv_lload hx hb dM_sideAt_42 (lv_at hl 1 rfl) ?_
  refine lv_lload hx hb dM_sideAt_44 (lv_at hl 6 rfl) ?_
  refine lv_lload_n hx hb dM_sideAt_46 rfl (lv_at hl 5 rfl) ?_
  refine lv_lsub hx hb dM_sideAt_47 ?_
  refine lv_lload hx hb dM_sideAt_48 (lv_at hl 0 rfl) ?_
  refine lv_lneg hx hb dM_sideAt_50 ?_
  refine lv_lload_n hx hb dM_sideAt_51 rfl (lv_at hl 5 rfl) ?_
  refine ro_Si (v := sM_order r_14 (lo - up) (-r_16) up) (As := [.long r_14, .long (lo - up), .long (-r_16), .long up]) (rest := []) ⟨hx, hb, hml, hown, ht⟩ (cM_order l g r_14 (lo - up) (-r_16) up) (cwS 4 ht (g_S q_725 q_726 q_39 q_727) rfl rfl rfl hd_M_order ⟨Nat.le_of_ble_eq_true rfl, Nat.le_of_ble_eq_true rfl⟩) hK (trivial) rfl hl.1 rfl (Nat.le_of_ble_eq_true rfl) dM_sideAt_52 ⟨by show 0 ≤ 0; omega, by show 0 ≤ 0; omega⟩ ?_
  simp only [sM_sideAt, if_pos h_13, hc_15, hc_17] at hok
  exact W.iret hx hb hr (fun t ht9 hW => ⟨_, rfl, Option.some.inj hok, ht9⟩) (fun q h => by cases h) dM_sideAt_55
def sM_lieOf (mz : MSt) (ln : Int32) (p9 : Int32) : Option Int32 :=
  if vpin p9 8300 then
    (match sM_sideAt mz ln ((mz.2.1 8) p9.toNatClampNeg) ((mz.2.2 9) p9.toNatClampNeg) ((mz.2.2 10) p9.toNatClampNeg) with
    | none => none
    | some r_19 => (match sM_sideAt mz ln ((mz.2.1 8) p9.toNatClampNeg) ((mz.2.2 11) p9.toNatClampNeg) ((mz.2.2 12) p9.toNatClampNeg) with
      | none => none
      | some r_21 => if 0 ≤ (r_19 * r_21) then
          if r_19 = 0 then
            some r_21
          else
            some r_19
        else
          some 2))
  else
    none
set_option maxHeartbeats 4000000 in
set_option maxRecDepth 100000 in
theorem cM_lieOf (l : Launch) (g : CX) (aM : Nat) (b : Nat → Nat) (mz : MSt) (ln : Int32) (p9 : Int32) (r0 : Int32) (hok : sM_lieOf mz ln p9 = some r0) : Met l yM_lieOf (wm yM_lieOf kM_lieOf 6 (some .int)) ({ frames := 3, cells := 0, slots := 0, locals := 104 }) (ro g [.ref aM, .int ln, .int p9] (va_P g.1 vwCl (mX g aM b mz))) (vp_Si (fun r => r = r0)) 0 0 (fun _ => False) := by
  refine Met.ofW (cc := kM_lieOf) (maxL := 6) (ret := (some .int)) (by decide) rfl ?_
  intro p e s m args below meth c s₁ B hml hv
  obtain ⟨rfl, hK, hP⟩ := hv
  have hx := B.exec
  have hb := B.bytes
  have hr := B.returns
  have ht : ∀ w ∈ wT, w.before _ s = true := fun w h => atoms_spec (ws := wm yM_lieOf kM_lieOf 6 (some .int)) B.pre w (List.mem_cons_of_mem _ h)
  have hown : s.vm.findClass "NodeMakerModel" = some m.cls := findClass_of_methodNamed B.named
  have hlocks := B.notSynchronized
  have hl := lv_entry ([.ref aM, .int ln, .int p9]) (n := 6) (Nat.le_of_ble_eq_true rfl)
  rw [lg_entry_eq]
  generalize (lg_sl ([.ref aM, .int ln, .int p9]) ++ List.replicate (6 - (lg_sl ([.ref aM, .int ln, .int p9])).length) Slot.unset).toArray = ls at hl ⊢
  have hl : lv_has ls 6 [(0, .ref aM), (1, .int ln), (2, .int p9)] := hl
  refine lv_aload_n hx hb dM_lieOf_0 rfl (lv_at hl 0 rfl) ?_
  refine va_get (D := g.1) (ci := 6) (v := .ref (b 8)) (C := "NodeMakerModel") (T := Fd_M) (N := 37) hx hb ht i_M hown hK.1 hP 0 rfl rfl 8 (by decide) (ht _ q_533) (fun _ h9 => h9) rfl dM_lieOf_1 ?_
  refine lv_iload_n hx hb dM_lieOf_4 rfl (lv_at hl 2 rfl) ?_
  have h_18 : vpin p9 8300 := Decidable.byContradiction (fun h9 => by simp only [sM_lieOf, if_neg h9] at hok; cases hok)
  refine va_iald hx hb hK.1 hP 6 0 rfl rfl (vp_in_iff.mpr h_18) dM_lieOf_5 ?_
  refine lv_istore_n (lv' := [(3, .int ((mz.2.1 8) p9.toNatClampNeg)), (0, .ref aM), (1, .int ln), (2, .int p9)]) hx hb dM_lieOf_6 rfl hl (by decide) rfl (fun ls hl => ?_)
  refine lv_aload_n hx hb dM_lieOf_7 rfl (lv_at hl 1 rfl) ?_
  refine lv_iload_n hx hb dM_lieOf_8 rfl (lv_at hl 2 rfl) ?_
  refine lv_iload_n hx hb dM_lieOf_9 rfl (lv_at hl 0 rfl) ?_
  refine lv_aload_n hx hb dM_lieOf_10 rfl (lv_at hl 1 rfl) ?_
  refine va_get (D := g.1) (ci := 6) (v := .ref (b 9)) (C := "NodeMakerModel") (T := Fd_M) (N := 37) hx hb ht i_M hown hK.1 hP 0 rfl rfl 9 (by decide) (ht _ q_534) (fun _ h9 => h9) rfl dM_lieOf_11 ?_
  refine lv_iload_n hx hb dM_lieOf_14 rfl (lv_at hl 3 rfl) ?_
  refine va_lald hx hb hK.1 hP 7 2 rfl rfl (vp_in_iff.mpr h_18) dM_lieOf_15 ?_
  refine lv_aload_n hx hb dM_lieOf_16 rfl (lv_at hl 1 rfl) ?_
  refine va_get (D := g.1) (ci := 6) (v := .ref (b 10)) (C := "NodeMakerModel") (T := Fd_M) (N := 37) hx hb ht i_M hown hK.1 hP 0 rfl rfl 10 (by decide) (ht _ q_535) (fun _ h9 => h9) rfl dM_lieOf_17 ?_
  refine lv_iload_n hx hb dM_lieOf_20 rfl (lv_at hl 3 rfl) ?_
  refine va_lald hx hb hK.1 hP 8 2 rfl rfl (vp_in_iff.mpr h_18) dM_lieOf_21 ?_
  obtain ⟨r_19, hc_20⟩ : ∃ r9, sM_sideAt mz ln ((mz.2.1 8) p9.toNatClampNeg) ((mz.2.2 9) p9.toNatClampNeg) ((mz.2.2 10) p9.toNatClampNeg) = some r9 := by
    cases hc9 : sM_sideAt mz ln ((mz.2.1 8) p9.toNatClampNeg) ((mz.2.2 9) p9.toNatClampNeg) ((mz.2.2 10) p9.toNatClampNeg) with
    | some r9 => exact ⟨r9, rfl⟩
    | none => exfalso; simp only [sM_lieOf, if_pos h_18, hc9] at hok; cases hok
  refine ro_Vi (v := r_19) (As := [.int ln, .int ((mz.2.1 8) p9.toNatClampNeg), .long ((mz.2.2 9) p9.toNatClampNeg), .long ((mz.2.2 10) p9.toNatClampNeg)]) (rest := []) ⟨hx, hb, hml, hown, ht⟩ (cM_sideAt l g aM b mz ln ((mz.2.1 8) p9.toNatClampNeg) ((mz.2.2 9) p9.toNatClampNeg) ((mz.2.2 10) p9.toNatClampNeg) r_19 hc_20) (cwV 4 ht (g_V q_721 q_723 q_25 q_39 q_724) rfl rfl rfl hd_M_sideAt ⟨Nat.le_of_ble_eq_true rfl, Nat.le_of_ble_eq_true rfl⟩) hK (hP) (va_recv hK.1 hP (ci := 6) (q0 := 0) rfl rfl) rfl hl.1 rfl (Nat.le_of_ble_eq_true rfl) dM_lieOf_22 ⟨by show 0 ≤ 0; omega, by show 0 ≤ 0; omega⟩ ?_
  refine lv_istore (lv' := [(4, .int r_19), (3, .int ((mz.2.1 8) p9.toNatClampNeg)), (0, .ref aM), (1, .int ln), (2, .int p9)]) hx hb dM_lieOf_25 hl (by decide) rfl (fun ls hl => ?_)
  refine lv_aload_n hx hb dM_lieOf_27 rfl (lv_at hl 2 rfl) ?_
  refine lv_iload_n hx hb dM_lieOf_28 rfl (lv_at hl 3 rfl) ?_
  refine lv_iload_n hx hb dM_lieOf_29 rfl (lv_at hl 1 rfl) ?_
  refine lv_aload_n hx hb dM_lieOf_30 rfl (lv_at hl 2 rfl) ?_
  refine va_get (D := g.1) (ci := 6) (v := .ref (b 11)) (C := "NodeMakerModel") (T := Fd_M) (N := 37) hx hb ht i_M hown hK.1 hP 0 rfl rfl 11 (by decide) (ht _ q_536) (fun _ h9 => h9) rfl dM_lieOf_31 ?_
  refine lv_iload_n hx hb dM_lieOf_34 rfl (lv_at hl 4 rfl) ?_
  refine va_lald hx hb hK.1 hP 9 2 rfl rfl (vp_in_iff.mpr h_18) dM_lieOf_35 ?_
  refine lv_aload_n hx hb dM_lieOf_36 rfl (lv_at hl 2 rfl) ?_
  refine va_get (D := g.1) (ci := 6) (v := .ref (b 12)) (C := "NodeMakerModel") (T := Fd_M) (N := 37) hx hb ht i_M hown hK.1 hP 0 rfl rfl 12 (by decide) (ht _ q_537) (fun _ h9 => h9) rfl dM_lieOf_37 ?_
  refine lv_iload_n hx hb dM_lieOf_40 rfl (lv_at hl 4 rfl) ?_
  refine va_lald hx hb hK.1 hP 10 2 rfl rfl (vp_in_iff.mpr h_18) dM_lieOf_41 ?_
  obtain ⟨r_21, hc_22⟩ : ∃ r9, sM_sideAt mz ln ((mz.2.1 8) p9.toNatClampNeg) ((mz.2.2 11) p9.toNatClampNeg) ((mz.2.2 12) p9.toNatClampNeg) = some r9 := by
    cases hc9 : sM_sideAt mz ln ((mz.2.1 8) p9.toNatClampNeg) ((mz.2.2 11) p9.toNatClampNeg) ((mz.2.2 12) p9.toNatClampNeg) with
    | some r9 => exact ⟨r9, rfl⟩
    | none => exfalso; simp only [sM_lieOf, if_pos h_18, hc_20, hc9] at hok; cases hok
  refine ro_Vi (v := r_21) (As := [.int ln, .int ((mz.2.1 8) p9.toNatClampNeg), .long ((mz.2.2 11) p9.toNatClampNeg), .long ((mz.2.2 12) p9.toNatClampNeg)]) (rest := []) ⟨hx, hb, hml, hown, ht⟩ (cM_sideAt l g aM b mz ln ((mz.2.1 8) p9.toNatClampNeg) ((mz.2.2 11) p9.toNatClampNeg) ((mz.2.2 12) p9.toNatClampNeg) r_21 hc_22) (cwV 4 ht (g_V q_721 q_723 q_25 q_39 q_724) rfl rfl rfl hd_M_sideAt ⟨Nat.le_of_ble_eq_true rfl, Nat.le_of_ble_eq_true rfl⟩) hK (hP) (va_recv hK.1 hP (ci := 6) (q0 := 0) rfl rfl) rfl hl.1 rfl (Nat.le_of_ble_eq_true rfl) dM_lieOf_42 ⟨by show 0 ≤ 0; omega, by show 0 ≤ 0; omega⟩ ?_
  refine lv_istore (lv' := [(5, .int r_21), (4, .int r_19), (3, .int ((mz.2.1 8) p9.toNatClampNeg)), (0, .ref aM), (1, .int ln), (2, .int p9)]) hx hb dM_lieOf_45 hl (by decide) rfl (fun ls hl => ?_)
  refine lv_iload hx hb dM_lieOf_47 (lv_at hl 1 rfl) ?_
  refine lv_iload hx hb dM_lieOf_49 (lv_at hl 0 rfl) ?_
  refine lv_imul hx hb dM_lieOf_51 ?_
  refine lv_if_ge (tgt := 59) hx hb dM_lieOf_52 (by decide) (fun c_23 => ?_) (fun c_23 => ?_)
  · skip
    refine lv_iload hx hb dM_lieOf_59 (lv_at hl 1 rfl) ?_
    refine lv_if_eq (tgt := 69) hx hb dM_lieOf_61 (by decide) (fun c_24 => ?_) (fun c_24 => ?_)
    · skip
      refine lv_iload hx hb dM_lieOf_69 (lv_at hl 0 rfl) ?_
      simp only [sM_lieOf, if_pos h_18, hc_20, hc_22, if_pos c_23, if_pos c_24] at hok
      exact W.iret hx hb hr (fun t ht9 hW => ⟨_, rfl, Option.some.inj hok, ht9⟩) (fun q h => by cases h) dM_lieOf_71
    · skip
      refine lv_iload hx hb dM_lieOf_64 (lv_at hl 1 rfl) ?_
      refine lv_goto (tgt := 71) hx hb dM_lieOf_66 (by decide) ?_
      simp only [sM_lieOf, if_pos h_18, hc_20, hc_22, if_pos c_23, if_neg c_24] at hok
      exact W.iret hx hb hr (fun t ht9 hW => ⟨_, rfl, Option.some.inj hok, ht9⟩) (fun q h => by cases h) dM_lieOf_71
  · skip
    refine lv_iconst (v := 2) hx hb dM_lieOf_55 (by decide) ?_
    refine lv_goto (tgt := 71) hx hb dM_lieOf_56 (by decide) ?_
    simp only [sM_lieOf, if_pos h_18, hc_20, hc_22, if_neg c_23] at hok
    exact W.iret hx hb hr (fun t ht9 hW => ⟨_, rfl, Option.some.inj hok, ht9⟩) (fun q h => by cases h) dM_lieOf_71
def sM_isLeft (mz : MSt) (k : Int32) (x : Int32) (y : Int32) : Option Int32 :=
  if vpin k 4200 then
    (match sM_sideOf mz ((mz.2.1 21) k.toNatClampNeg) (x.toInt64) (y.toInt64) with
    | none => none
    | some r_26 => if r_26 ≤ 0 then
        some 0
      else
        some 1)
  else
    none
set_option maxHeartbeats 4000000 in
set_option maxRecDepth 100000 in
theorem cM_isLeft (l : Launch) (g : CX) (aM : Nat) (b : Nat → Nat) (mz : MSt) (k : Int32) (x : Int32) (y : Int32) (r0 : Int32) (hok : sM_isLeft mz k x y = some r0) : Met l yM_isLeft (wm yM_isLeft kM_isLeft 4 (some .boolean)) ({ frames := 2, cells := 0, slots := 0, locals := 52 }) (ro g [.ref aM, .int k, .int x, .int y] (va_P g.1 vwCl (mX g aM b mz))) (vp_Si (fun r => r = r0)) 0 0 (fun _ => False) := by
  refine Met.ofW (cc := kM_isLeft) (maxL := 4) (ret := (some .boolean)) (by decide) rfl ?_
  intro p e s m args below meth c s₁ B hml hv
  obtain ⟨rfl, hK, hP⟩ := hv
  have hx := B.exec
  have hb := B.bytes
  have hr := B.returns
  have ht : ∀ w ∈ wT, w.before _ s = true := fun w h => atoms_spec (ws := wm yM_isLeft kM_isLeft 4 (some .boolean)) B.pre w (List.mem_cons_of_mem _ h)
  have hown : s.vm.findClass "NodeMakerModel" = some m.cls := findClass_of_methodNamed B.named
  have hlocks := B.notSynchronized
  have hl := lv_entry ([.ref aM, .int k, .int x, .int y]) (n := 4) (Nat.le_of_ble_eq_true rfl)
  rw [lg_entry_eq]
  generalize (lg_sl ([.ref aM, .int k, .int x, .int y]) ++ List.replicate (4 - (lg_sl ([.ref aM, .int k, .int x, .int y])).length) Slot.unset).toArray = ls at hl ⊢
  have hl : lv_has ls 4 [(0, .ref aM), (1, .int k), (2, .int x), (3, .int y)] := hl
  refine lv_aload_n hx hb dM_isLeft_0 rfl (lv_at hl 0 rfl) ?_
  refine lv_aload_n hx hb dM_isLeft_1 rfl (lv_at hl 0 rfl) ?_
  refine va_get (D := g.1) (ci := 6) (v := .ref (b 21)) (C := "NodeMakerModel") (T := Fd_M) (N := 37) hx hb ht i_M hown hK.1 hP 0 rfl rfl 21 (by decide) (ht _ q_546) (fun _ h9 => h9) rfl dM_isLeft_2 ?_
  refine lv_iload_n hx hb dM_isLeft_5 rfl (lv_at hl 1 rfl) ?_
  have h_25 : vpin k 4200 := Decidable.byContradiction (fun h9 => by simp only [sM_isLeft, if_neg h9] at hok; cases hok)
  refine va_iald hx hb hK.1 hP 16 0 rfl rfl (vp_in_iff.mpr h_25) dM_isLeft_6 ?_
  refine lv_iload_n hx hb dM_isLeft_7 rfl (lv_at hl 2 rfl) ?_
  refine lv_i2l hx hb dM_isLeft_8 rfl ?_
  refine lv_iload_n hx hb dM_isLeft_9 rfl (lv_at hl 3 rfl) ?_
  refine lv_i2l hx hb dM_isLeft_10 rfl ?_
  obtain ⟨r_26, hc_27⟩ : ∃ r9, sM_sideOf mz ((mz.2.1 21) k.toNatClampNeg) (x.toInt64) (y.toInt64) = some r9 := by
    cases hc9 : sM_sideOf mz ((mz.2.1 21) k.toNatClampNeg) (x.toInt64) (y.toInt64) with
    | some r9 => exact ⟨r9, rfl⟩
    | none => exfalso; simp only [sM_isLeft, if_pos h_25, hc9] at hok; cases hok
  refine ro_Vl (v := r_26) (As := [.int ((mz.2.1 21) k.toNatClampNeg), .long (x.toInt64), .long (y.toInt64)]) (rest := []) ⟨hx, hb, hml, hown, ht⟩ (cM_sideOf l g aM b mz ((mz.2.1 21) k.toNatClampNeg) (x.toInt64) (y.toInt64) r_26 hc_27) (cwV 3 ht (g_V q_658 q_660 q_14 q_39 q_661) rfl rfl rfl hd_M_sideOf ⟨Nat.le_of_ble_eq_true rfl, Nat.le_of_ble_eq_true rfl⟩) hK (hP) (va_recv hK.1 hP (ci := 6) (q0 := 0) rfl rfl) rfl hl.1 rfl (Nat.le_of_ble_eq_true rfl) dM_isLeft_11 ⟨by show 0 ≤ 0; omega, by show 0 ≤ 0; omega⟩ ?_
  refine lv_lconst (v := 0) hx hb dM_isLeft_14 (by decide) ?_
  refine W.lcmp hx hb dM_isLeft_15 ?_
  refine lv_if_le (tgt := 23) hx hb dM_isLeft_16 (by decide) (fun c_28 => ?_) (fun c_28 => ?_)
  · skip
    rw [lg_cmp_le] at c_28
    refine lv_iconst (v := 0) hx hb dM_isLeft_23 (by decide) ?_
    simp only [sM_isLeft, if_pos h_25, hc_27, if_pos c_28] at hok
    exact W.zret hx hb hr rfl (fun t ht9 hW => ⟨_, rfl, Option.some.inj hok, ht9⟩) (fun q h => by cases h) dM_isLeft_24
  · skip
    rw [lg_cmp_le] at c_28
    refine lv_iconst (v := 1) hx hb dM_isLeft_19 (by decide) ?_
    refine lv_goto (tgt := 24) hx hb dM_isLeft_20 (by decide) ?_
    simp only [sM_isLeft, if_pos h_25, hc_27, if_neg c_28] at hok
    exact W.zret hx hb hr rfl (fun t ht9 hW => ⟨_, rfl, Option.some.inj hok, ht9⟩) (fun q h => by cases h) dM_isLeft_24
