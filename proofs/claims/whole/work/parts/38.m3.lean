def sWithL (mz : MSt) (k : Int32) : Nat → Int32 → Option (Int32)
  | 0, _ => none
  | n + 1, j => if (mz.1 28) ≤ j then
      some j
    else
      if vpin j 4200 then
        if vpin k 4200 then
          if ((mz.2.1 24) j.toNatClampNeg) ≤ ((mz.2.1 24) k.toNatClampNeg) then
            some j
          else
            sWithL mz k n (j + 1)
        else
          none
      else
        none
def sM_within (mz : MSt) (k : Int32) (N9 : Nat) : Option Int32 :=
  (match sWithL mz k N9 (k + 1) with
  | none => none
  | some T_1 => some (T_1 - k))
set_option maxHeartbeats 4000000 in
set_option maxRecDepth 100000 in
theorem cM_within (l : Launch) (g : CX) (aM : Nat) (b : Nat → Nat) (mz : MSt) (k : Int32) (N9 : Nat) (r0 : Int32) (hok : sM_within mz k N9 = some r0) : Met l yM_within (wm yM_within kM_within 3 (some .int)) ({ frames := 0, cells := 0, slots := 0, locals := 0 }) (ro g [.ref aM, .int k] (va_P g.1 vwCl (mX g aM b mz))) (vp_Si (fun r => r = r0)) 0 0 (fun _ => False) := by
  refine Met.ofW (cc := kM_within) (maxL := 3) (ret := (some .int)) (by decide) rfl ?_
  intro p e s m args below meth c s₁ B hml hv
  obtain ⟨rfl, hK, hP⟩ := hv
  have hx := B.exec
  have hb := B.bytes
  have hr := B.returns
  have ht : ∀ w ∈ wT, w.before _ s = true := fun w h => atoms_spec (ws := wm yM_within kM_within 3 (some .int)) B.pre w (List.mem_cons_of_mem _ h)
  have hown : s.vm.findClass "NodeMakerModel" = some m.cls := findClass_of_methodNamed B.named
  have hlocks := B.notSynchronized
  have hl := lv_entry ([.ref aM, .int k]) (n := 3) (Nat.le_of_ble_eq_true rfl)
  rw [lg_entry_eq]
  generalize (lg_sl ([.ref aM, .int k]) ++ List.replicate (3 - (lg_sl ([.ref aM, .int k])).length) Slot.unset).toArray = ls at hl ⊢
  have hl : lv_has ls 3 [(0, .ref aM), (1, .int k)] := hl
  refine lv_iload_n hx hb dM_within_0 rfl (lv_at hl 1 rfl) ?_
  refine lv_iconst (v := 1) hx hb dM_within_1 (by decide) ?_
  refine lv_iadd hx hb dM_within_2 ?_
  refine lv_istore_n (lv' := [(2, .int (k + 1)), (0, .ref aM), (1, .int k)]) hx hb dM_within_3 rfl hl (by decide) rfl (fun ls hl => ?_)
  obtain ⟨T_1, hT_2⟩ : ∃ t9, sWithL mz k N9 (k + 1) = some t9 := by
    cases hc9 : sWithL mz k N9 (k + 1) with
    | some t9 => exact ⟨t9, rfl⟩
    | none => exfalso; simp only [sM_within, hc9] at hok; cases hok
  have loop4 : ∀ (n : Nat) (j : Int32) (ls : Array Slot), sWithL mz k n j = some T_1 → lv_has ls 3 [(2, .int j), (0, .ref aM), (1, .int k)] → W p l e (headSpec (wm yM_within kM_within 3 (some .int)) ({ frames := 0, cells := 0, slots := 0, locals := 0 })).room s m ([.ref aM, .int k] : List Value).toArray below meth c s.heap [] (0) (0) (MQ below (vp_Si (fun r => r = r0)) ([.ref aM, .int k] : List Value).toArray s 0 0 (fun _ => False)) (F0 m 4 ls []) := by
    intro n4
    induction n4 with
    | zero => intro j ls hL4 hl; cases hL4
    | succ n4 ih4 =>
      intro j ls hL4 hl
      refine lv_iload_n hx hb dM_within_4 rfl (lv_at hl 0 rfl) ?_
      refine lv_aload_n hx hb dM_within_5 rfl (lv_at hl 1 rfl) ?_
      refine va_get (D := g.1) (ci := 6) (v := .int (mz.1 28)) (C := "NodeMakerModel") (T := Fd_M) (N := 37) hx hb ht i_M hown hK.1 hP 0 rfl rfl 28 (by decide) (ht _ q_553) (fun _ h9 => h9) rfl dM_within_6 ?_
      refine lv_icmp_ge (tgt := 33) hx hb dM_within_9 (by decide) (fun c_3 => ?_) (fun c_3 => ?_)
      · skip
        simp only [sWithL, if_pos c_3] at hL4
        have hex : j = T_1 := Option.some.inj hL4
        obtain rfl : j = T_1 := hex
        refine lv_iload_n hx hb dM_within_33 rfl (lv_at hl 0 rfl) ?_
        refine lv_iload_n hx hb dM_within_34 rfl (lv_at hl 2 rfl) ?_
        refine lv_isub hx hb dM_within_35 ?_
        simp only [sM_within, hT_2] at hok
        exact W.iret hx hb hr (fun t ht9 hW => ⟨_, rfl, Option.some.inj hok, ht9⟩) (fun q h => by cases h) dM_within_36
      · skip
        refine lv_aload_n hx hb dM_within_12 rfl (lv_at hl 1 rfl) ?_
        refine va_get (D := g.1) (ci := 6) (v := .ref (b 24)) (C := "NodeMakerModel") (T := Fd_M) (N := 37) hx hb ht i_M hown hK.1 hP 0 rfl rfl 24 (by decide) (ht _ q_549) (fun _ h9 => h9) rfl dM_within_13 ?_
        refine lv_iload_n hx hb dM_within_16 rfl (lv_at hl 0 rfl) ?_
        have h_4 : vpin j 4200 := Decidable.byContradiction (fun h9 => by simp only [sWithL, if_neg c_3, if_neg h9] at hL4; cases hL4)
        refine va_iald hx hb hK.1 hP 19 0 rfl rfl (vp_in_iff.mpr h_4) dM_within_17 ?_
        refine lv_aload_n hx hb dM_within_18 rfl (lv_at hl 1 rfl) ?_
        refine va_get (D := g.1) (ci := 6) (v := .ref (b 24)) (C := "NodeMakerModel") (T := Fd_M) (N := 37) hx hb ht i_M hown hK.1 hP 0 rfl rfl 24 (by decide) (ht _ q_549) (fun _ h9 => h9) rfl dM_within_19 ?_
        refine lv_iload_n hx hb dM_within_22 rfl (lv_at hl 2 rfl) ?_
        have h_5 : vpin k 4200 := Decidable.byContradiction (fun h9 => by simp only [sWithL, if_neg c_3, if_pos h_4, if_neg h9] at hL4; cases hL4)
        refine va_iald hx hb hK.1 hP 19 0 rfl rfl (vp_in_iff.mpr h_5) dM_within_23 ?_
        refine lv_icmp_le (tgt := 33) hx hb dM_within_24 (by decide) (fun c_6 => ?_) (fun c_6 => ?_)
        · skip
          simp only [sWithL, if_neg c_3, if_pos h_4, if_pos h_5, if_pos c_6] at hL4
          have hex : j = T_1 := Option.some.inj hL4
          obtain rfl : j = T_1 := hex
          refine lv_iload_n hx hb dM_within_33 rfl (lv_at hl 0 rfl) ?_
          refine lv_iload_n hx hb dM_within_34 rfl (lv_at hl 2 rfl) ?_
          refine lv_isub hx hb dM_within_35 ?_
          simp only [sM_within, hT_2] at hok
          exact W.iret hx hb hr (fun t ht9 hW => ⟨_, rfl, Option.some.inj hok, ht9⟩) (fun q h => by cases h) dM_within_36
        · skip
          refine lv_iinc (v := j + 1) (lv' := [(2, .int (j + 1)), (0, .ref aM), (1, .int k)]) hx hb dM_within_27 hl (k := 0) rfl rfl (by decide) rfl (fun ls hl => ?_)
          refine lv_goto (tgt := 4) hx hb dM_within_30 (by decide) ?_
          simp only [sWithL, if_neg c_3, if_pos h_4, if_pos h_5, if_neg c_6] at hL4
          exact ih4 (j + 1) ls hL4 (lv_sub hl [0, 1, 2] rfl)
  exact loop4 N9 (k + 1) ls hT_2 (lv_sub hl [0, 1, 2] rfl)
def sFreeL (mz : MSt) : Nat → Int32 → Option (Int32)
  | 0, _ => none
  | n + 1, k => if 64 ≤ k then
      some k
    else
      if vpin k 64 then
        if ((mz.2.1 1) k.toNatClampNeg) = 0 then
          some k
        else
          sFreeL mz n (k + 1)
      else
        none
def sM_free (mz : MSt)  (N9 : Nat) : Option Int32 :=
  (match sFreeL mz N9 0 with
  | none => none
  | some T_7 => if 64 ≤ T_7 then
      some (-1)
    else
      some T_7)
set_option maxHeartbeats 4000000 in
set_option maxRecDepth 100000 in
theorem cM_free (l : Launch) (g : CX) (aM : Nat) (b : Nat → Nat) (mz : MSt)  (N9 : Nat) (r0 : Int32) (hok : sM_free mz N9 = some r0) : Met l yM_free (wm yM_free kM_free 2 (some .int)) ({ frames := 0, cells := 0, slots := 0, locals := 0 }) (ro g [.ref aM] (va_P g.1 vwCl (mX g aM b mz))) (vp_Si (fun r => r = r0)) 0 0 (fun _ => False) := by
  refine Met.ofW (cc := kM_free) (maxL := 2) (ret := (some .int)) (by decide) rfl ?_
  intro p e s m args below meth c s₁ B hml hv
  obtain ⟨rfl, hK, hP⟩ := hv
  have hx := B.exec
  have hb := B.bytes
  have hr := B.returns
  have ht : ∀ w ∈ wT, w.before _ s = true := fun w h => atoms_spec (ws := wm yM_free kM_free 2 (some .int)) B.pre w (List.mem_cons_of_mem _ h)
  have hown : s.vm.findClass "NodeMakerModel" = some m.cls := findClass_of_methodNamed B.named
  have hlocks := B.notSynchronized
  have hl := lv_entry ([.ref aM]) (n := 2) (Nat.le_of_ble_eq_true rfl)
  rw [lg_entry_eq]
  generalize (lg_sl ([.ref aM]) ++ List.replicate (2 - (lg_sl ([.ref aM])).length) Slot.unset).toArray = ls at hl ⊢
  have hl : lv_has ls 2 [(0, .ref aM)] := hl
  refine lv_iconst (v := 0) hx hb dM_free_0 (by decide) ?_
  refine lv_istore_n (lv' := [(1, .int 0), (0, .ref aM)]) hx hb dM_free_1 rfl hl (by decide) rfl (fun ls hl => ?_)
  obtain ⟨T_7, hT_8⟩ : ∃ t9, sFreeL mz N9 0 = some t9 := by
    cases hc9 : sFreeL mz N9 0 with
    | some t9 => exact ⟨t9, rfl⟩
    | none => exfalso; simp only [sM_free, hc9] at hok; cases hok
  have loop2 : ∀ (n : Nat) (k : Int32) (ls : Array Slot), sFreeL mz n k = some T_7 → lv_has ls 2 [(1, .int k), (0, .ref aM)] → W p l e (headSpec (wm yM_free kM_free 2 (some .int)) ({ frames := 0, cells := 0, slots := 0, locals := 0 })).room s m ([.ref aM] : List Value).toArray below meth c s.heap [] (0) (0) (MQ below (vp_Si (fun r => r = r0)) ([.ref aM] : List Value).toArray s 0 0 (fun _ => False)) (F0 m 2 ls []) := by
    intro n2
    induction n2 with
    | zero => intro k ls hL2 hl; cases hL2
    | succ n2 ih2 =>
      intro k ls hL2 hl
      refine lv_iload_n hx hb dM_free_2 rfl (lv_at hl 0 rfl) ?_
      refine lv_bipush (v := 64) hx hb dM_free_3 (by decide) ?_
      refine lv_icmp_ge (tgt := 23) hx hb dM_free_5 (by decide) (fun c_9 => ?_) (fun c_9 => ?_)
      · skip
        simp only [sFreeL, if_pos c_9] at hL2
        have hex : k = T_7 := Option.some.inj hL2
        obtain rfl : k = T_7 := hex
        refine lv_iload_n hx hb dM_free_23 rfl (lv_at hl 0 rfl) ?_
        refine lv_bipush (v := 64) hx hb dM_free_24 (by decide) ?_
        refine lv_icmp_ge (tgt := 33) hx hb dM_free_26 (by decide) (fun c_10 => ?_) (fun c_10 => ?_)
        · skip
          refine lv_iconst (v := -1) hx hb dM_free_33 (by decide) ?_
          simp only [sM_free, hT_8, if_pos c_10] at hok
          exact W.iret hx hb hr (fun t ht9 hW => ⟨_, rfl, Option.some.inj hok, ht9⟩) (fun q h => by cases h) dM_free_34
        · skip
          refine lv_iload_n hx hb dM_free_29 rfl (lv_at hl 0 rfl) ?_
          refine lv_goto (tgt := 34) hx hb dM_free_30 (by decide) ?_
          simp only [sM_free, hT_8, if_neg c_10] at hok
          exact W.iret hx hb hr (fun t ht9 hW => ⟨_, rfl, Option.some.inj hok, ht9⟩) (fun q h => by cases h) dM_free_34
      · skip
        refine lv_aload_n hx hb dM_free_8 rfl (lv_at hl 1 rfl) ?_
        refine va_get (D := g.1) (ci := 6) (v := .ref (b 1)) (C := "NodeMakerModel") (T := Fd_M) (N := 37) hx hb ht i_M hown hK.1 hP 0 rfl rfl 1 (by decide) (ht _ q_526) (fun _ h9 => h9) rfl dM_free_9 ?_
        refine lv_iload_n hx hb dM_free_12 rfl (lv_at hl 0 rfl) ?_
        have h_11 : vpin k 64 := Decidable.byContradiction (fun h9 => by simp only [sFreeL, if_neg c_9, if_neg h9] at hL2; cases hL2)
        refine va_zald hx hb hK.1 hP 1 3 rfl rfl (vp_in_iff.mpr h_11) dM_free_13 ?_
        refine lv_if_eq (tgt := 23) hx hb dM_free_14 (by decide) (fun c_12 => ?_) (fun c_12 => ?_)
        · skip
          simp only [sFreeL, if_neg c_9, if_pos h_11, if_pos c_12] at hL2
          have hex : k = T_7 := Option.some.inj hL2
          obtain rfl : k = T_7 := hex
          refine lv_iload_n hx hb dM_free_23 rfl (lv_at hl 0 rfl) ?_
          refine lv_bipush (v := 64) hx hb dM_free_24 (by decide) ?_
          refine lv_icmp_ge (tgt := 33) hx hb dM_free_26 (by decide) (fun c_13 => ?_) (fun c_13 => ?_)
          · skip
            refine lv_iconst (v := -1) hx hb dM_free_33 (by decide) ?_
            simp only [sM_free, hT_8, if_pos c_13] at hok
            exact W.iret hx hb hr (fun t ht9 hW => ⟨_, rfl, Option.some.inj hok, ht9⟩) (fun q h => by cases h) dM_free_34
          · skip
            refine lv_iload_n hx hb dM_free_29 rfl (lv_at hl 0 rfl) ?_
            refine lv_goto (tgt := 34) hx hb dM_free_30 (by decide) ?_
            simp only [sM_free, hT_8, if_neg c_13] at hok
            exact W.iret hx hb hr (fun t ht9 hW => ⟨_, rfl, Option.some.inj hok, ht9⟩) (fun q h => by cases h) dM_free_34
        · skip
          refine lv_iinc (v := k + 1) (lv' := [(1, .int (k + 1)), (0, .ref aM)]) hx hb dM_free_17 hl (k := 0) rfl rfl (by decide) rfl (fun ls hl => ?_)
          refine lv_goto (tgt := 2) hx hb dM_free_20 (by decide) ?_
          simp only [sFreeL, if_neg c_9, if_pos h_11, if_neg c_12] at hL2
          exact ih2 (k + 1) ls hL2 (lv_sub hl [0, 1] rfl)
  exact loop2 N9 0 ls hT_8 (lv_sub hl [0, 1] rfl)
def sM_touch (mz : MSt) (i : Int32) (j : Int32) : Option Int32 :=
  if vpin i 64 then
    (match sM_isEnd mz j ((mz.2.1 2) i.toNatClampNeg) ((mz.2.1 3) i.toNatClampNeg) with
    | none => none
    | some r_15 => if r_15 = 0 then
        if vpin j 64 then
          (match sM_sideOf mz i (((mz.2.1 2) j.toNatClampNeg).toInt64) (((mz.2.1 3) j.toNatClampNeg).toInt64) with
          | none => none
          | some r_19 => (match sM_sideOf mz i (((mz.2.1 4) j.toNatClampNeg).toInt64) (((mz.2.1 5) j.toNatClampNeg).toInt64) with
            | none => none
            | some r_21 => if (sM_areOpposite r_19 r_21) = 0 then
                (match sM_lies mz i ((mz.2.1 2) j.toNatClampNeg) ((mz.2.1 3) j.toNatClampNeg) with
                | none => none
                | some r_26 => if r_26 = 0 then
                    (match sM_lies mz i ((mz.2.1 4) j.toNatClampNeg) ((mz.2.1 5) j.toNatClampNeg) with
                    | none => none
                    | some r_29 => if r_29 = 0 then
                        (match sM_lies mz j ((mz.2.1 2) i.toNatClampNeg) ((mz.2.1 3) i.toNatClampNeg) with
                        | none => none
                        | some r_32 => if r_32 = 0 then
                            (match sM_lies mz j ((mz.2.1 4) i.toNatClampNeg) ((mz.2.1 5) i.toNatClampNeg) with
                            | none => none
                            | some r_35 => if r_35 = 0 then
                                some 0
                              else
                                some 1)
                          else
                            some 1)
                      else
                        some 1)
                  else
                    some 1)
              else
                (match sM_sideOf mz j (((mz.2.1 2) i.toNatClampNeg).toInt64) (((mz.2.1 3) i.toNatClampNeg).toInt64) with
                | none => none
                | some r_38 => (match sM_sideOf mz j (((mz.2.1 4) i.toNatClampNeg).toInt64) (((mz.2.1 5) i.toNatClampNeg).toInt64) with
                  | none => none
                  | some r_40 => if (sM_areOpposite r_38 r_40) = 0 then
                      (match sM_lies mz i ((mz.2.1 2) j.toNatClampNeg) ((mz.2.1 3) j.toNatClampNeg) with
                      | none => none
                      | some r_45 => if r_45 = 0 then
                          (match sM_lies mz i ((mz.2.1 4) j.toNatClampNeg) ((mz.2.1 5) j.toNatClampNeg) with
                          | none => none
                          | some r_48 => if r_48 = 0 then
                              (match sM_lies mz j ((mz.2.1 2) i.toNatClampNeg) ((mz.2.1 3) i.toNatClampNeg) with
                              | none => none
                              | some r_51 => if r_51 = 0 then
                                  (match sM_lies mz j ((mz.2.1 4) i.toNatClampNeg) ((mz.2.1 5) i.toNatClampNeg) with
                                  | none => none
                                  | some r_54 => if r_54 = 0 then
                                      some 0
                                    else
                                      some 1)
                                else
                                  some 1)
                            else
                              some 1)
                        else
                          some 1)
                    else
                      some 1))))
        else
          none
      else
        (match sM_isEnd mz j ((mz.2.1 4) i.toNatClampNeg) ((mz.2.1 5) i.toNatClampNeg) with
        | none => none
        | some r_59 => if r_59 = 0 then
            if vpin j 64 then
              (match sM_sideOf mz i (((mz.2.1 2) j.toNatClampNeg).toInt64) (((mz.2.1 3) j.toNatClampNeg).toInt64) with
              | none => none
              | some r_63 => (match sM_sideOf mz i (((mz.2.1 4) j.toNatClampNeg).toInt64) (((mz.2.1 5) j.toNatClampNeg).toInt64) with
                | none => none
                | some r_65 => if (sM_areOpposite r_63 r_65) = 0 then
                    (match sM_lies mz i ((mz.2.1 2) j.toNatClampNeg) ((mz.2.1 3) j.toNatClampNeg) with
                    | none => none
                    | some r_70 => if r_70 = 0 then
                        (match sM_lies mz i ((mz.2.1 4) j.toNatClampNeg) ((mz.2.1 5) j.toNatClampNeg) with
                        | none => none
                        | some r_73 => if r_73 = 0 then
                            (match sM_lies mz j ((mz.2.1 2) i.toNatClampNeg) ((mz.2.1 3) i.toNatClampNeg) with
                            | none => none
                            | some r_76 => if r_76 = 0 then
                                (match sM_lies mz j ((mz.2.1 4) i.toNatClampNeg) ((mz.2.1 5) i.toNatClampNeg) with
                                | none => none
                                | some r_79 => if r_79 = 0 then
                                    some 0
                                  else
                                    some 1)
                              else
                                some 1)
                          else
                            some 1)
                      else
                        some 1)
                  else
                    (match sM_sideOf mz j (((mz.2.1 2) i.toNatClampNeg).toInt64) (((mz.2.1 3) i.toNatClampNeg).toInt64) with
                    | none => none
                    | some r_82 => (match sM_sideOf mz j (((mz.2.1 4) i.toNatClampNeg).toInt64) (((mz.2.1 5) i.toNatClampNeg).toInt64) with
                      | none => none
                      | some r_84 => if (sM_areOpposite r_82 r_84) = 0 then
                          (match sM_lies mz i ((mz.2.1 2) j.toNatClampNeg) ((mz.2.1 3) j.toNatClampNeg) with
                          | none => none
                          | some r_89 => if r_89 = 0 then
                              (match sM_lies mz i ((mz.2.1 4) j.toNatClampNeg) ((mz.2.1 5) j.toNatClampNeg) with
                              | none => none
                              | some r_92 => if r_92 = 0 then
                                  (match sM_lies mz j ((mz.2.1 2) i.toNatClampNeg) ((mz.2.1 3) i.toNatClampNeg) with
                                  | none => none
                                  | some r_95 => if r_95 = 0 then
                                      (match sM_lies mz j ((mz.2.1 4) i.toNatClampNeg) ((mz.2.1 5) i.toNatClampNeg) with
                                      | none => none
                                      | some r_98 => if r_98 = 0 then
                                          some 0
                                        else
                                          some 1)
                                    else
                                      some 1)
                                else
                                  some 1)
                            else
                              some 1)
                        else
                          some 1))))
            else
              none
          else
            if vpin j 64 then
              (match sM_sideOf mz i (((mz.2.1 2) j.toNatClampNeg).toInt64) (((mz.2.1 3) j.toNatClampNeg).toInt64) with
              | none => none
              | some r_104 => (match sM_sideOf mz i (((mz.2.1 4) j.toNatClampNeg).toInt64) (((mz.2.1 5) j.toNatClampNeg).toInt64) with
                | none => none
                | some r_106 => if (sM_areOpposite r_104 r_106) = 0 then
                    some 1
                  else
                    (match sM_sideOf mz j (((mz.2.1 2) i.toNatClampNeg).toInt64) (((mz.2.1 3) i.toNatClampNeg).toInt64) with
                    | none => none
                    | some r_110 => (match sM_sideOf mz j (((mz.2.1 4) i.toNatClampNeg).toInt64) (((mz.2.1 5) i.toNatClampNeg).toInt64) with
                      | none => none
                      | some r_112 => if (sM_areOpposite r_110 r_112) = 0 then
                          some 1
                        else
                          some 1))))
            else
              none))
  else
    none
set_option maxHeartbeats 4000000 in
set_option maxRecDepth 100000 in
theorem cM_touch (l : Launch) (g : CX) (aM : Nat) (b : Nat → Nat) (mz : MSt) (i : Int32) (j : Int32) (r0 : Int32) (hok : sM_touch mz i j = some r0) : Met l yM_touch (wm yM_touch kM_touch 5 (some .boolean)) ({ frames := 3, cells := 0, slots := 0, locals := 75 }) (ro g [.ref aM, .int i, .int j] (va_P g.1 vwCl (mX g aM b mz))) (vp_Si (fun r => r = r0)) 0 0 (fun _ => False) := by
  refine Met.ofW (cc := kM_touch) (maxL := 5) (ret := (some .boolean)) (by decide) rfl ?_
  intro p e s m args below meth c s₁ B hml hv
  obtain ⟨rfl, hK, hP⟩ := hv
  have hx := B.exec
  have hb := B.bytes
  have hr := B.returns
  have ht : ∀ w ∈ wT, w.before _ s = true := fun w h => atoms_spec (ws := wm yM_touch kM_touch 5 (some .boolean)) B.pre w (List.mem_cons_of_mem _ h)
  have hown : s.vm.findClass "NodeMakerModel" = some m.cls := findClass_of_methodNamed B.named
  have hlocks := B.notSynchronized
  have hl := lv_entry ([.ref aM, .int i, .int j]) (n := 5) (Nat.le_of_ble_eq_true rfl)
  rw [lg_entry_eq]
  generalize (lg_sl ([.ref aM, .int i, .int j]) ++ List.replicate (5 - (lg_sl ([.ref aM, .int i, .int j])).length) Slot.unset).toArray = ls at hl ⊢
  have hl : lv_has ls 5 [(0, .ref aM), (1, .int i), (2, .int j)] := hl
  refine lv_aload_n hx hb dM_touch_0 rfl (lv_at hl 0 rfl) ?_
  refine lv_iload_n hx hb dM_touch_1 rfl (lv_at hl 2 rfl) ?_
  refine lv_aload_n hx hb dM_touch_2 rfl (lv_at hl 0 rfl) ?_
  refine va_get (D := g.1) (ci := 6) (v := .ref (b 2)) (C := "NodeMakerModel") (T := Fd_M) (N := 37) hx hb ht i_M hown hK.1 hP 0 rfl rfl 2 (by decide) (ht _ q_527) (fun _ h9 => h9) rfl dM_touch_3 ?_
  refine lv_iload_n hx hb dM_touch_6 rfl (lv_at hl 1 rfl) ?_
  have h_14 : vpin i 64 := Decidable.byContradiction (fun h9 => by simp only [sM_touch, if_neg h9] at hok; cases hok)
  refine va_iald hx hb hK.1 hP 2 0 rfl rfl (vp_in_iff.mpr h_14) dM_touch_7 ?_
  refine lv_aload_n hx hb dM_touch_8 rfl (lv_at hl 0 rfl) ?_
  refine va_get (D := g.1) (ci := 6) (v := .ref (b 3)) (C := "NodeMakerModel") (T := Fd_M) (N := 37) hx hb ht i_M hown hK.1 hP 0 rfl rfl 3 (by decide) (ht _ q_528) (fun _ h9 => h9) rfl dM_touch_9 ?_
  refine lv_iload_n hx hb dM_touch_12 rfl (lv_at hl 1 rfl) ?_
  refine va_iald hx hb hK.1 hP 3 0 rfl rfl (vp_in_iff.mpr h_14) dM_touch_13 ?_
  obtain ⟨r_15, hc_16⟩ : ∃ r9, sM_isEnd mz j ((mz.2.1 2) i.toNatClampNeg) ((mz.2.1 3) i.toNatClampNeg) = some r9 := by
    cases hc9 : sM_isEnd mz j ((mz.2.1 2) i.toNatClampNeg) ((mz.2.1 3) i.toNatClampNeg) with
    | some r9 => exact ⟨r9, rfl⟩
    | none => exfalso; simp only [sM_touch, if_pos h_14, hc9] at hok; cases hok
  refine ro_Vi (v := r_15) (As := [.int j, .int ((mz.2.1 2) i.toNatClampNeg), .int ((mz.2.1 3) i.toNatClampNeg)]) (rest := []) ⟨hx, hb, hml, hown, ht⟩ (cM_isEnd l g aM b mz j ((mz.2.1 2) i.toNatClampNeg) ((mz.2.1 3) i.toNatClampNeg) r_15 hc_16) (cwV 3 ht (g_V q_654 q_656 q_13 q_39 q_657) rfl rfl rfl hd_M_isEnd ⟨Nat.le_of_ble_eq_true rfl, Nat.le_of_ble_eq_true rfl⟩) hK (hP) (va_recv hK.1 hP (ci := 6) (q0 := 0) rfl rfl) rfl hl.1 rfl (Nat.le_of_ble_eq_true rfl) dM_touch_14 ⟨by show 0 ≤ 0; omega, by show 0 ≤ 0; omega⟩ ?_
  refine lv_if_eq (tgt := 44) hx hb dM_touch_17 (by decide) (fun c_17 => ?_) (fun c_17 => ?_)
  · skip
    refine lv_iconst (v := 0) hx hb dM_touch_44 (by decide) ?_
    refine lv_istore_n (lv' := [(3, .int 0), (0, .ref aM), (1, .int i), (2, .int j)]) hx hb dM_touch_45 rfl hl (by decide) rfl (fun ls hl => ?_)
    refine lv_aload_n hx hb dM_touch_46 rfl (lv_at hl 1 rfl) ?_
    refine lv_iload_n hx hb dM_touch_47 rfl (lv_at hl 2 rfl) ?_
    refine lv_aload_n hx hb dM_touch_48 rfl (lv_at hl 1 rfl) ?_
    refine va_get (D := g.1) (ci := 6) (v := .ref (b 2)) (C := "NodeMakerModel") (T := Fd_M) (N := 37) hx hb ht i_M hown hK.1 hP 0 rfl rfl 2 (by decide) (ht _ q_527) (fun _ h9 => h9) rfl dM_touch_49 ?_
    refine lv_iload_n hx hb dM_touch_52 rfl (lv_at hl 3 rfl) ?_
    have h_18 : vpin j 64 := Decidable.byContradiction (fun h9 => by simp only [sM_touch, if_pos h_14, hc_16, if_pos c_17, if_neg h9] at hok; cases hok)
    refine va_iald hx hb hK.1 hP 2 0 rfl rfl (vp_in_iff.mpr h_18) dM_touch_53 ?_
    refine lv_i2l hx hb dM_touch_54 rfl ?_
    refine lv_aload_n hx hb dM_touch_55 rfl (lv_at hl 1 rfl) ?_
    refine va_get (D := g.1) (ci := 6) (v := .ref (b 3)) (C := "NodeMakerModel") (T := Fd_M) (N := 37) hx hb ht i_M hown hK.1 hP 0 rfl rfl 3 (by decide) (ht _ q_528) (fun _ h9 => h9) rfl dM_touch_56 ?_
    refine lv_iload_n hx hb dM_touch_59 rfl (lv_at hl 3 rfl) ?_
    refine va_iald hx hb hK.1 hP 3 0 rfl rfl (vp_in_iff.mpr h_18) dM_touch_60 ?_
    refine lv_i2l hx hb dM_touch_61 rfl ?_
    obtain ⟨r_19, hc_20⟩ : ∃ r9, sM_sideOf mz i (((mz.2.1 2) j.toNatClampNeg).toInt64) (((mz.2.1 3) j.toNatClampNeg).toInt64) = some r9 := by
      cases hc9 : sM_sideOf mz i (((mz.2.1 2) j.toNatClampNeg).toInt64) (((mz.2.1 3) j.toNatClampNeg).toInt64) with
      | some r9 => exact ⟨r9, rfl⟩
      | none => exfalso; simp only [sM_touch, if_pos h_14, hc_16, if_pos c_17, if_pos h_18, hc9] at hok; cases hok
    refine ro_Vl (v := r_19) (As := [.int i, .long (((mz.2.1 2) j.toNatClampNeg).toInt64), .long (((mz.2.1 3) j.toNatClampNeg).toInt64)]) (rest := []) ⟨hx, hb, hml, hown, ht⟩ (cM_sideOf l g aM b mz i (((mz.2.1 2) j.toNatClampNeg).toInt64) (((mz.2.1 3) j.toNatClampNeg).toInt64) r_19 hc_20) (cwV 3 ht (g_V q_658 q_660 q_14 q_39 q_661) rfl rfl rfl hd_M_sideOf ⟨Nat.le_of_ble_eq_true rfl, Nat.le_of_ble_eq_true rfl⟩) hK (hP) (va_recv hK.1 hP (ci := 6) (q0 := 0) rfl rfl) rfl hl.1 rfl (Nat.le_of_ble_eq_true rfl) dM_touch_62 ⟨by show 0 ≤ 0; omega, by show 0 ≤ 0; omega⟩ ?_
    refine lv_aload_n hx hb dM_touch_65 rfl (lv_at hl 1 rfl) ?_
    refine lv_iload_n hx hb dM_touch_66 rfl (lv_at hl 2 rfl) ?_
    refine lv_aload_n hx hb dM_touch_67 rfl (lv_at hl 1 rfl) ?_
    refine va_get (D := g.1) (ci := 6) (v := .ref (b 4)) (C := "NodeMakerModel") (T := Fd_M) (N := 37) hx hb ht i_M hown hK.1 hP 0 rfl rfl 4 (by decide) (ht _ q_529) (fun _ h9 => h9) rfl dM_touch_68 ?_
    refine lv_iload_n hx hb dM_touch_71 rfl (lv_at hl 3 rfl) ?_
    refine va_iald hx hb hK.1 hP 4 0 rfl rfl (vp_in_iff.mpr h_18) dM_touch_72 ?_
    refine lv_i2l hx hb dM_touch_73 rfl ?_
    refine lv_aload_n hx hb dM_touch_74 rfl (lv_at hl 1 rfl) ?_
    refine va_get (D := g.1) (ci := 6) (v := .ref (b 5)) (C := "NodeMakerModel") (T := Fd_M) (N := 37) hx hb ht i_M hown hK.1 hP 0 rfl rfl 5 (by decide) (ht _ q_530) (fun _ h9 => h9) rfl dM_touch_75 ?_
    refine lv_iload_n hx hb dM_touch_78 rfl (lv_at hl 3 rfl) ?_
    refine va_iald hx hb hK.1 hP 5 0 rfl rfl (vp_in_iff.mpr h_18) dM_touch_79 ?_
    refine lv_i2l hx hb dM_touch_80 rfl ?_
    obtain ⟨r_21, hc_22⟩ : ∃ r9, sM_sideOf mz i (((mz.2.1 4) j.toNatClampNeg).toInt64) (((mz.2.1 5) j.toNatClampNeg).toInt64) = some r9 := by
      cases hc9 : sM_sideOf mz i (((mz.2.1 4) j.toNatClampNeg).toInt64) (((mz.2.1 5) j.toNatClampNeg).toInt64) with
      | some r9 => exact ⟨r9, rfl⟩
      | none => exfalso; simp only [sM_touch, if_pos h_14, hc_16, if_pos c_17, if_pos h_18, hc_20, hc9] at hok; cases hok
    refine ro_Vl (v := r_21) (As := [.int i, .long (((mz.2.1 4) j.toNatClampNeg).toInt64), .long (((mz.2.1 5) j.toNatClampNeg).toInt64)]) (rest := [.long r_19]) ⟨hx, hb, hml, hown, ht⟩ (cM_sideOf l g aM b mz i (((mz.2.1 4) j.toNatClampNeg).toInt64) (((mz.2.1 5) j.toNatClampNeg).toInt64) r_21 hc_22) (cwV 3 ht (g_V q_658 q_660 q_14 q_39 q_661) rfl rfl rfl hd_M_sideOf ⟨Nat.le_of_ble_eq_true rfl, Nat.le_of_ble_eq_true rfl⟩) hK (hP) (va_recv hK.1 hP (ci := 6) (q0 := 0) rfl rfl) rfl hl.1 rfl (Nat.le_of_ble_eq_true rfl) dM_touch_81 ⟨by show 0 ≤ 0; omega, by show 0 ≤ 0; omega⟩ ?_
    refine ro_Si (v := sM_areOpposite r_19 r_21) (As := [.long r_19, .long r_21]) (rest := []) ⟨hx, hb, hml, hown, ht⟩ (cM_areOpposite l g r_19 r_21) (cwS 2 ht (g_S q_665 q_666 q_39 q_667) rfl rfl rfl hd_M_areOpposite ⟨Nat.le_of_ble_eq_true rfl, Nat.le_of_ble_eq_true rfl⟩) hK (trivial) rfl hl.1 rfl (Nat.le_of_ble_eq_true rfl) dM_touch_84 ⟨by show 0 ≤ 0; omega, by show 0 ≤ 0; omega⟩ ?_
    refine lv_if_eq (tgt := 138) hx hb dM_touch_87 (by decide) (fun c_23 => ?_) (fun c_23 => ?_)
    · skip
      refine lv_iconst (v := 0) hx hb dM_touch_138 (by decide) ?_
      refine lv_istore (lv' := [(4, .int 0), (3, .int 0), (0, .ref aM), (1, .int i), (2, .int j)]) hx hb dM_touch_139 hl (by decide) rfl (fun ls hl => ?_)
      refine lv_iload_n hx hb dM_touch_141 rfl (lv_at hl 1 rfl) ?_
      refine lv_if_ne (tgt := 230) hx hb dM_touch_142 (by decide) (fun c_24 => ?_) (fun c_24 => ?_)
      · skip
        exact absurd (by decide) c_24
      · skip
        refine lv_iload hx hb dM_touch_145 (lv_at hl 0 rfl) ?_
        refine lv_if_ne (tgt := 230) hx hb dM_touch_147 (by decide) (fun c_25 => ?_) (fun c_25 => ?_)
        · skip
          exact absurd (by decide) c_25
        · skip
          refine lv_aload_n hx hb dM_touch_150 rfl (lv_at hl 2 rfl) ?_
          refine lv_iload_n hx hb dM_touch_151 rfl (lv_at hl 3 rfl) ?_
          refine lv_aload_n hx hb dM_touch_152 rfl (lv_at hl 2 rfl) ?_
          refine va_get (D := g.1) (ci := 6) (v := .ref (b 2)) (C := "NodeMakerModel") (T := Fd_M) (N := 37) hx hb ht i_M hown hK.1 hP 0 rfl rfl 2 (by decide) (ht _ q_527) (fun _ h9 => h9) rfl dM_touch_153 ?_
          refine lv_iload_n hx hb dM_touch_156 rfl (lv_at hl 4 rfl) ?_
          refine va_iald hx hb hK.1 hP 2 0 rfl rfl (vp_in_iff.mpr h_18) dM_touch_157 ?_
          refine lv_aload_n hx hb dM_touch_158 rfl (lv_at hl 2 rfl) ?_
          refine va_get (D := g.1) (ci := 6) (v := .ref (b 3)) (C := "NodeMakerModel") (T := Fd_M) (N := 37) hx hb ht i_M hown hK.1 hP 0 rfl rfl 3 (by decide) (ht _ q_528) (fun _ h9 => h9) rfl dM_touch_159 ?_
          refine lv_iload_n hx hb dM_touch_162 rfl (lv_at hl 4 rfl) ?_
          refine va_iald hx hb hK.1 hP 3 0 rfl rfl (vp_in_iff.mpr h_18) dM_touch_163 ?_
          obtain ⟨r_26, hc_27⟩ : ∃ r9, sM_lies mz i ((mz.2.1 2) j.toNatClampNeg) ((mz.2.1 3) j.toNatClampNeg) = some r9 := by
            cases hc9 : sM_lies mz i ((mz.2.1 2) j.toNatClampNeg) ((mz.2.1 3) j.toNatClampNeg) with
            | some r9 => exact ⟨r9, rfl⟩
            | none => exfalso; simp only [sM_touch, if_pos h_14, hc_16, if_pos c_17, if_pos h_18, hc_20, hc_22, if_pos c_23, hc9] at hok; cases hok
          refine ro_Vi (v := r_26) (As := [.int i, .int ((mz.2.1 2) j.toNatClampNeg), .int ((mz.2.1 3) j.toNatClampNeg)]) (rest := []) ⟨hx, hb, hml, hown, ht⟩ (cM_lies l g aM b mz i ((mz.2.1 2) j.toNatClampNeg) ((mz.2.1 3) j.toNatClampNeg) r_26 hc_27) (cwV 3 ht (g_V q_668 q_670 q_15 q_39 q_671) rfl rfl rfl hd_M_lies ⟨Nat.le_of_ble_eq_true rfl, Nat.le_of_ble_eq_true rfl⟩) hK (hP) (va_recv hK.1 hP (ci := 6) (q0 := 0) rfl rfl) rfl hl.1 rfl (Nat.le_of_ble_eq_true rfl) dM_touch_164 ⟨by show 0 ≤ 0; omega, by show 0 ≤ 0; omega⟩ ?_
          refine lv_if_ne (tgt := 230) hx hb dM_touch_167 (by decide) (fun c_28 => ?_) (fun c_28 => ?_)
          · skip
            refine lv_iconst (v := 1) hx hb dM_touch_230 (by decide) ?_
            refine lv_goto (tgt := 235) hx hb dM_touch_231 (by decide) ?_
            simp only [sM_touch, if_pos h_14, hc_16, if_pos c_17, if_pos h_18, hc_20, hc_22, if_pos c_23, hc_27, if_neg c_28] at hok
            exact W.zret hx hb hr rfl (fun t ht9 hW => ⟨_, rfl, Option.some.inj hok, ht9⟩) (fun q h => by cases h) dM_touch_235
          · skip
            refine lv_aload_n hx hb dM_touch_170 rfl (lv_at hl 2 rfl) ?_
            refine lv_iload_n hx hb dM_touch_171 rfl (lv_at hl 3 rfl) ?_
            refine lv_aload_n hx hb dM_touch_172 rfl (lv_at hl 2 rfl) ?_
            refine va_get (D := g.1) (ci := 6) (v := .ref (b 4)) (C := "NodeMakerModel") (T := Fd_M) (N := 37) hx hb ht i_M hown hK.1 hP 0 rfl rfl 4 (by decide) (ht _ q_529) (fun _ h9 => h9) rfl dM_touch_173 ?_
            refine lv_iload_n hx hb dM_touch_176 rfl (lv_at hl 4 rfl) ?_
            refine va_iald hx hb hK.1 hP 4 0 rfl rfl (vp_in_iff.mpr h_18) dM_touch_177 ?_
            refine lv_aload_n hx hb dM_touch_178 rfl (lv_at hl 2 rfl) ?_
            refine va_get (D := g.1) (ci := 6) (v := .ref (b 5)) (C := "NodeMakerModel") (T := Fd_M) (N := 37) hx hb ht i_M hown hK.1 hP 0 rfl rfl 5 (by decide) (ht _ q_530) (fun _ h9 => h9) rfl dM_touch_179 ?_
            refine lv_iload_n hx hb dM_touch_182 rfl (lv_at hl 4 rfl) ?_
            refine va_iald hx hb hK.1 hP 5 0 rfl rfl (vp_in_iff.mpr h_18) dM_touch_183 ?_
            obtain ⟨r_29, hc_30⟩ : ∃ r9, sM_lies mz i ((mz.2.1 4) j.toNatClampNeg) ((mz.2.1 5) j.toNatClampNeg) = some r9 := by
              cases hc9 : sM_lies mz i ((mz.2.1 4) j.toNatClampNeg) ((mz.2.1 5) j.toNatClampNeg) with
              | some r9 => exact ⟨r9, rfl⟩
              | none => exfalso; simp only [sM_touch, if_pos h_14, hc_16, if_pos c_17, if_pos h_18, hc_20, hc_22, if_pos c_23, hc_27, if_pos c_28, hc9] at hok; cases hok
            refine ro_Vi (v := r_29) (As := [.int i, .int ((mz.2.1 4) j.toNatClampNeg), .int ((mz.2.1 5) j.toNatClampNeg)]) (rest := []) ⟨hx, hb, hml, hown, ht⟩ (cM_lies l g aM b mz i ((mz.2.1 4) j.toNatClampNeg) ((mz.2.1 5) j.toNatClampNeg) r_29 hc_30) (cwV 3 ht (g_V q_668 q_670 q_15 q_39 q_671) rfl rfl rfl hd_M_lies ⟨Nat.le_of_ble_eq_true rfl, Nat.le_of_ble_eq_true rfl⟩) hK (hP) (va_recv hK.1 hP (ci := 6) (q0 := 0) rfl rfl) rfl hl.1 rfl (Nat.le_of_ble_eq_true rfl) dM_touch_184 ⟨by show 0 ≤ 0; omega, by show 0 ≤ 0; omega⟩ ?_
            refine lv_if_ne (tgt := 230) hx hb dM_touch_187 (by decide) (fun c_31 => ?_) (fun c_31 => ?_)
            · skip
              refine lv_iconst (v := 1) hx hb dM_touch_230 (by decide) ?_
              refine lv_goto (tgt := 235) hx hb dM_touch_231 (by decide) ?_
              simp only [sM_touch, if_pos h_14, hc_16, if_pos c_17, if_pos h_18, hc_20, hc_22, if_pos c_23, hc_27, if_pos c_28, hc_30, if_neg c_31] at hok
              exact W.zret hx hb hr rfl (fun t ht9 hW => ⟨_, rfl, Option.some.inj hok, ht9⟩) (fun q h => by cases h) dM_touch_235
            · skip
              refine lv_aload_n hx hb dM_touch_190 rfl (lv_at hl 2 rfl) ?_
              refine lv_iload_n hx hb dM_touch_191 rfl (lv_at hl 4 rfl) ?_
              refine lv_aload_n hx hb dM_touch_192 rfl (lv_at hl 2 rfl) ?_
              refine va_get (D := g.1) (ci := 6) (v := .ref (b 2)) (C := "NodeMakerModel") (T := Fd_M) (N := 37) hx hb ht i_M hown hK.1 hP 0 rfl rfl 2 (by decide) (ht _ q_527) (fun _ h9 => h9) rfl dM_touch_193 ?_
              refine lv_iload_n hx hb dM_touch_196 rfl (lv_at hl 3 rfl) ?_
              refine va_iald hx hb hK.1 hP 2 0 rfl rfl (vp_in_iff.mpr h_14) dM_touch_197 ?_
              refine lv_aload_n hx hb dM_touch_198 rfl (lv_at hl 2 rfl) ?_
              refine va_get (D := g.1) (ci := 6) (v := .ref (b 3)) (C := "NodeMakerModel") (T := Fd_M) (N := 37) hx hb ht i_M hown hK.1 hP 0 rfl rfl 3 (by decide) (ht _ q_528) (fun _ h9 => h9) rfl dM_touch_199 ?_
              refine lv_iload_n hx hb dM_touch_202 rfl (lv_at hl 3 rfl) ?_
              refine va_iald hx hb hK.1 hP 3 0 rfl rfl (vp_in_iff.mpr h_14) dM_touch_203 ?_
              obtain ⟨r_32, hc_33⟩ : ∃ r9, sM_lies mz j ((mz.2.1 2) i.toNatClampNeg) ((mz.2.1 3) i.toNatClampNeg) = some r9 := by
                cases hc9 : sM_lies mz j ((mz.2.1 2) i.toNatClampNeg) ((mz.2.1 3) i.toNatClampNeg) with
                | some r9 => exact ⟨r9, rfl⟩
                | none => exfalso; simp only [sM_touch, if_pos h_14, hc_16, if_pos c_17, if_pos h_18, hc_20, hc_22, if_pos c_23, hc_27, if_pos c_28, hc_30, if_pos c_31, hc9] at hok; cases hok
              refine ro_Vi (v := r_32) (As := [.int j, .int ((mz.2.1 2) i.toNatClampNeg), .int ((mz.2.1 3) i.toNatClampNeg)]) (rest := []) ⟨hx, hb, hml, hown, ht⟩ (cM_lies l g aM b mz j ((mz.2.1 2) i.toNatClampNeg) ((mz.2.1 3) i.toNatClampNeg) r_32 hc_33) (cwV 3 ht (g_V q_668 q_670 q_15 q_39 q_671) rfl rfl rfl hd_M_lies ⟨Nat.le_of_ble_eq_true rfl, Nat.le_of_ble_eq_true rfl⟩) hK (hP) (va_recv hK.1 hP (ci := 6) (q0 := 0) rfl rfl) rfl hl.1 rfl (Nat.le_of_ble_eq_true rfl) dM_touch_204 ⟨by show 0 ≤ 0; omega, by show 0 ≤ 0; omega⟩ ?_
              refine lv_if_ne (tgt := 230) hx hb dM_touch_207 (by decide) (fun c_34 => ?_) (fun c_34 => ?_)
              · skip
                refine lv_iconst (v := 1) hx hb dM_touch_230 (by decide) ?_
                refine lv_goto (tgt := 235) hx hb dM_touch_231 (by decide) ?_
                simp only [sM_touch, if_pos h_14, hc_16, if_pos c_17, if_pos h_18, hc_20, hc_22, if_pos c_23, hc_27, if_pos c_28, hc_30, if_pos c_31, hc_33, if_neg c_34] at hok
                exact W.zret hx hb hr rfl (fun t ht9 hW => ⟨_, rfl, Option.some.inj hok, ht9⟩) (fun q h => by cases h) dM_touch_235
              · skip
                refine lv_aload_n hx hb dM_touch_210 rfl (lv_at hl 2 rfl) ?_
                refine lv_iload_n hx hb dM_touch_211 rfl (lv_at hl 4 rfl) ?_
                refine lv_aload_n hx hb dM_touch_212 rfl (lv_at hl 2 rfl) ?_
                refine va_get (D := g.1) (ci := 6) (v := .ref (b 4)) (C := "NodeMakerModel") (T := Fd_M) (N := 37) hx hb ht i_M hown hK.1 hP 0 rfl rfl 4 (by decide) (ht _ q_529) (fun _ h9 => h9) rfl dM_touch_213 ?_
                refine lv_iload_n hx hb dM_touch_216 rfl (lv_at hl 3 rfl) ?_
                refine va_iald hx hb hK.1 hP 4 0 rfl rfl (vp_in_iff.mpr h_14) dM_touch_217 ?_
                refine lv_aload_n hx hb dM_touch_218 rfl (lv_at hl 2 rfl) ?_
                refine va_get (D := g.1) (ci := 6) (v := .ref (b 5)) (C := "NodeMakerModel") (T := Fd_M) (N := 37) hx hb ht i_M hown hK.1 hP 0 rfl rfl 5 (by decide) (ht _ q_530) (fun _ h9 => h9) rfl dM_touch_219 ?_
                refine lv_iload_n hx hb dM_touch_222 rfl (lv_at hl 3 rfl) ?_
                refine va_iald hx hb hK.1 hP 5 0 rfl rfl (vp_in_iff.mpr h_14) dM_touch_223 ?_
                obtain ⟨r_35, hc_36⟩ : ∃ r9, sM_lies mz j ((mz.2.1 4) i.toNatClampNeg) ((mz.2.1 5) i.toNatClampNeg) = some r9 := by
                  cases hc9 : sM_lies mz j ((mz.2.1 4) i.toNatClampNeg) ((mz.2.1 5) i.toNatClampNeg) with
                  | some r9 => exact ⟨r9, rfl⟩
                  | none => exfalso; simp only [sM_touch, if_pos h_14, hc_16, if_pos c_17, if_pos h_18, hc_20, hc_22, if_pos c_23, hc_27, if_pos c_28, hc_30, if_pos c_31, hc_33, if_pos c_34, hc9] at hok; cases hok
                refine ro_Vi (v := r_35) (As := [.int j, .int ((mz.2.1 4) i.toNatClampNeg), .int ((mz.2.1 5) i.toNatClampNeg)]) (rest := []) ⟨hx, hb, hml, hown, ht⟩ (cM_lies l g aM b mz j ((mz.2.1 4) i.toNatClampNeg) ((mz.2.1 5) i.toNatClampNeg) r_35 hc_36) (cwV 3 ht (g_V q_668 q_670 q_15 q_39 q_671) rfl rfl rfl hd_M_lies ⟨Nat.le_of_ble_eq_true rfl, Nat.le_of_ble_eq_true rfl⟩) hK (hP) (va_recv hK.1 hP (ci := 6) (q0 := 0) rfl rfl) rfl hl.1 rfl (Nat.le_of_ble_eq_true rfl) dM_touch_224 ⟨by show 0 ≤ 0; omega, by show 0 ≤ 0; omega⟩ ?_
                refine lv_if_eq (tgt := 234) hx hb dM_touch_227 (by decide) (fun c_37 => ?_) (fun c_37 => ?_)
                · skip
                  refine lv_iconst (v := 0) hx hb dM_touch_234 (by decide) ?_
                  simp only [sM_touch, if_pos h_14, hc_16, if_pos c_17, if_pos h_18, hc_20, hc_22, if_pos c_23, hc_27, if_pos c_28, hc_30, if_pos c_31, hc_33, if_pos c_34, hc_36, if_pos c_37] at hok
                  exact W.zret hx hb hr rfl (fun t ht9 hW => ⟨_, rfl, Option.some.inj hok, ht9⟩) (fun q h => by cases h) dM_touch_235
                · skip
                  refine lv_iconst (v := 1) hx hb dM_touch_230 (by decide) ?_
                  refine lv_goto (tgt := 235) hx hb dM_touch_231 (by decide) ?_
                  simp only [sM_touch, if_pos h_14, hc_16, if_pos c_17, if_pos h_18, hc_20, hc_22, if_pos c_23, hc_27, if_pos c_28, hc_30, if_pos c_31, hc_33, if_pos c_34, hc_36, if_neg c_37] at hok
                  exact W.zret hx hb hr rfl (fun t ht9 hW => ⟨_, rfl, Option.some.inj hok, ht9⟩) (fun q h => by cases h) dM_touch_235
    · skip
      refine lv_aload_n hx hb dM_touch_90 rfl (lv_at hl 1 rfl) ?_
      refine lv_iload_n hx hb dM_touch_91 rfl (lv_at hl 3 rfl) ?_
      refine lv_aload_n hx hb dM_touch_92 rfl (lv_at hl 1 rfl) ?_
      refine va_get (D := g.1) (ci := 6) (v := .ref (b 2)) (C := "NodeMakerModel") (T := Fd_M) (N := 37) hx hb ht i_M hown hK.1 hP 0 rfl rfl 2 (by decide) (ht _ q_527) (fun _ h9 => h9) rfl dM_touch_93 ?_
      refine lv_iload_n hx hb dM_touch_96 rfl (lv_at hl 2 rfl) ?_
      refine va_iald hx hb hK.1 hP 2 0 rfl rfl (vp_in_iff.mpr h_14) dM_touch_97 ?_
      refine lv_i2l hx hb dM_touch_98 rfl ?_
      refine lv_aload_n hx hb dM_touch_99 rfl (lv_at hl 1 rfl) ?_
      refine va_get (D := g.1) (ci := 6) (v := .ref (b 3)) (C := "NodeMakerModel") (T := Fd_M) (N := 37) hx hb ht i_M hown hK.1 hP 0 rfl rfl 3 (by decide) (ht _ q_528) (fun _ h9 => h9) rfl dM_touch_100 ?_
      refine lv_iload_n hx hb dM_touch_103 rfl (lv_at hl 2 rfl) ?_
      refine va_iald hx hb hK.1 hP 3 0 rfl rfl (vp_in_iff.mpr h_14) dM_touch_104 ?_
      refine lv_i2l hx hb dM_touch_105 rfl ?_
      obtain ⟨r_38, hc_39⟩ : ∃ r9, sM_sideOf mz j (((mz.2.1 2) i.toNatClampNeg).toInt64) (((mz.2.1 3) i.toNatClampNeg).toInt64) = some r9 := by
        cases hc9 : sM_sideOf mz j (((mz.2.1 2) i.toNatClampNeg).toInt64) (((mz.2.1 3) i.toNatClampNeg).toInt64) with
        | some r9 => exact ⟨r9, rfl⟩
        | none => exfalso; simp only [sM_touch, if_pos h_14, hc_16, if_pos c_17, if_pos h_18, hc_20, hc_22, if_neg c_23, hc9] at hok; cases hok
      refine ro_Vl (v := r_38) (As := [.int j, .long (((mz.2.1 2) i.toNatClampNeg).toInt64), .long (((mz.2.1 3) i.toNatClampNeg).toInt64)]) (rest := []) ⟨hx, hb, hml, hown, ht⟩ (cM_sideOf l g aM b mz j (((mz.2.1 2) i.toNatClampNeg).toInt64) (((mz.2.1 3) i.toNatClampNeg).toInt64) r_38 hc_39) (cwV 3 ht (g_V q_658 q_660 q_14 q_39 q_661) rfl rfl rfl hd_M_sideOf ⟨Nat.le_of_ble_eq_true rfl, Nat.le_of_ble_eq_true rfl⟩) hK (hP) (va_recv hK.1 hP (ci := 6) (q0 := 0) rfl rfl) rfl hl.1 rfl (Nat.le_of_ble_eq_true rfl) dM_touch_106 ⟨by show 0 ≤ 0; omega, by show 0 ≤ 0; omega⟩ ?_
      refine lv_aload_n hx hb dM_touch_109 rfl (lv_at hl 1 rfl) ?_
      refine lv_iload_n hx hb dM_touch_110 rfl (lv_at hl 3 rfl) ?_
      refine lv_aload_n hx hb dM_touch_111 rfl (lv_at hl 1 rfl) ?_
      refine va_get (D := g.1) (ci := 6) (v := .ref (b 4)) (C := "NodeMakerModel") (T := Fd_M) (N := 37) hx hb ht i_M hown hK.1 hP 0 rfl rfl 4 (by decide) (ht _ q_529) (fun _ h9 => h9) rfl dM_touch_112 ?_
      refine lv_iload_n hx hb dM_touch_115 rfl (lv_at hl 2 rfl) ?_
      refine va_iald hx hb hK.1 hP 4 0 rfl rfl (vp_in_iff.mpr h_14) dM_touch_116 ?_
      refine lv_i2l hx hb dM_touch_117 rfl ?_
      refine lv_aload_n hx hb dM_touch_118 rfl (lv_at hl 1 rfl) ?_
      refine va_get (D := g.1) (ci := 6) (v := .ref (b 5)) (C := "NodeMakerModel") (T := Fd_M) (N := 37) hx hb ht i_M hown hK.1 hP 0 rfl rfl 5 (by decide) (ht _ q_530) (fun _ h9 => h9) rfl dM_touch_119 ?_
      refine lv_iload_n hx hb dM_touch_122 rfl (lv_at hl 2 rfl) ?_
      refine va_iald hx hb hK.1 hP 5 0 rfl rfl (vp_in_iff.mpr h_14) dM_touch_123 ?_
      refine lv_i2l hx hb dM_touch_124 rfl ?_
      obtain ⟨r_40, hc_41⟩ : ∃ r9, sM_sideOf mz j (((mz.2.1 4) i.toNatClampNeg).toInt64) (((mz.2.1 5) i.toNatClampNeg).toInt64) = some r9 := by
        cases hc9 : sM_sideOf mz j (((mz.2.1 4) i.toNatClampNeg).toInt64) (((mz.2.1 5) i.toNatClampNeg).toInt64) with
        | some r9 => exact ⟨r9, rfl⟩
        | none => exfalso; simp only [sM_touch, if_pos h_14, hc_16, if_pos c_17, if_pos h_18, hc_20, hc_22, if_neg c_23, hc_39, hc9] at hok; cases hok
      refine ro_Vl (v := r_40) (As := [.int j, .long (((mz.2.1 4) i.toNatClampNeg).toInt64), .long (((mz.2.1 5) i.toNatClampNeg).toInt64)]) (rest := [.long r_38]) ⟨hx, hb, hml, hown, ht⟩ (cM_sideOf l g aM b mz j (((mz.2.1 4) i.toNatClampNeg).toInt64) (((mz.2.1 5) i.toNatClampNeg).toInt64) r_40 hc_41) (cwV 3 ht (g_V q_658 q_660 q_14 q_39 q_661) rfl rfl rfl hd_M_sideOf ⟨Nat.le_of_ble_eq_true rfl, Nat.le_of_ble_eq_true rfl⟩) hK (hP) (va_recv hK.1 hP (ci := 6) (q0 := 0) rfl rfl) rfl hl.1 rfl (Nat.le_of_ble_eq_true rfl) dM_touch_125 ⟨by show 0 ≤ 0; omega, by show 0 ≤ 0; omega⟩ ?_
      refine ro_Si (v := sM_areOpposite r_38 r_40) (As := [.long r_38, .long r_40]) (rest := []) ⟨hx, hb, hml, hown, ht⟩ (cM_areOpposite l g r_38 r_40) (cwS 2 ht (g_S q_665 q_666 q_39 q_667) rfl rfl rfl hd_M_areOpposite ⟨Nat.le_of_ble_eq_true rfl, Nat.le_of_ble_eq_true rfl⟩) hK (trivial) rfl hl.1 rfl (Nat.le_of_ble_eq_true rfl) dM_touch_128 ⟨by show 0 ≤ 0; omega, by show 0 ≤ 0; omega⟩ ?_
      refine lv_if_eq (tgt := 138) hx hb dM_touch_131 (by decide) (fun c_42 => ?_) (fun c_42 => ?_)
      · skip
        refine lv_iconst (v := 0) hx hb dM_touch_138 (by decide) ?_
        refine lv_istore (lv' := [(4, .int 0), (3, .int 0), (0, .ref aM), (1, .int i), (2, .int j)]) hx hb dM_touch_139 hl (by decide) rfl (fun ls hl => ?_)
        refine lv_iload_n hx hb dM_touch_141 rfl (lv_at hl 1 rfl) ?_
        refine lv_if_ne (tgt := 230) hx hb dM_touch_142 (by decide) (fun c_43 => ?_) (fun c_43 => ?_)
        · skip
          exact absurd (by decide) c_43
        · skip
          refine lv_iload hx hb dM_touch_145 (lv_at hl 0 rfl) ?_
          refine lv_if_ne (tgt := 230) hx hb dM_touch_147 (by decide) (fun c_44 => ?_) (fun c_44 => ?_)
          · skip
            exact absurd (by decide) c_44
          · skip
            refine lv_aload_n hx hb dM_touch_150 rfl (lv_at hl 2 rfl) ?_
            refine lv_iload_n hx hb dM_touch_151 rfl (lv_at hl 3 rfl) ?_
            refine lv_aload_n hx hb dM_touch_152 rfl (lv_at hl 2 rfl) ?_
            refine va_get (D := g.1) (ci := 6) (v := .ref (b 2)) (C := "NodeMakerModel") (T := Fd_M) (N := 37) hx hb ht i_M hown hK.1 hP 0 rfl rfl 2 (by decide) (ht _ q_527) (fun _ h9 => h9) rfl dM_touch_153 ?_
            refine lv_iload_n hx hb dM_touch_156 rfl (lv_at hl 4 rfl) ?_
            refine va_iald hx hb hK.1 hP 2 0 rfl rfl (vp_in_iff.mpr h_18) dM_touch_157 ?_
            refine lv_aload_n hx hb dM_touch_158 rfl (lv_at hl 2 rfl) ?_
            refine va_get (D := g.1) (ci := 6) (v := .ref (b 3)) (C := "NodeMakerModel") (T := Fd_M) (N := 37) hx hb ht i_M hown hK.1 hP 0 rfl rfl 3 (by decide) (ht _ q_528) (fun _ h9 => h9) rfl dM_touch_159 ?_
            refine lv_iload_n hx hb dM_touch_162 rfl (lv_at hl 4 rfl) ?_
            refine va_iald hx hb hK.1 hP 3 0 rfl rfl (vp_in_iff.mpr h_18) dM_touch_163 ?_
            obtain ⟨r_45, hc_46⟩ : ∃ r9, sM_lies mz i ((mz.2.1 2) j.toNatClampNeg) ((mz.2.1 3) j.toNatClampNeg) = some r9 := by
              cases hc9 : sM_lies mz i ((mz.2.1 2) j.toNatClampNeg) ((mz.2.1 3) j.toNatClampNeg) with
              | some r9 => exact ⟨r9, rfl⟩
              | none => exfalso; simp only [sM_touch, if_pos h_14, hc_16, if_pos c_17, if_pos h_18, hc_20, hc_22, if_neg c_23, hc_39, hc_41, if_pos c_42, hc9] at hok; cases hok
            refine ro_Vi (v := r_45) (As := [.int i, .int ((mz.2.1 2) j.toNatClampNeg), .int ((mz.2.1 3) j.toNatClampNeg)]) (rest := []) ⟨hx, hb, hml, hown, ht⟩ (cM_lies l g aM b mz i ((mz.2.1 2) j.toNatClampNeg) ((mz.2.1 3) j.toNatClampNeg) r_45 hc_46) (cwV 3 ht (g_V q_668 q_670 q_15 q_39 q_671) rfl rfl rfl hd_M_lies ⟨Nat.le_of_ble_eq_true rfl, Nat.le_of_ble_eq_true rfl⟩) hK (hP) (va_recv hK.1 hP (ci := 6) (q0 := 0) rfl rfl) rfl hl.1 rfl (Nat.le_of_ble_eq_true rfl) dM_touch_164 ⟨by show 0 ≤ 0; omega, by show 0 ≤ 0; omega⟩ ?_
            refine lv_if_ne (tgt := 230) hx hb dM_touch_167 (by decide) (fun c_47 => ?_) (fun c_47 => ?_)
            · skip
              refine lv_iconst (v := 1) hx hb dM_touch_230 (by decide) ?_
              refine lv_goto (tgt := 235) hx hb dM_touch_231 (by decide) ?_
              simp only [sM_touch, if_pos h_14, hc_16, if_pos c_17, if_pos h_18, hc_20, hc_22, if_neg c_23, hc_39, hc_41, if_pos c_42, hc_46, if_neg c_47] at hok
              exact W.zret hx hb hr rfl (fun t ht9 hW => ⟨_, rfl, Option.some.inj hok, ht9⟩) (fun q h => by cases h) dM_touch_235
            · skip
              refine lv_aload_n hx hb dM_touch_170 rfl (lv_at hl 2 rfl) ?_
              refine lv_iload_n hx hb dM_touch_171 rfl (lv_at hl 3 rfl) ?_
              refine lv_aload_n hx hb dM_touch_172 rfl (lv_at hl 2 rfl) ?_
              refine va_get (D := g.1) (ci := 6) (v := .ref (b 4)) (C := "NodeMakerModel") (T := Fd_M) (N := 37) hx hb ht i_M hown hK.1 hP 0 rfl rfl 4 (by decide) (ht _ q_529) (fun _ h9 => h9) rfl dM_touch_173 ?_
              refine lv_iload_n hx hb dM_touch_176 rfl (lv_at hl 4 rfl) ?_
              refine va_iald hx hb hK.1 hP 4 0 rfl rfl (vp_in_iff.mpr h_18) dM_touch_177 ?_
              refine lv_aload_n hx hb dM_touch_178 rfl (lv_at hl 2 rfl) ?_
              refine va_get (D := g.1) (ci := 6) (v := .ref (b 5)) (C := "NodeMakerModel") (T := Fd_M) (N := 37) hx hb ht i_M hown hK.1 hP 0 rfl rfl 5 (by decide) (ht _ q_530) (fun _ h9 => h9) rfl dM_touch_179 ?_
              refine lv_iload_n hx hb dM_touch_182 rfl (lv_at hl 4 rfl) ?_
              refine va_iald hx hb hK.1 hP 5 0 rfl rfl (vp_in_iff.mpr h_18) dM_touch_183 ?_
              obtain ⟨r_48, hc_49⟩ : ∃ r9, sM_lies mz i ((mz.2.1 4) j.toNatClampNeg) ((mz.2.1 5) j.toNatClampNeg) = some r9 := by
                cases hc9 : sM_lies mz i ((mz.2.1 4) j.toNatClampNeg) ((mz.2.1 5) j.toNatClampNeg) with
                | some r9 => exact ⟨r9, rfl⟩
                | none => exfalso; simp only [sM_touch, if_pos h_14, hc_16, if_pos c_17, if_pos h_18, hc_20, hc_22, if_neg c_23, hc_39, hc_41, if_pos c_42, hc_46, if_pos c_47, hc9] at hok; cases hok
              refine ro_Vi (v := r_48) (As := [.int i, .int ((mz.2.1 4) j.toNatClampNeg), .int ((mz.2.1 5) j.toNatClampNeg)]) (rest := []) ⟨hx, hb, hml, hown, ht⟩ (cM_lies l g aM b mz i ((mz.2.1 4) j.toNatClampNeg) ((mz.2.1 5) j.toNatClampNeg) r_48 hc_49) (cwV 3 ht (g_V q_668 q_670 q_15 q_39 q_671) rfl rfl rfl hd_M_lies ⟨Nat.le_of_ble_eq_true rfl, Nat.le_of_ble_eq_true rfl⟩) hK (hP) (va_recv hK.1 hP (ci := 6) (q0 := 0) rfl rfl) rfl hl.1 rfl (Nat.le_of_ble_eq_true rfl) dM_touch_184 ⟨by show 0 ≤ 0; omega, by show 0 ≤ 0; omega⟩ ?_
              refine lv_if_ne (tgt := 230) hx hb dM_touch_187 (by decide) (fun c_50 => ?_) (fun c_50 => ?_)
              · skip
                refine lv_iconst (v := 1) hx hb dM_touch_230 (by decide) ?_
                refine lv_goto (tgt := 235) hx hb dM_touch_231 (by decide) ?_
                simp only [sM_touch, if_pos h_14, hc_16, if_pos c_17, if_pos h_18, hc_20, hc_22, if_neg c_23, hc_39, hc_41, if_pos c_42, hc_46, if_pos c_47, hc_49, if_neg c_50] at hok
                exact W.zret hx hb hr rfl (fun t ht9 hW => ⟨_, rfl, Option.some.inj hok, ht9⟩) (fun q h => by cases h) dM_touch_235
              · skip
                refine lv_aload_n hx hb dM_touch_190 rfl (lv_at hl 2 rfl) ?_
                refine lv_iload_n hx hb dM_touch_191 rfl (lv_at hl 4 rfl) ?_
                refine lv_aload_n hx hb dM_touch_192 rfl (lv_at hl 2 rfl) ?_
                refine va_get (D := g.1) (ci := 6) (v := .ref (b 2)) (C := "NodeMakerModel") (T := Fd_M) (N := 37) hx hb ht i_M hown hK.1 hP 0 rfl rfl 2 (by decide) (ht _ q_527) (fun _ h9 => h9) rfl dM_touch_193 ?_
                refine lv_iload_n hx hb dM_touch_196 rfl (lv_at hl 3 rfl) ?_
                refine va_iald hx hb hK.1 hP 2 0 rfl rfl (vp_in_iff.mpr h_14) dM_touch_197 ?_
                refine lv_aload_n hx hb dM_touch_198 rfl (lv_at hl 2 rfl) ?_
                refine va_get (D := g.1) (ci := 6) (v := .ref (b 3)) (C := "NodeMakerModel") (T := Fd_M) (N := 37) hx hb ht i_M hown hK.1 hP 0 rfl rfl 3 (by decide) (ht _ q_528) (fun _ h9 => h9) rfl dM_touch_199 ?_
                refine lv_iload_n hx hb dM_touch_202 rfl (lv_at hl 3 rfl) ?_
                refine va_iald hx hb hK.1 hP 3 0 rfl rfl (vp_in_iff.mpr h_14) dM_touch_203 ?_
                obtain ⟨r_51, hc_52⟩ : ∃ r9, sM_lies mz j ((mz.2.1 2) i.toNatClampNeg) ((mz.2.1 3) i.toNatClampNeg) = some r9 := by
                  cases hc9 : sM_lies mz j ((mz.2.1 2) i.toNatClampNeg) ((mz.2.1 3) i.toNatClampNeg) with
                  | some r9 => exact ⟨r9, rfl⟩
                  | none => exfalso; simp only [sM_touch, if_pos h_14, hc_16, if_pos c_17, if_pos h_18, hc_20, hc_22, if_neg c_23, hc_39, hc_41, if_pos c_42, hc_46, if_pos c_47, hc_49, if_pos c_50, hc9] at hok; cases hok
                refine ro_Vi (v := r_51) (As := [.int j, .int ((mz.2.1 2) i.toNatClampNeg), .int ((mz.2.1 3) i.toNatClampNeg)]) (rest := []) ⟨hx, hb, hml, hown, ht⟩ (cM_lies l g aM b mz j ((mz.2.1 2) i.toNatClampNeg) ((mz.2.1 3) i.toNatClampNeg) r_51 hc_52) (cwV 3 ht (g_V q_668 q_670 q_15 q_39 q_671) rfl rfl rfl hd_M_lies ⟨Nat.le_of_ble_eq_true rfl, Nat.le_of_ble_eq_true rfl⟩) hK (hP) (va_recv hK.1 hP (ci := 6) (q0 := 0) rfl rfl) rfl hl.1 rfl (Nat.le_of_ble_eq_true rfl) dM_touch_204 ⟨by show 0 ≤ 0; omega, by show 0 ≤ 0; omega⟩ ?_
                refine lv_if_ne (tgt := 230) hx hb dM_touch_207 (by decide) (fun c_53 => ?_) (fun c_53 => ?_)
                · skip
                  refine lv_iconst (v := 1) hx hb dM_touch_230 (by decide) ?_
                  refine lv_goto (tgt := 235) hx hb dM_touch_231 (by decide) ?_
                  simp only [sM_touch, if_pos h_14, hc_16, if_pos c_17, if_pos h_18, hc_20, hc_22, if_neg c_23, hc_39, hc_41, if_pos c_42, hc_46, if_pos c_47, hc_49, if_pos c_50, hc_52, if_neg c_53] at hok
                  exact W.zret hx hb hr rfl (fun t ht9 hW => ⟨_, rfl, Option.some.inj hok, ht9⟩) (fun q h => by cases h) dM_touch_235
                · skip
                  refine lv_aload_n hx hb dM_touch_210 rfl (lv_at hl 2 rfl) ?_
                  refine lv_iload_n hx hb dM_touch_211 rfl (lv_at hl 4 rfl) ?_
                  refine lv_aload_n hx hb dM_touch_212 rfl (lv_at hl 2 rfl) ?_
                  refine va_get (D := g.1) (ci := 6) (v := .ref (b 4)) (C := "NodeMakerModel") (T := Fd_M) (N := 37) hx hb ht i_M hown hK.1 hP 0 rfl rfl 4 (by decide) (ht _ q_529) (fun _ h9 => h9) rfl dM_touch_213 ?_
                  refine lv_iload_n hx hb dM_touch_216 rfl (lv_at hl 3 rfl) ?_
                  refine va_iald hx hb hK.1 hP 4 0 rfl rfl (vp_in_iff.mpr h_14) dM_touch_217 ?_
                  refine lv_aload_n hx hb dM_touch_218 rfl (lv_at hl 2 rfl) ?_
                  refine va_get (D := g.1) (ci := 6) (v := .ref (b 5)) (C := "NodeMakerModel") (T := Fd_M) (N := 37) hx hb ht i_M hown hK.1 hP 0 rfl rfl 5 (by decide) (ht _ q_530) (fun _ h9 => h9) rfl dM_touch_219 ?_
                  refine lv_iload_n hx hb dM_touch_222 rfl (lv_at hl 3 rfl) ?_
                  refine va_iald hx hb hK.1 hP 5 0 rfl rfl (vp_in_iff.mpr h_14) dM_touch_223 ?_
                  obtain ⟨r_54, hc_55⟩ : ∃ r9, sM_lies mz j ((mz.2.1 4) i.toNatClampNeg) ((mz.2.1 5) i.toNatClampNeg) = some r9 := by
                    cases hc9 : sM_lies mz j ((mz.2.1 4) i.toNatClampNeg) ((mz.2.1 5) i.toNatClampNeg) with
                    | some r9 => exact ⟨r9, rfl⟩
                    | none => exfalso; simp only [sM_touch, if_pos h_14, hc_16, if_pos c_17, if_pos h_18, hc_20, hc_22, if_neg c_23, hc_39, hc_41, if_pos c_42, hc_46, if_pos c_47, hc_49, if_pos c_50, hc_52, if_pos c_53, hc9] at hok; cases hok
                  refine ro_Vi (v := r_54) (As := [.int j, .int ((mz.2.1 4) i.toNatClampNeg), .int ((mz.2.1 5) i.toNatClampNeg)]) (rest := []) ⟨hx, hb, hml, hown, ht⟩ (cM_lies l g aM b mz j ((mz.2.1 4) i.toNatClampNeg) ((mz.2.1 5) i.toNatClampNeg) r_54 hc_55) (cwV 3 ht (g_V q_668 q_670 q_15 q_39 q_671) rfl rfl rfl hd_M_lies ⟨Nat.le_of_ble_eq_true rfl, Nat.le_of_ble_eq_true rfl⟩) hK (hP) (va_recv hK.1 hP (ci := 6) (q0 := 0) rfl rfl) rfl hl.1 rfl (Nat.le_of_ble_eq_true rfl) dM_touch_224 ⟨by show 0 ≤ 0; omega, by show 0 ≤ 0; omega⟩ ?_
                  refine lv_if_eq (tgt := 234) hx hb dM_touch_227 (by decide) (fun c_56 => ?_) (fun c_56 => ?_)
                  · skip
                    refine lv_iconst (v := 0) hx hb dM_touch_234 (by decide) ?_
                    simp only [sM_touch, if_pos h_14, hc_16, if_pos c_17, if_pos h_18, hc_20, hc_22, if_neg c_23, hc_39, hc_41, if_pos c_42, hc_46, if_pos c_47, hc_49, if_pos c_50, hc_52, if_pos c_53, hc_55, if_pos c_56] at hok
                    exact W.zret hx hb hr rfl (fun t ht9 hW => ⟨_, rfl, Option.some.inj hok, ht9⟩) (fun q h => by cases h) dM_touch_235
                  · skip
                    refine lv_iconst (v := 1) hx hb dM_touch_230 (by decide) ?_
                    refine lv_goto (tgt := 235) hx hb dM_touch_231 (by decide) ?_
                    simp only [sM_touch, if_pos h_14, hc_16, if_pos c_17, if_pos h_18, hc_20, hc_22, if_neg c_23, hc_39, hc_41, if_pos c_42, hc_46, if_pos c_47, hc_49, if_pos c_50, hc_52, if_pos c_53, hc_55, if_neg c_56] at hok
                    exact W.zret hx hb hr rfl (fun t ht9 hW => ⟨_, rfl, Option.some.inj hok, ht9⟩) (fun q h => by cases h) dM_touch_235
      · skip
        refine lv_iconst (v := 1) hx hb dM_touch_134 (by decide) ?_
        refine lv_goto (tgt := 139) hx hb dM_touch_135 (by decide) ?_
        refine lv_istore (lv' := [(4, .int 1), (3, .int 0), (0, .ref aM), (1, .int i), (2, .int j)]) hx hb dM_touch_139 hl (by decide) rfl (fun ls hl => ?_)
        refine lv_iload_n hx hb dM_touch_141 rfl (lv_at hl 1 rfl) ?_
        refine lv_if_ne (tgt := 230) hx hb dM_touch_142 (by decide) (fun c_57 => ?_) (fun c_57 => ?_)
        · skip
          exact absurd (by decide) c_57
        · skip
          refine lv_iload hx hb dM_touch_145 (lv_at hl 0 rfl) ?_
          refine lv_if_ne (tgt := 230) hx hb dM_touch_147 (by decide) (fun c_58 => ?_) (fun c_58 => ?_)
          · skip
            refine lv_iconst (v := 1) hx hb dM_touch_230 (by decide) ?_
            refine lv_goto (tgt := 235) hx hb dM_touch_231 (by decide) ?_
            simp only [sM_touch, if_pos h_14, hc_16, if_pos c_17, if_pos h_18, hc_20, hc_22, if_neg c_23, hc_39, hc_41, if_neg c_42] at hok
            exact W.zret hx hb hr rfl (fun t ht9 hW => ⟨_, rfl, Option.some.inj hok, ht9⟩) (fun q h => by cases h) dM_touch_235
          · skip
            exact absurd c_58 (by decide)
  · skip
    refine lv_aload_n hx hb dM_touch_20 rfl (lv_at hl 0 rfl) ?_
    refine lv_iload_n hx hb dM_touch_21 rfl (lv_at hl 2 rfl) ?_
    refine lv_aload_n hx hb dM_touch_22 rfl (lv_at hl 0 rfl) ?_
    refine va_get (D := g.1) (ci := 6) (v := .ref (b 4)) (C := "NodeMakerModel") (T := Fd_M) (N := 37) hx hb ht i_M hown hK.1 hP 0 rfl rfl 4 (by decide) (ht _ q_529) (fun _ h9 => h9) rfl dM_touch_23 ?_
    refine lv_iload_n hx hb dM_touch_26 rfl (lv_at hl 1 rfl) ?_
    refine va_iald hx hb hK.1 hP 4 0 rfl rfl (vp_in_iff.mpr h_14) dM_touch_27 ?_
    refine lv_aload_n hx hb dM_touch_28 rfl (lv_at hl 0 rfl) ?_
    refine va_get (D := g.1) (ci := 6) (v := .ref (b 5)) (C := "NodeMakerModel") (T := Fd_M) (N := 37) hx hb ht i_M hown hK.1 hP 0 rfl rfl 5 (by decide) (ht _ q_530) (fun _ h9 => h9) rfl dM_touch_29 ?_
    refine lv_iload_n hx hb dM_touch_32 rfl (lv_at hl 1 rfl) ?_
    refine va_iald hx hb hK.1 hP 5 0 rfl rfl (vp_in_iff.mpr h_14) dM_touch_33 ?_
    obtain ⟨r_59, hc_60⟩ : ∃ r9, sM_isEnd mz j ((mz.2.1 4) i.toNatClampNeg) ((mz.2.1 5) i.toNatClampNeg) = some r9 := by
      cases hc9 : sM_isEnd mz j ((mz.2.1 4) i.toNatClampNeg) ((mz.2.1 5) i.toNatClampNeg) with
      | some r9 => exact ⟨r9, rfl⟩
      | none => exfalso; simp only [sM_touch, if_pos h_14, hc_16, if_neg c_17, hc9] at hok; cases hok
    refine ro_Vi (v := r_59) (As := [.int j, .int ((mz.2.1 4) i.toNatClampNeg), .int ((mz.2.1 5) i.toNatClampNeg)]) (rest := []) ⟨hx, hb, hml, hown, ht⟩ (cM_isEnd l g aM b mz j ((mz.2.1 4) i.toNatClampNeg) ((mz.2.1 5) i.toNatClampNeg) r_59 hc_60) (cwV 3 ht (g_V q_654 q_656 q_13 q_39 q_657) rfl rfl rfl hd_M_isEnd ⟨Nat.le_of_ble_eq_true rfl, Nat.le_of_ble_eq_true rfl⟩) hK (hP) (va_recv hK.1 hP (ci := 6) (q0 := 0) rfl rfl) rfl hl.1 rfl (Nat.le_of_ble_eq_true rfl) dM_touch_34 ⟨by show 0 ≤ 0; omega, by show 0 ≤ 0; omega⟩ ?_
    refine lv_if_eq (tgt := 44) hx hb dM_touch_37 (by decide) (fun c_61 => ?_) (fun c_61 => ?_)
    · skip
      refine lv_iconst (v := 0) hx hb dM_touch_44 (by decide) ?_
      refine lv_istore_n (lv' := [(3, .int 0), (0, .ref aM), (1, .int i), (2, .int j)]) hx hb dM_touch_45 rfl hl (by decide) rfl (fun ls hl => ?_)
      refine lv_aload_n hx hb dM_touch_46 rfl (lv_at hl 1 rfl) ?_
      refine lv_iload_n hx hb dM_touch_47 rfl (lv_at hl 2 rfl) ?_
      refine lv_aload_n hx hb dM_touch_48 rfl (lv_at hl 1 rfl) ?_
      refine va_get (D := g.1) (ci := 6) (v := .ref (b 2)) (C := "NodeMakerModel") (T := Fd_M) (N := 37) hx hb ht i_M hown hK.1 hP 0 rfl rfl 2 (by decide) (ht _ q_527) (fun _ h9 => h9) rfl dM_touch_49 ?_
      refine lv_iload_n hx hb dM_touch_52 rfl (lv_at hl 3 rfl) ?_
      have h_62 : vpin j 64 := Decidable.byContradiction (fun h9 => by simp only [sM_touch, if_pos h_14, hc_16, if_neg c_17, hc_60, if_pos c_61, if_neg h9] at hok; cases hok)
      refine va_iald hx hb hK.1 hP 2 0 rfl rfl (vp_in_iff.mpr h_62) dM_touch_53 ?_
      refine lv_i2l hx hb dM_touch_54 rfl ?_
      refine lv_aload_n hx hb dM_touch_55 rfl (lv_at hl 1 rfl) ?_
      refine va_get (D := g.1) (ci := 6) (v := .ref (b 3)) (C := "NodeMakerModel") (T := Fd_M) (N := 37) hx hb ht i_M hown hK.1 hP 0 rfl rfl 3 (by decide) (ht _ q_528) (fun _ h9 => h9) rfl dM_touch_56 ?_
      refine lv_iload_n hx hb dM_touch_59 rfl (lv_at hl 3 rfl) ?_
      refine va_iald hx hb hK.1 hP 3 0 rfl rfl (vp_in_iff.mpr h_62) dM_touch_60 ?_
      refine lv_i2l hx hb dM_touch_61 rfl ?_
      obtain ⟨r_63, hc_64⟩ : ∃ r9, sM_sideOf mz i (((mz.2.1 2) j.toNatClampNeg).toInt64) (((mz.2.1 3) j.toNatClampNeg).toInt64) = some r9 := by
        cases hc9 : sM_sideOf mz i (((mz.2.1 2) j.toNatClampNeg).toInt64) (((mz.2.1 3) j.toNatClampNeg).toInt64) with
        | some r9 => exact ⟨r9, rfl⟩
        | none => exfalso; simp only [sM_touch, if_pos h_14, hc_16, if_neg c_17, hc_60, if_pos c_61, if_pos h_62, hc9] at hok; cases hok
      refine ro_Vl (v := r_63) (As := [.int i, .long (((mz.2.1 2) j.toNatClampNeg).toInt64), .long (((mz.2.1 3) j.toNatClampNeg).toInt64)]) (rest := []) ⟨hx, hb, hml, hown, ht⟩ (cM_sideOf l g aM b mz i (((mz.2.1 2) j.toNatClampNeg).toInt64) (((mz.2.1 3) j.toNatClampNeg).toInt64) r_63 hc_64) (cwV 3 ht (g_V q_658 q_660 q_14 q_39 q_661) rfl rfl rfl hd_M_sideOf ⟨Nat.le_of_ble_eq_true rfl, Nat.le_of_ble_eq_true rfl⟩) hK (hP) (va_recv hK.1 hP (ci := 6) (q0 := 0) rfl rfl) rfl hl.1 rfl (Nat.le_of_ble_eq_true rfl) dM_touch_62 ⟨by show 0 ≤ 0; omega, by show 0 ≤ 0; omega⟩ ?_
      refine lv_aload_n hx hb dM_touch_65 rfl (lv_at hl 1 rfl) ?_
      refine lv_iload_n hx hb dM_touch_66 rfl (lv_at hl 2 rfl) ?_
      refine lv_aload_n hx hb dM_touch_67 rfl (lv_at hl 1 rfl) ?_
      refine va_get (D := g.1) (ci := 6) (v := .ref (b 4)) (C := "NodeMakerModel") (T := Fd_M) (N := 37) hx hb ht i_M hown hK.1 hP 0 rfl rfl 4 (by decide) (ht _ q_529) (fun _ h9 => h9) rfl dM_touch_68 ?_
      refine lv_iload_n hx hb dM_touch_71 rfl (lv_at hl 3 rfl) ?_
      refine va_iald hx hb hK.1 hP 4 0 rfl rfl (vp_in_iff.mpr h_62) dM_touch_72 ?_
      refine lv_i2l hx hb dM_touch_73 rfl ?_
      refine lv_aload_n hx hb dM_touch_74 rfl (lv_at hl 1 rfl) ?_
      refine va_get (D := g.1) (ci := 6) (v := .ref (b 5)) (C := "NodeMakerModel") (T := Fd_M) (N := 37) hx hb ht i_M hown hK.1 hP 0 rfl rfl 5 (by decide) (ht _ q_530) (fun _ h9 => h9) rfl dM_touch_75 ?_
      refine lv_iload_n hx hb dM_touch_78 rfl (lv_at hl 3 rfl) ?_
      refine va_iald hx hb hK.1 hP 5 0 rfl rfl (vp_in_iff.mpr h_62) dM_touch_79 ?_
      refine lv_i2l hx hb dM_touch_80 rfl ?_
      obtain ⟨r_65, hc_66⟩ : ∃ r9, sM_sideOf mz i (((mz.2.1 4) j.toNatClampNeg).toInt64) (((mz.2.1 5) j.toNatClampNeg).toInt64) = some r9 := by
        cases hc9 : sM_sideOf mz i (((mz.2.1 4) j.toNatClampNeg).toInt64) (((mz.2.1 5) j.toNatClampNeg).toInt64) with
        | some r9 => exact ⟨r9, rfl⟩
        | none => exfalso; simp only [sM_touch, if_pos h_14, hc_16, if_neg c_17, hc_60, if_pos c_61, if_pos h_62, hc_64, hc9] at hok; cases hok
      refine ro_Vl (v := r_65) (As := [.int i, .long (((mz.2.1 4) j.toNatClampNeg).toInt64), .long (((mz.2.1 5) j.toNatClampNeg).toInt64)]) (rest := [.long r_63]) ⟨hx, hb, hml, hown, ht⟩ (cM_sideOf l g aM b mz i (((mz.2.1 4) j.toNatClampNeg).toInt64) (((mz.2.1 5) j.toNatClampNeg).toInt64) r_65 hc_66) (cwV 3 ht (g_V q_658 q_660 q_14 q_39 q_661) rfl rfl rfl hd_M_sideOf ⟨Nat.le_of_ble_eq_true rfl, Nat.le_of_ble_eq_true rfl⟩) hK (hP) (va_recv hK.1 hP (ci := 6) (q0 := 0) rfl rfl) rfl hl.1 rfl (Nat.le_of_ble_eq_true rfl) dM_touch_81 ⟨by show 0 ≤ 0; omega, by show 0 ≤ 0; omega⟩ ?_
      refine ro_Si (v := sM_areOpposite r_63 r_65) (As := [.long r_63, .long r_65]) (rest := []) ⟨hx, hb, hml, hown, ht⟩ (cM_areOpposite l g r_63 r_65) (cwS 2 ht (g_S q_665 q_666 q_39 q_667) rfl rfl rfl hd_M_areOpposite ⟨Nat.le_of_ble_eq_true rfl, Nat.le_of_ble_eq_true rfl⟩) hK (trivial) rfl hl.1 rfl (Nat.le_of_ble_eq_true rfl) dM_touch_84 ⟨by show 0 ≤ 0; omega, by show 0 ≤ 0; omega⟩ ?_
      refine lv_if_eq (tgt := 138) hx hb dM_touch_87 (by decide) (fun c_67 => ?_) (fun c_67 => ?_)
      · skip
        refine lv_iconst (v := 0) hx hb dM_touch_138 (by decide) ?_
        refine lv_istore (lv' := [(4, .int 0), (3, .int 0), (0, .ref aM), (1, .int i), (2, .int j)]) hx hb dM_touch_139 hl (by decide) rfl (fun ls hl => ?_)
        refine lv_iload_n hx hb dM_touch_141 rfl (lv_at hl 1 rfl) ?_
        refine lv_if_ne (tgt := 230) hx hb dM_touch_142 (by decide) (fun c_68 => ?_) (fun c_68 => ?_)
        · skip
          exact absurd (by decide) c_68
        · skip
          refine lv_iload hx hb dM_touch_145 (lv_at hl 0 rfl) ?_
          refine lv_if_ne (tgt := 230) hx hb dM_touch_147 (by decide) (fun c_69 => ?_) (fun c_69 => ?_)
          · skip
            exact absurd (by decide) c_69
          · skip
            refine lv_aload_n hx hb dM_touch_150 rfl (lv_at hl 2 rfl) ?_
            refine lv_iload_n hx hb dM_touch_151 rfl (lv_at hl 3 rfl) ?_
            refine lv_aload_n hx hb dM_touch_152 rfl (lv_at hl 2 rfl) ?_
            refine va_get (D := g.1) (ci := 6) (v := .ref (b 2)) (C := "NodeMakerModel") (T := Fd_M) (N := 37) hx hb ht i_M hown hK.1 hP 0 rfl rfl 2 (by decide) (ht _ q_527) (fun _ h9 => h9) rfl dM_touch_153 ?_
            refine lv_iload_n hx hb dM_touch_156 rfl (lv_at hl 4 rfl) ?_
            refine va_iald hx hb hK.1 hP 2 0 rfl rfl (vp_in_iff.mpr h_62) dM_touch_157 ?_
            refine lv_aload_n hx hb dM_touch_158 rfl (lv_at hl 2 rfl) ?_
            refine va_get (D := g.1) (ci := 6) (v := .ref (b 3)) (C := "NodeMakerModel") (T := Fd_M) (N := 37) hx hb ht i_M hown hK.1 hP 0 rfl rfl 3 (by decide) (ht _ q_528) (fun _ h9 => h9) rfl dM_touch_159 ?_
            refine lv_iload_n hx hb dM_touch_162 rfl (lv_at hl 4 rfl) ?_
            refine va_iald hx hb hK.1 hP 3 0 rfl rfl (vp_in_iff.mpr h_62) dM_touch_163 ?_
            obtain ⟨r_70, hc_71⟩ : ∃ r9, sM_lies mz i ((mz.2.1 2) j.toNatClampNeg) ((mz.2.1 3) j.toNatClampNeg) = some r9 := by
              cases hc9 : sM_lies mz i ((mz.2.1 2) j.toNatClampNeg) ((mz.2.1 3) j.toNatClampNeg) with
              | some r9 => exact ⟨r9, rfl⟩
              | none => exfalso; simp only [sM_touch, if_pos h_14, hc_16, if_neg c_17, hc_60, if_pos c_61, if_pos h_62, hc_64, hc_66, if_pos c_67, hc9] at hok; cases hok
            refine ro_Vi (v := r_70) (As := [.int i, .int ((mz.2.1 2) j.toNatClampNeg), .int ((mz.2.1 3) j.toNatClampNeg)]) (rest := []) ⟨hx, hb, hml, hown, ht⟩ (cM_lies l g aM b mz i ((mz.2.1 2) j.toNatClampNeg) ((mz.2.1 3) j.toNatClampNeg) r_70 hc_71) (cwV 3 ht (g_V q_668 q_670 q_15 q_39 q_671) rfl rfl rfl hd_M_lies ⟨Nat.le_of_ble_eq_true rfl, Nat.le_of_ble_eq_true rfl⟩) hK (hP) (va_recv hK.1 hP (ci := 6) (q0 := 0) rfl rfl) rfl hl.1 rfl (Nat.le_of_ble_eq_true rfl) dM_touch_164 ⟨by show 0 ≤ 0; omega, by show 0 ≤ 0; omega⟩ ?_
            refine lv_if_ne (tgt := 230) hx hb dM_touch_167 (by decide) (fun c_72 => ?_) (fun c_72 => ?_)
            · skip
              refine lv_iconst (v := 1) hx hb dM_touch_230 (by decide) ?_
              refine lv_goto (tgt := 235) hx hb dM_touch_231 (by decide) ?_
              simp only [sM_touch, if_pos h_14, hc_16, if_neg c_17, hc_60, if_pos c_61, if_pos h_62, hc_64, hc_66, if_pos c_67, hc_71, if_neg c_72] at hok
              exact W.zret hx hb hr rfl (fun t ht9 hW => ⟨_, rfl, Option.some.inj hok, ht9⟩) (fun q h => by cases h) dM_touch_235
            · skip
              refine lv_aload_n hx hb dM_touch_170 rfl (lv_at hl 2 rfl) ?_
              refine lv_iload_n hx hb dM_touch_171 rfl (lv_at hl 3 rfl) ?_
              refine lv_aload_n hx hb dM_touch_172 rfl (lv_at hl 2 rfl) ?_
              refine va_get (D := g.1) (ci := 6) (v := .ref (b 4)) (C := "NodeMakerModel") (T := Fd_M) (N := 37) hx hb ht i_M hown hK.1 hP 0 rfl rfl 4 (by decide) (ht _ q_529) (fun _ h9 => h9) rfl dM_touch_173 ?_
              refine lv_iload_n hx hb dM_touch_176 rfl (lv_at hl 4 rfl) ?_
              refine va_iald hx hb hK.1 hP 4 0 rfl rfl (vp_in_iff.mpr h_62) dM_touch_177 ?_
              refine lv_aload_n hx hb dM_touch_178 rfl (lv_at hl 2 rfl) ?_
              refine va_get (D := g.1) (ci := 6) (v := .ref (b 5)) (C := "NodeMakerModel") (T := Fd_M) (N := 37) hx hb ht i_M hown hK.1 hP 0 rfl rfl 5 (by decide) (ht _ q_530) (fun _ h9 => h9) rfl dM_touch_179 ?_
              refine lv_iload_n hx hb dM_touch_182 rfl (lv_at hl 4 rfl) ?_
              refine va_iald hx hb hK.1 hP 5 0 rfl rfl (vp_in_iff.mpr h_62) dM_touch_183 ?_
              obtain ⟨r_73, hc_74⟩ : ∃ r9, sM_lies mz i ((mz.2.1 4) j.toNatClampNeg) ((mz.2.1 5) j.toNatClampNeg) = some r9 := by
                cases hc9 : sM_lies mz i ((mz.2.1 4) j.toNatClampNeg) ((mz.2.1 5) j.toNatClampNeg) with
                | some r9 => exact ⟨r9, rfl⟩
                | none => exfalso; simp only [sM_touch, if_pos h_14, hc_16, if_neg c_17, hc_60, if_pos c_61, if_pos h_62, hc_64, hc_66, if_pos c_67, hc_71, if_pos c_72, hc9] at hok; cases hok
              refine ro_Vi (v := r_73) (As := [.int i, .int ((mz.2.1 4) j.toNatClampNeg), .int ((mz.2.1 5) j.toNatClampNeg)]) (rest := []) ⟨hx, hb, hml, hown, ht⟩ (cM_lies l g aM b mz i ((mz.2.1 4) j.toNatClampNeg) ((mz.2.1 5) j.toNatClampNeg) r_73 hc_74) (cwV 3 ht (g_V q_668 q_670 q_15 q_39 q_671) rfl rfl rfl hd_M_lies ⟨Nat.le_of_ble_eq_true rfl, Nat.le_of_ble_eq_true rfl⟩) hK (hP) (va_recv hK.1 hP (ci := 6) (q0 := 0) rfl rfl) rfl hl.1 rfl (Nat.le_of_ble_eq_true rfl) dM_touch_184 ⟨by show 0 ≤ 0; omega, by show 0 ≤ 0; omega⟩ ?_
              refine lv_if_ne (tgt := 230) hx hb dM_touch_187 (by decide) (fun c_75 => ?_) (fun c_75 => ?_)
              · skip
                refine lv_iconst (v := 1) hx hb dM_touch_230 (by decide) ?_
                refine lv_goto (tgt := 235) hx hb dM_touch_231 (by decide) ?_
                simp only [sM_touch, if_pos h_14, hc_16, if_neg c_17, hc_60, if_pos c_61, if_pos h_62, hc_64, hc_66, if_pos c_67, hc_71, if_pos c_72, hc_74, if_neg c_75] at hok
                exact W.zret hx hb hr rfl (fun t ht9 hW => ⟨_, rfl, Option.some.inj hok, ht9⟩) (fun q h => by cases h) dM_touch_235
              · skip
                refine lv_aload_n hx hb dM_touch_190 rfl (lv_at hl 2 rfl) ?_
                refine lv_iload_n hx hb dM_touch_191 rfl (lv_at hl 4 rfl) ?_
                refine lv_aload_n hx hb dM_touch_192 rfl (lv_at hl 2 rfl) ?_
                refine va_get (D := g.1) (ci := 6) (v := .ref (b 2)) (C := "NodeMakerModel") (T := Fd_M) (N := 37) hx hb ht i_M hown hK.1 hP 0 rfl rfl 2 (by decide) (ht _ q_527) (fun _ h9 => h9) rfl dM_touch_193 ?_
                refine lv_iload_n hx hb dM_touch_196 rfl (lv_at hl 3 rfl) ?_
                refine va_iald hx hb hK.1 hP 2 0 rfl rfl (vp_in_iff.mpr h_14) dM_touch_197 ?_
                refine lv_aload_n hx hb dM_touch_198 rfl (lv_at hl 2 rfl) ?_
                refine va_get (D := g.1) (ci := 6) (v := .ref (b 3)) (C := "NodeMakerModel") (T := Fd_M) (N := 37) hx hb ht i_M hown hK.1 hP 0 rfl rfl 3 (by decide) (ht _ q_528) (fun _ h9 => h9) rfl dM_touch_199 ?_
                refine lv_iload_n hx hb dM_touch_202 rfl (lv_at hl 3 rfl) ?_
                refine va_iald hx hb hK.1 hP 3 0 rfl rfl (vp_in_iff.mpr h_14) dM_touch_203 ?_
                obtain ⟨r_76, hc_77⟩ : ∃ r9, sM_lies mz j ((mz.2.1 2) i.toNatClampNeg) ((mz.2.1 3) i.toNatClampNeg) = some r9 := by
                  cases hc9 : sM_lies mz j ((mz.2.1 2) i.toNatClampNeg) ((mz.2.1 3) i.toNatClampNeg) with
                  | some r9 => exact ⟨r9, rfl⟩
                  | none => exfalso; simp only [sM_touch, if_pos h_14, hc_16, if_neg c_17, hc_60, if_pos c_61, if_pos h_62, hc_64, hc_66, if_pos c_67, hc_71, if_pos c_72, hc_74, if_pos c_75, hc9] at hok; cases hok
                refine ro_Vi (v := r_76) (As := [.int j, .int ((mz.2.1 2) i.toNatClampNeg), .int ((mz.2.1 3) i.toNatClampNeg)]) (rest := []) ⟨hx, hb, hml, hown, ht⟩ (cM_lies l g aM b mz j ((mz.2.1 2) i.toNatClampNeg) ((mz.2.1 3) i.toNatClampNeg) r_76 hc_77) (cwV 3 ht (g_V q_668 q_670 q_15 q_39 q_671) rfl rfl rfl hd_M_lies ⟨Nat.le_of_ble_eq_true rfl, Nat.le_of_ble_eq_true rfl⟩) hK (hP) (va_recv hK.1 hP (ci := 6) (q0 := 0) rfl rfl) rfl hl.1 rfl (Nat.le_of_ble_eq_true rfl) dM_touch_204 ⟨by show 0 ≤ 0; omega, by show 0 ≤ 0; omega⟩ ?_
                refine lv_if_ne (tgt := 230) hx hb dM_touch_207 (by decide) (fun c_78 => ?_) (fun c_78 => ?_)
                · skip
                  refine lv_iconst (v := 1) hx hb dM_touch_230 (by decide) ?_
                  refine lv_goto (tgt := 235) hx hb dM_touch_231 (by decide) ?_
                  simp only [sM_touch, if_pos h_14, hc_16, if_neg c_17, hc_60, if_pos c_61, if_pos h_62, hc_64, hc_66, if_pos c_67, hc_71, if_pos c_72, hc_74, if_pos c_75, hc_77, if_neg c_78] at hok
                  exact W.zret hx hb hr rfl (fun t ht9 hW => ⟨_, rfl, Option.some.inj hok, ht9⟩) (fun q h => by cases h) dM_touch_235
                · skip
                  refine lv_aload_n hx hb dM_touch_210 rfl (lv_at hl 2 rfl) ?_
                  refine lv_iload_n hx hb dM_touch_211 rfl (lv_at hl 4 rfl) ?_
                  refine lv_aload_n hx hb dM_touch_212 rfl (lv_at hl 2 rfl) ?_
                  refine va_get (D := g.1) (ci := 6) (v := .ref (b 4)) (C := "NodeMakerModel") (T := Fd_M) (N := 37) hx hb ht i_M hown hK.1 hP 0 rfl rfl 4 (by decide) (ht _ q_529) (fun _ h9 => h9) rfl dM_touch_213 ?_
                  refine lv_iload_n hx hb dM_touch_216 rfl (lv_at hl 3 rfl) ?_
                  refine va_iald hx hb hK.1 hP 4 0 rfl rfl (vp_in_iff.mpr h_14) dM_touch_217 ?_
                  refine lv_aload_n hx hb dM_touch_218 rfl (lv_at hl 2 rfl) ?_
                  refine va_get (D := g.1) (ci := 6) (v := .ref (b 5)) (C := "NodeMakerModel") (T := Fd_M) (N := 37) hx hb ht i_M hown hK.1 hP 0 rfl rfl 5 (by decide) (ht _ q_530) (fun _ h9 => h9) rfl dM_touch_219 ?_
                  refine lv_iload_n hx hb dM_touch_222 rfl (lv_at hl 3 rfl) ?_
                  refine va_iald hx hb hK.1 hP 5 0 rfl rfl (vp_in_iff.mpr h_14) dM_touch_223 ?_
                  obtain ⟨r_79, hc_80⟩ : ∃ r9, sM_lies mz j ((mz.2.1 4) i.toNatClampNeg) ((mz.2.1 5) i.toNatClampNeg) = some r9 := by
                    cases hc9 : sM_lies mz j ((mz.2.1 4) i.toNatClampNeg) ((mz.2.1 5) i.toNatClampNeg) with
                    | some r9 => exact ⟨r9, rfl⟩
                    | none => exfalso; simp only [sM_touch, if_pos h_14, hc_16, if_neg c_17, hc_60, if_pos c_61, if_pos h_62, hc_64, hc_66, if_pos c_67, hc_71, if_pos c_72, hc_74, if_pos c_75, hc_77, if_pos c_78, hc9] at hok; cases hok
                  refine ro_Vi (v := r_79) (As := [.int j, .int ((mz.2.1 4) i.toNatClampNeg), .int ((mz.2.1 5) i.toNatClampNeg)]) (rest := []) ⟨hx, hb, hml, hown, ht⟩ (cM_lies l g aM b mz j ((mz.2.1 4) i.toNatClampNeg) ((mz.2.1 5) i.toNatClampNeg) r_79 hc_80) (cwV 3 ht (g_V q_668 q_670 q_15 q_39 q_671) rfl rfl rfl hd_M_lies ⟨Nat.le_of_ble_eq_true rfl, Nat.le_of_ble_eq_true rfl⟩) hK (hP) (va_recv hK.1 hP (ci := 6) (q0 := 0) rfl rfl) rfl hl.1 rfl (Nat.le_of_ble_eq_true rfl) dM_touch_224 ⟨by show 0 ≤ 0; omega, by show 0 ≤ 0; omega⟩ ?_
                  refine lv_if_eq (tgt := 234) hx hb dM_touch_227 (by decide) (fun c_81 => ?_) (fun c_81 => ?_)
                  · skip
                    refine lv_iconst (v := 0) hx hb dM_touch_234 (by decide) ?_
                    simp only [sM_touch, if_pos h_14, hc_16, if_neg c_17, hc_60, if_pos c_61, if_pos h_62, hc_64, hc_66, if_pos c_67, hc_71, if_pos c_72, hc_74, if_pos c_75, hc_77, if_pos c_78, hc_80, if_pos c_81] at hok
                    exact W.zret hx hb hr rfl (fun t ht9 hW => ⟨_, rfl, Option.some.inj hok, ht9⟩) (fun q h => by cases h) dM_touch_235
                  · skip
                    refine lv_iconst (v := 1) hx hb dM_touch_230 (by decide) ?_
                    refine lv_goto (tgt := 235) hx hb dM_touch_231 (by decide) ?_
                    simp only [sM_touch, if_pos h_14, hc_16, if_neg c_17, hc_60, if_pos c_61, if_pos h_62, hc_64, hc_66, if_pos c_67, hc_71, if_pos c_72, hc_74, if_pos c_75, hc_77, if_pos c_78, hc_80, if_neg c_81] at hok
                    exact W.zret hx hb hr rfl (fun t ht9 hW => ⟨_, rfl, Option.some.inj hok, ht9⟩) (fun q h => by cases h) dM_touch_235
      · skip
        refine lv_aload_n hx hb dM_touch_90 rfl (lv_at hl 1 rfl) ?_
        refine lv_iload_n hx hb dM_touch_91 rfl (lv_at hl 3 rfl) ?_
        refine lv_aload_n hx hb dM_touch_92 rfl (lv_at hl 1 rfl) ?_
        refine va_get (D := g.1) (ci := 6) (v := .ref (b 2)) (C := "NodeMakerModel") (T := Fd_M) (N := 37) hx hb ht i_M hown hK.1 hP 0 rfl rfl 2 (by decide) (ht _ q_527) (fun _ h9 => h9) rfl dM_touch_93 ?_
        refine lv_iload_n hx hb dM_touch_96 rfl (lv_at hl 2 rfl) ?_
        refine va_iald hx hb hK.1 hP 2 0 rfl rfl (vp_in_iff.mpr h_14) dM_touch_97 ?_
        refine lv_i2l hx hb dM_touch_98 rfl ?_
        refine lv_aload_n hx hb dM_touch_99 rfl (lv_at hl 1 rfl) ?_
        refine va_get (D := g.1) (ci := 6) (v := .ref (b 3)) (C := "NodeMakerModel") (T := Fd_M) (N := 37) hx hb ht i_M hown hK.1 hP 0 rfl rfl 3 (by decide) (ht _ q_528) (fun _ h9 => h9) rfl dM_touch_100 ?_
        refine lv_iload_n hx hb dM_touch_103 rfl (lv_at hl 2 rfl) ?_
        refine va_iald hx hb hK.1 hP 3 0 rfl rfl (vp_in_iff.mpr h_14) dM_touch_104 ?_
        refine lv_i2l hx hb dM_touch_105 rfl ?_
        obtain ⟨r_82, hc_83⟩ : ∃ r9, sM_sideOf mz j (((mz.2.1 2) i.toNatClampNeg).toInt64) (((mz.2.1 3) i.toNatClampNeg).toInt64) = some r9 := by
          cases hc9 : sM_sideOf mz j (((mz.2.1 2) i.toNatClampNeg).toInt64) (((mz.2.1 3) i.toNatClampNeg).toInt64) with
          | some r9 => exact ⟨r9, rfl⟩
          | none => exfalso; simp only [sM_touch, if_pos h_14, hc_16, if_neg c_17, hc_60, if_pos c_61, if_pos h_62, hc_64, hc_66, if_neg c_67, hc9] at hok; cases hok
        refine ro_Vl (v := r_82) (As := [.int j, .long (((mz.2.1 2) i.toNatClampNeg).toInt64), .long (((mz.2.1 3) i.toNatClampNeg).toInt64)]) (rest := []) ⟨hx, hb, hml, hown, ht⟩ (cM_sideOf l g aM b mz j (((mz.2.1 2) i.toNatClampNeg).toInt64) (((mz.2.1 3) i.toNatClampNeg).toInt64) r_82 hc_83) (cwV 3 ht (g_V q_658 q_660 q_14 q_39 q_661) rfl rfl rfl hd_M_sideOf ⟨Nat.le_of_ble_eq_true rfl, Nat.le_of_ble_eq_true rfl⟩) hK (hP) (va_recv hK.1 hP (ci := 6) (q0 := 0) rfl rfl) rfl hl.1 rfl (Nat.le_of_ble_eq_true rfl) dM_touch_106 ⟨by show 0 ≤ 0; omega, by show 0 ≤ 0; omega⟩ ?_
        refine lv_aload_n hx hb dM_touch_109 rfl (lv_at hl 1 rfl) ?_
        refine lv_iload_n hx hb dM_touch_110 rfl (lv_at hl 3 rfl) ?_
        refine lv_aload_n hx hb dM_touch_111 rfl (lv_at hl 1 rfl) ?_
        refine va_get (D := g.1) (ci := 6) (v := .ref (b 4)) (C := "NodeMakerModel") (T := Fd_M) (N := 37) hx hb ht i_M hown hK.1 hP 0 rfl rfl 4 (by decide) (ht _ q_529) (fun _ h9 => h9) rfl dM_touch_112 ?_
        refine lv_iload_n hx hb dM_touch_115 rfl (lv_at hl 2 rfl) ?_
        refine va_iald hx hb hK.1 hP 4 0 rfl rfl (vp_in_iff.mpr h_14) dM_touch_116 ?_
        refine lv_i2l hx hb dM_touch_117 rfl ?_
        refine lv_aload_n hx hb dM_touch_118 rfl (lv_at hl 1 rfl) ?_
        refine va_get (D := g.1) (ci := 6) (v := .ref (b 5)) (C := "NodeMakerModel") (T := Fd_M) (N := 37) hx hb ht i_M hown hK.1 hP 0 rfl rfl 5 (by decide) (ht _ q_530) (fun _ h9 => h9) rfl dM_touch_119 ?_
        refine lv_iload_n hx hb dM_touch_122 rfl (lv_at hl 2 rfl) ?_
        refine va_iald hx hb hK.1 hP 5 0 rfl rfl (vp_in_iff.mpr h_14) dM_touch_123 ?_
        refine lv_i2l hx hb dM_touch_124 rfl ?_
        obtain ⟨r_84, hc_85⟩ : ∃ r9, sM_sideOf mz j (((mz.2.1 4) i.toNatClampNeg).toInt64) (((mz.2.1 5) i.toNatClampNeg).toInt64) = some r9 := by
          cases hc9 : sM_sideOf mz j (((mz.2.1 4) i.toNatClampNeg).toInt64) (((mz.2.1 5) i.toNatClampNeg).toInt64) with
          | some r9 => exact ⟨r9, rfl⟩
          | none => exfalso; simp only [sM_touch, if_pos h_14, hc_16, if_neg c_17, hc_60, if_pos c_61, if_pos h_62, hc_64, hc_66, if_neg c_67, hc_83, hc9] at hok; cases hok
        refine ro_Vl (v := r_84) (As := [.int j, .long (((mz.2.1 4) i.toNatClampNeg).toInt64), .long (((mz.2.1 5) i.toNatClampNeg).toInt64)]) (rest := [.long r_82]) ⟨hx, hb, hml, hown, ht⟩ (cM_sideOf l g aM b mz j (((mz.2.1 4) i.toNatClampNeg).toInt64) (((mz.2.1 5) i.toNatClampNeg).toInt64) r_84 hc_85) (cwV 3 ht (g_V q_658 q_660 q_14 q_39 q_661) rfl rfl rfl hd_M_sideOf ⟨Nat.le_of_ble_eq_true rfl, Nat.le_of_ble_eq_true rfl⟩) hK (hP) (va_recv hK.1 hP (ci := 6) (q0 := 0) rfl rfl) rfl hl.1 rfl (Nat.le_of_ble_eq_true rfl) dM_touch_125 ⟨by show 0 ≤ 0; omega, by show 0 ≤ 0; omega⟩ ?_
        refine ro_Si (v := sM_areOpposite r_82 r_84) (As := [.long r_82, .long r_84]) (rest := []) ⟨hx, hb, hml, hown, ht⟩ (cM_areOpposite l g r_82 r_84) (cwS 2 ht (g_S q_665 q_666 q_39 q_667) rfl rfl rfl hd_M_areOpposite ⟨Nat.le_of_ble_eq_true rfl, Nat.le_of_ble_eq_true rfl⟩) hK (trivial) rfl hl.1 rfl (Nat.le_of_ble_eq_true rfl) dM_touch_128 ⟨by show 0 ≤ 0; omega, by show 0 ≤ 0; omega⟩ ?_
        refine lv_if_eq (tgt := 138) hx hb dM_touch_131 (by decide) (fun c_86 => ?_) (fun c_86 => ?_)
        · skip
          refine lv_iconst (v := 0) hx hb dM_touch_138 (by decide) ?_
          refine lv_istore (lv' := [(4, .int 0), (3, .int 0), (0, .ref aM), (1, .int i), (2, .int j)]) hx hb dM_touch_139 hl (by decide) rfl (fun ls hl => ?_)
          refine lv_iload_n hx hb dM_touch_141 rfl (lv_at hl 1 rfl) ?_
          refine lv_if_ne (tgt := 230) hx hb dM_touch_142 (by decide) (fun c_87 => ?_) (fun c_87 => ?_)
          · skip
            exact absurd (by decide) c_87
          · skip
            refine lv_iload hx hb dM_touch_145 (lv_at hl 0 rfl) ?_
            refine lv_if_ne (tgt := 230) hx hb dM_touch_147 (by decide) (fun c_88 => ?_) (fun c_88 => ?_)
            · skip
              exact absurd (by decide) c_88
            · skip
              refine lv_aload_n hx hb dM_touch_150 rfl (lv_at hl 2 rfl) ?_
              refine lv_iload_n hx hb dM_touch_151 rfl (lv_at hl 3 rfl) ?_
              refine lv_aload_n hx hb dM_touch_152 rfl (lv_at hl 2 rfl) ?_
              refine va_get (D := g.1) (ci := 6) (v := .ref (b 2)) (C := "NodeMakerModel") (T := Fd_M) (N := 37) hx hb ht i_M hown hK.1 hP 0 rfl rfl 2 (by decide) (ht _ q_527) (fun _ h9 => h9) rfl dM_touch_153 ?_
              refine lv_iload_n hx hb dM_touch_156 rfl (lv_at hl 4 rfl) ?_
              refine va_iald hx hb hK.1 hP 2 0 rfl rfl (vp_in_iff.mpr h_62) dM_touch_157 ?_
              refine lv_aload_n hx hb dM_touch_158 rfl (lv_at hl 2 rfl) ?_
              refine va_get (D := g.1) (ci := 6) (v := .ref (b 3)) (C := "NodeMakerModel") (T := Fd_M) (N := 37) hx hb ht i_M hown hK.1 hP 0 rfl rfl 3 (by decide) (ht _ q_528) (fun _ h9 => h9) rfl dM_touch_159 ?_
              refine lv_iload_n hx hb dM_touch_162 rfl (lv_at hl 4 rfl) ?_
              refine va_iald hx hb hK.1 hP 3 0 rfl rfl (vp_in_iff.mpr h_62) dM_touch_163 ?_
              obtain ⟨r_89, hc_90⟩ : ∃ r9, sM_lies mz i ((mz.2.1 2) j.toNatClampNeg) ((mz.2.1 3) j.toNatClampNeg) = some r9 := by
                cases hc9 : sM_lies mz i ((mz.2.1 2) j.toNatClampNeg) ((mz.2.1 3) j.toNatClampNeg) with
                | some r9 => exact ⟨r9, rfl⟩
                | none => exfalso; simp only [sM_touch, if_pos h_14, hc_16, if_neg c_17, hc_60, if_pos c_61, if_pos h_62, hc_64, hc_66, if_neg c_67, hc_83, hc_85, if_pos c_86, hc9] at hok; cases hok
              refine ro_Vi (v := r_89) (As := [.int i, .int ((mz.2.1 2) j.toNatClampNeg), .int ((mz.2.1 3) j.toNatClampNeg)]) (rest := []) ⟨hx, hb, hml, hown, ht⟩ (cM_lies l g aM b mz i ((mz.2.1 2) j.toNatClampNeg) ((mz.2.1 3) j.toNatClampNeg) r_89 hc_90) (cwV 3 ht (g_V q_668 q_670 q_15 q_39 q_671) rfl rfl rfl hd_M_lies ⟨Nat.le_of_ble_eq_true rfl, Nat.le_of_ble_eq_true rfl⟩) hK (hP) (va_recv hK.1 hP (ci := 6) (q0 := 0) rfl rfl) rfl hl.1 rfl (Nat.le_of_ble_eq_true rfl) dM_touch_164 ⟨by show 0 ≤ 0; omega, by show 0 ≤ 0; omega⟩ ?_
              refine lv_if_ne (tgt := 230) hx hb dM_touch_167 (by decide) (fun c_91 => ?_) (fun c_91 => ?_)
              · skip
                refine lv_iconst (v := 1) hx hb dM_touch_230 (by decide) ?_
                refine lv_goto (tgt := 235) hx hb dM_touch_231 (by decide) ?_
                simp only [sM_touch, if_pos h_14, hc_16, if_neg c_17, hc_60, if_pos c_61, if_pos h_62, hc_64, hc_66, if_neg c_67, hc_83, hc_85, if_pos c_86, hc_90, if_neg c_91] at hok
                exact W.zret hx hb hr rfl (fun t ht9 hW => ⟨_, rfl, Option.some.inj hok, ht9⟩) (fun q h => by cases h) dM_touch_235
              · skip
                refine lv_aload_n hx hb dM_touch_170 rfl (lv_at hl 2 rfl) ?_
                refine lv_iload_n hx hb dM_touch_171 rfl (lv_at hl 3 rfl) ?_
                refine lv_aload_n hx hb dM_touch_172 rfl (lv_at hl 2 rfl) ?_
                refine va_get (D := g.1) (ci := 6) (v := .ref (b 4)) (C := "NodeMakerModel") (T := Fd_M) (N := 37) hx hb ht i_M hown hK.1 hP 0 rfl rfl 4 (by decide) (ht _ q_529) (fun _ h9 => h9) rfl dM_touch_173 ?_
                refine lv_iload_n hx hb dM_touch_176 rfl (lv_at hl 4 rfl) ?_
                refine va_iald hx hb hK.1 hP 4 0 rfl rfl (vp_in_iff.mpr h_62) dM_touch_177 ?_
                refine lv_aload_n hx hb dM_touch_178 rfl (lv_at hl 2 rfl) ?_
                refine va_get (D := g.1) (ci := 6) (v := .ref (b 5)) (C := "NodeMakerModel") (T := Fd_M) (N := 37) hx hb ht i_M hown hK.1 hP 0 rfl rfl 5 (by decide) (ht _ q_530) (fun _ h9 => h9) rfl dM_touch_179 ?_
                refine lv_iload_n hx hb dM_touch_182 rfl (lv_at hl 4 rfl) ?_
                refine va_iald hx hb hK.1 hP 5 0 rfl rfl (vp_in_iff.mpr h_62) dM_touch_183 ?_
                obtain ⟨r_92, hc_93⟩ : ∃ r9, sM_lies mz i ((mz.2.1 4) j.toNatClampNeg) ((mz.2.1 5) j.toNatClampNeg) = some r9 := by
                  cases hc9 : sM_lies mz i ((mz.2.1 4) j.toNatClampNeg) ((mz.2.1 5) j.toNatClampNeg) with
                  | some r9 => exact ⟨r9, rfl⟩
                  | none => exfalso; simp only [sM_touch, if_pos h_14, hc_16, if_neg c_17, hc_60, if_pos c_61, if_pos h_62, hc_64, hc_66, if_neg c_67, hc_83, hc_85, if_pos c_86, hc_90, if_pos c_91, hc9] at hok; cases hok
                refine ro_Vi (v := r_92) (As := [.int i, .int ((mz.2.1 4) j.toNatClampNeg), .int ((mz.2.1 5) j.toNatClampNeg)]) (rest := []) ⟨hx, hb, hml, hown, ht⟩ (cM_lies l g aM b mz i ((mz.2.1 4) j.toNatClampNeg) ((mz.2.1 5) j.toNatClampNeg) r_92 hc_93) (cwV 3 ht (g_V q_668 q_670 q_15 q_39 q_671) rfl rfl rfl hd_M_lies ⟨Nat.le_of_ble_eq_true rfl, Nat.le_of_ble_eq_true rfl⟩) hK (hP) (va_recv hK.1 hP (ci := 6) (q0 := 0) rfl rfl) rfl hl.1 rfl (Nat.le_of_ble_eq_true rfl) dM_touch_184 ⟨by show 0 ≤ 0; omega, by show 0 ≤ 0; omega⟩ ?_
                refine lv_if_ne (tgt := 230) hx hb dM_touch_187 (by decide) (fun c_94 => ?_) (fun c_94 => ?_)
                · skip
                  refine lv_iconst (v := 1) hx hb dM_touch_230 (by decide) ?_
                  refine lv_goto (tgt := 235) hx hb dM_touch_231 (by decide) ?_
                  simp only [sM_touch, if_pos h_14, hc_16, if_neg c_17, hc_60, if_pos c_61, if_pos h_62, hc_64, hc_66, if_neg c_67, hc_83, hc_85, if_pos c_86, hc_90, if_pos c_91, hc_93, if_neg c_94] at hok
                  exact W.zret hx hb hr rfl (fun t ht9 hW => ⟨_, rfl, Option.some.inj hok, ht9⟩) (fun q h => by cases h) dM_touch_235
                · skip
                  refine lv_aload_n hx hb dM_touch_190 rfl (lv_at hl 2 rfl) ?_
                  refine lv_iload_n hx hb dM_touch_191 rfl (lv_at hl 4 rfl) ?_
                  refine lv_aload_n hx hb dM_touch_192 rfl (lv_at hl 2 rfl) ?_
                  refine va_get (D := g.1) (ci := 6) (v := .ref (b 2)) (C := "NodeMakerModel") (T := Fd_M) (N := 37) hx hb ht i_M hown hK.1 hP 0 rfl rfl 2 (by decide) (ht _ q_527) (fun _ h9 => h9) rfl dM_touch_193 ?_
                  refine lv_iload_n hx hb dM_touch_196 rfl (lv_at hl 3 rfl) ?_
                  refine va_iald hx hb hK.1 hP 2 0 rfl rfl (vp_in_iff.mpr h_14) dM_touch_197 ?_
                  refine lv_aload_n hx hb dM_touch_198 rfl (lv_at hl 2 rfl) ?_
                  refine va_get (D := g.1) (ci := 6) (v := .ref (b 3)) (C := "NodeMakerModel") (T := Fd_M) (N := 37) hx hb ht i_M hown hK.1 hP 0 rfl rfl 3 (by decide) (ht _ q_528) (fun _ h9 => h9) rfl dM_touch_199 ?_
                  refine lv_iload_n hx hb dM_touch_202 rfl (lv_at hl 3 rfl) ?_
                  refine va_iald hx hb hK.1 hP 3 0 rfl rfl (vp_in_iff.mpr h_14) dM_touch_203 ?_
                  obtain ⟨r_95, hc_96⟩ : ∃ r9, sM_lies mz j ((mz.2.1 2) i.toNatClampNeg) ((mz.2.1 3) i.toNatClampNeg) = some r9 := by
                    cases hc9 : sM_lies mz j ((mz.2.1 2) i.toNatClampNeg) ((mz.2.1 3) i.toNatClampNeg) with
                    | some r9 => exact ⟨r9, rfl⟩
                    | none => exfalso; simp only [sM_touch, if_pos h_14, hc_16, if_neg c_17, hc_60, if_pos c_61, if_pos h_62, hc_64, hc_66, if_neg c_67, hc_83, hc_85, if_pos c_86, hc_90, if_pos c_91, hc_93, if_pos c_94, hc9] at hok; cases hok
                  refine ro_Vi (v := r_95) (As := [.int j, .int ((mz.2.1 2) i.toNatClampNeg), .int ((mz.2.1 3) i.toNatClampNeg)]) (rest := []) ⟨hx, hb, hml, hown, ht⟩ (cM_lies l g aM b mz j ((mz.2.1 2) i.toNatClampNeg) ((mz.2.1 3) i.toNatClampNeg) r_95 hc_96) (cwV 3 ht (g_V q_668 q_670 q_15 q_39 q_671) rfl rfl rfl hd_M_lies ⟨Nat.le_of_ble_eq_true rfl, Nat.le_of_ble_eq_true rfl⟩) hK (hP) (va_recv hK.1 hP (ci := 6) (q0 := 0) rfl rfl) rfl hl.1 rfl (Nat.le_of_ble_eq_true rfl) dM_touch_204 ⟨by show 0 ≤ 0; omega, by show 0 ≤ 0; omega⟩ ?_
                  refine lv_if_ne (tgt := 230) hx hb dM_touch_207 (by decide) (fun c_97 => ?_) (fun c_97 => ?_)
                  · skip
                    refine lv_iconst (v := 1) hx hb dM_touch_230 (by decide) ?_
                    refine lv_goto (tgt := 235) hx hb dM_touch_231 (by decide) ?_
                    simp only [sM_touch, if_pos h_14, hc_16, if_neg c_17, hc_60, if_pos c_61, if_pos h_62, hc_64, hc_66, if_neg c_67, hc_83, hc_85, if_pos c_86, hc_90, if_pos c_91, hc_93, if_pos c_94, hc_96, if_neg c_97] at hok
                    exact W.zret hx hb hr rfl (fun t ht9 hW => ⟨_, rfl, Option.some.inj hok, ht9⟩) (fun q h => by cases h) dM_touch_235
                  · skip
                    refine lv_aload_n hx hb dM_touch_210 rfl (lv_at hl 2 rfl) ?_
                    refine lv_iload_n hx hb dM_touch_211 rfl (lv_at hl 4 rfl) ?_
                    refine lv_aload_n hx hb dM_touch_212 rfl (lv_at hl 2 rfl) ?_
                    refine va_get (D := g.1) (ci := 6) (v := .ref (b 4)) (C := "NodeMakerModel") (T := Fd_M) (N := 37) hx hb ht i_M hown hK.1 hP 0 rfl rfl 4 (by decide) (ht _ q_529) (fun _ h9 => h9) rfl dM_touch_213 ?_
                    refine lv_iload_n hx hb dM_touch_216 rfl (lv_at hl 3 rfl) ?_
                    refine va_iald hx hb hK.1 hP 4 0 rfl rfl (vp_in_iff.mpr h_14) dM_touch_217 ?_
                    refine lv_aload_n hx hb dM_touch_218 rfl (lv_at hl 2 rfl) ?_
                    refine va_get (D := g.1) (ci := 6) (v := .ref (b 5)) (C := "NodeMakerModel") (T := Fd_M) (N := 37) hx hb ht i_M hown hK.1 hP 0 rfl rfl 5 (by decide) (ht _ q_530) (fun _ h9 => h9) rfl dM_touch_219 ?_
                    refine lv_iload_n hx hb dM_touch_222 rfl (lv_at hl 3 rfl) ?_
                    refine va_iald hx hb hK.1 hP 5 0 rfl rfl (vp_in_iff.mpr h_14) dM_touch_223 ?_
                    obtain ⟨r_98, hc_99⟩ : ∃ r9, sM_lies mz j ((mz.2.1 4) i.toNatClampNeg) ((mz.2.1 5) i.toNatClampNeg) = some r9 := by
                      cases hc9 : sM_lies mz j ((mz.2.1 4) i.toNatClampNeg) ((mz.2.1 5) i.toNatClampNeg) with
                      | some r9 => exact ⟨r9, rfl⟩
                      | none => exfalso; simp only [sM_touch, if_pos h_14, hc_16, if_neg c_17, hc_60, if_pos c_61, if_pos h_62, hc_64, hc_66, if_neg c_67, hc_83, hc_85, if_pos c_86, hc_90, if_pos c_91, hc_93, if_pos c_94, hc_96, if_pos c_97, hc9] at hok; cases hok
                    refine ro_Vi (v := r_98) (As := [.int j, .int ((mz.2.1 4) i.toNatClampNeg), .int ((mz.2.1 5) i.toNatClampNeg)]) (rest := []) ⟨hx, hb, hml, hown, ht⟩ (cM_lies l g aM b mz j ((mz.2.1 4) i.toNatClampNeg) ((mz.2.1 5) i.toNatClampNeg) r_98 hc_99) (cwV 3 ht (g_V q_668 q_670 q_15 q_39 q_671) rfl rfl rfl hd_M_lies ⟨Nat.le_of_ble_eq_true rfl, Nat.le_of_ble_eq_true rfl⟩) hK (hP) (va_recv hK.1 hP (ci := 6) (q0 := 0) rfl rfl) rfl hl.1 rfl (Nat.le_of_ble_eq_true rfl) dM_touch_224 ⟨by show 0 ≤ 0; omega, by show 0 ≤ 0; omega⟩ ?_
                    refine lv_if_eq (tgt := 234) hx hb dM_touch_227 (by decide) (fun c_100 => ?_) (fun c_100 => ?_)
                    · skip
                      refine lv_iconst (v := 0) hx hb dM_touch_234 (by decide) ?_
                      simp only [sM_touch, if_pos h_14, hc_16, if_neg c_17, hc_60, if_pos c_61, if_pos h_62, hc_64, hc_66, if_neg c_67, hc_83, hc_85, if_pos c_86, hc_90, if_pos c_91, hc_93, if_pos c_94, hc_96, if_pos c_97, hc_99, if_pos c_100] at hok
                      exact W.zret hx hb hr rfl (fun t ht9 hW => ⟨_, rfl, Option.some.inj hok, ht9⟩) (fun q h => by cases h) dM_touch_235
                    · skip
                      refine lv_iconst (v := 1) hx hb dM_touch_230 (by decide) ?_
                      refine lv_goto (tgt := 235) hx hb dM_touch_231 (by decide) ?_
                      simp only [sM_touch, if_pos h_14, hc_16, if_neg c_17, hc_60, if_pos c_61, if_pos h_62, hc_64, hc_66, if_neg c_67, hc_83, hc_85, if_pos c_86, hc_90, if_pos c_91, hc_93, if_pos c_94, hc_96, if_pos c_97, hc_99, if_neg c_100] at hok
                      exact W.zret hx hb hr rfl (fun t ht9 hW => ⟨_, rfl, Option.some.inj hok, ht9⟩) (fun q h => by cases h) dM_touch_235
        · skip
          refine lv_iconst (v := 1) hx hb dM_touch_134 (by decide) ?_
          refine lv_goto (tgt := 139) hx hb dM_touch_135 (by decide) ?_
          refine lv_istore (lv' := [(4, .int 1), (3, .int 0), (0, .ref aM), (1, .int i), (2, .int j)]) hx hb dM_touch_139 hl (by decide) rfl (fun ls hl => ?_)
          refine lv_iload_n hx hb dM_touch_141 rfl (lv_at hl 1 rfl) ?_
          refine lv_if_ne (tgt := 230) hx hb dM_touch_142 (by decide) (fun c_101 => ?_) (fun c_101 => ?_)
          · skip
            exact absurd (by decide) c_101
          · skip
            refine lv_iload hx hb dM_touch_145 (lv_at hl 0 rfl) ?_
            refine lv_if_ne (tgt := 230) hx hb dM_touch_147 (by decide) (fun c_102 => ?_) (fun c_102 => ?_)
            · skip
              refine lv_iconst (v := 1) hx hb dM_touch_230 (by decide) ?_
              refine lv_goto (tgt := 235) hx hb dM_touch_231 (by decide) ?_
              simp only [sM_touch, if_pos h_14, hc_16, if_neg c_17, hc_60, if_pos c_61, if_pos h_62, hc_64, hc_66, if_neg c_67, hc_83, hc_85, if_neg c_86] at hok
              exact W.zret hx hb hr rfl (fun t ht9 hW => ⟨_, rfl, Option.some.inj hok, ht9⟩) (fun q h => by cases h) dM_touch_235
            · skip
              exact absurd c_102 (by decide)
    · skip
      refine lv_iconst (v := 1) hx hb dM_touch_40 (by decide) ?_
      refine lv_goto (tgt := 45) hx hb dM_touch_41 (by decide) ?_
      refine lv_istore_n (lv' := [(3, .int 1), (0, .ref aM), (1, .int i), (2, .int j)]) hx hb dM_touch_45 rfl hl (by decide) rfl (fun ls hl => ?_)
      refine lv_aload_n hx hb dM_touch_46 rfl (lv_at hl 1 rfl) ?_
      refine lv_iload_n hx hb dM_touch_47 rfl (lv_at hl 2 rfl) ?_
      refine lv_aload_n hx hb dM_touch_48 rfl (lv_at hl 1 rfl) ?_
      refine va_get (D := g.1) (ci := 6) (v := .ref (b 2)) (C := "NodeMakerModel") (T := Fd_M) (N := 37) hx hb ht i_M hown hK.1 hP 0 rfl rfl 2 (by decide) (ht _ q_527) (fun _ h9 => h9) rfl dM_touch_49 ?_
      refine lv_iload_n hx hb dM_touch_52 rfl (lv_at hl 3 rfl) ?_
      have h_103 : vpin j 64 := Decidable.byContradiction (fun h9 => by simp only [sM_touch, if_pos h_14, hc_16, if_neg c_17, hc_60, if_neg c_61, if_neg h9] at hok; cases hok)
      refine va_iald hx hb hK.1 hP 2 0 rfl rfl (vp_in_iff.mpr h_103) dM_touch_53 ?_
      refine lv_i2l hx hb dM_touch_54 rfl ?_
      refine lv_aload_n hx hb dM_touch_55 rfl (lv_at hl 1 rfl) ?_
      refine va_get (D := g.1) (ci := 6) (v := .ref (b 3)) (C := "NodeMakerModel") (T := Fd_M) (N := 37) hx hb ht i_M hown hK.1 hP 0 rfl rfl 3 (by decide) (ht _ q_528) (fun _ h9 => h9) rfl dM_touch_56 ?_
      refine lv_iload_n hx hb dM_touch_59 rfl (lv_at hl 3 rfl) ?_
      refine va_iald hx hb hK.1 hP 3 0 rfl rfl (vp_in_iff.mpr h_103) dM_touch_60 ?_
      refine lv_i2l hx hb dM_touch_61 rfl ?_
      obtain ⟨r_104, hc_105⟩ : ∃ r9, sM_sideOf mz i (((mz.2.1 2) j.toNatClampNeg).toInt64) (((mz.2.1 3) j.toNatClampNeg).toInt64) = some r9 := by
        cases hc9 : sM_sideOf mz i (((mz.2.1 2) j.toNatClampNeg).toInt64) (((mz.2.1 3) j.toNatClampNeg).toInt64) with
        | some r9 => exact ⟨r9, rfl⟩
        | none => exfalso; simp only [sM_touch, if_pos h_14, hc_16, if_neg c_17, hc_60, if_neg c_61, if_pos h_103, hc9] at hok; cases hok
      refine ro_Vl (v := r_104) (As := [.int i, .long (((mz.2.1 2) j.toNatClampNeg).toInt64), .long (((mz.2.1 3) j.toNatClampNeg).toInt64)]) (rest := []) ⟨hx, hb, hml, hown, ht⟩ (cM_sideOf l g aM b mz i (((mz.2.1 2) j.toNatClampNeg).toInt64) (((mz.2.1 3) j.toNatClampNeg).toInt64) r_104 hc_105) (cwV 3 ht (g_V q_658 q_660 q_14 q_39 q_661) rfl rfl rfl hd_M_sideOf ⟨Nat.le_of_ble_eq_true rfl, Nat.le_of_ble_eq_true rfl⟩) hK (hP) (va_recv hK.1 hP (ci := 6) (q0 := 0) rfl rfl) rfl hl.1 rfl (Nat.le_of_ble_eq_true rfl) dM_touch_62 ⟨by show 0 ≤ 0; omega, by show 0 ≤ 0; omega⟩ ?_
      refine lv_aload_n hx hb dM_touch_65 rfl (lv_at hl 1 rfl) ?_
      refine lv_iload_n hx hb dM_touch_66 rfl (lv_at hl 2 rfl) ?_
      refine lv_aload_n hx hb dM_touch_67 rfl (lv_at hl 1 rfl) ?_
      refine va_get (D := g.1) (ci := 6) (v := .ref (b 4)) (C := "NodeMakerModel") (T := Fd_M) (N := 37) hx hb ht i_M hown hK.1 hP 0 rfl rfl 4 (by decide) (ht _ q_529) (fun _ h9 => h9) rfl dM_touch_68 ?_
      refine lv_iload_n hx hb dM_touch_71 rfl (lv_at hl 3 rfl) ?_
      refine va_iald hx hb hK.1 hP 4 0 rfl rfl (vp_in_iff.mpr h_103) dM_touch_72 ?_
      refine lv_i2l hx hb dM_touch_73 rfl ?_
      refine lv_aload_n hx hb dM_touch_74 rfl (lv_at hl 1 rfl) ?_
      refine va_get (D := g.1) (ci := 6) (v := .ref (b 5)) (C := "NodeMakerModel") (T := Fd_M) (N := 37) hx hb ht i_M hown hK.1 hP 0 rfl rfl 5 (by decide) (ht _ q_530) (fun _ h9 => h9) rfl dM_touch_75 ?_
      refine lv_iload_n hx hb dM_touch_78 rfl (lv_at hl 3 rfl) ?_
      refine va_iald hx hb hK.1 hP 5 0 rfl rfl (vp_in_iff.mpr h_103) dM_touch_79 ?_
      refine lv_i2l hx hb dM_touch_80 rfl ?_
      obtain ⟨r_106, hc_107⟩ : ∃ r9, sM_sideOf mz i (((mz.2.1 4) j.toNatClampNeg).toInt64) (((mz.2.1 5) j.toNatClampNeg).toInt64) = some r9 := by
        cases hc9 : sM_sideOf mz i (((mz.2.1 4) j.toNatClampNeg).toInt64) (((mz.2.1 5) j.toNatClampNeg).toInt64) with
        | some r9 => exact ⟨r9, rfl⟩
        | none => exfalso; simp only [sM_touch, if_pos h_14, hc_16, if_neg c_17, hc_60, if_neg c_61, if_pos h_103, hc_105, hc9] at hok; cases hok
      refine ro_Vl (v := r_106) (As := [.int i, .long (((mz.2.1 4) j.toNatClampNeg).toInt64), .long (((mz.2.1 5) j.toNatClampNeg).toInt64)]) (rest := [.long r_104]) ⟨hx, hb, hml, hown, ht⟩ (cM_sideOf l g aM b mz i (((mz.2.1 4) j.toNatClampNeg).toInt64) (((mz.2.1 5) j.toNatClampNeg).toInt64) r_106 hc_107) (cwV 3 ht (g_V q_658 q_660 q_14 q_39 q_661) rfl rfl rfl hd_M_sideOf ⟨Nat.le_of_ble_eq_true rfl, Nat.le_of_ble_eq_true rfl⟩) hK (hP) (va_recv hK.1 hP (ci := 6) (q0 := 0) rfl rfl) rfl hl.1 rfl (Nat.le_of_ble_eq_true rfl) dM_touch_81 ⟨by show 0 ≤ 0; omega, by show 0 ≤ 0; omega⟩ ?_
      refine ro_Si (v := sM_areOpposite r_104 r_106) (As := [.long r_104, .long r_106]) (rest := []) ⟨hx, hb, hml, hown, ht⟩ (cM_areOpposite l g r_104 r_106) (cwS 2 ht (g_S q_665 q_666 q_39 q_667) rfl rfl rfl hd_M_areOpposite ⟨Nat.le_of_ble_eq_true rfl, Nat.le_of_ble_eq_true rfl⟩) hK (trivial) rfl hl.1 rfl (Nat.le_of_ble_eq_true rfl) dM_touch_84 ⟨by show 0 ≤ 0; omega, by show 0 ≤ 0; omega⟩ ?_
      refine lv_if_eq (tgt := 138) hx hb dM_touch_87 (by decide) (fun c_108 => ?_) (fun c_108 => ?_)
      · skip
        refine lv_iconst (v := 0) hx hb dM_touch_138 (by decide) ?_
        refine lv_istore (lv' := [(4, .int 0), (3, .int 1), (0, .ref aM), (1, .int i), (2, .int j)]) hx hb dM_touch_139 hl (by decide) rfl (fun ls hl => ?_)
        refine lv_iload_n hx hb dM_touch_141 rfl (lv_at hl 1 rfl) ?_
        refine lv_if_ne (tgt := 230) hx hb dM_touch_142 (by decide) (fun c_109 => ?_) (fun c_109 => ?_)
        · skip
          refine lv_iconst (v := 1) hx hb dM_touch_230 (by decide) ?_
          refine lv_goto (tgt := 235) hx hb dM_touch_231 (by decide) ?_
          simp only [sM_touch, if_pos h_14, hc_16, if_neg c_17, hc_60, if_neg c_61, if_pos h_103, hc_105, hc_107, if_pos c_108] at hok
          exact W.zret hx hb hr rfl (fun t ht9 hW => ⟨_, rfl, Option.some.inj hok, ht9⟩) (fun q h => by cases h) dM_touch_235
        · skip
          exact absurd c_109 (by decide)
      · skip
        refine lv_aload_n hx hb dM_touch_90 rfl (lv_at hl 1 rfl) ?_
        refine lv_iload_n hx hb dM_touch_91 rfl (lv_at hl 3 rfl) ?_
        refine lv_aload_n hx hb dM_touch_92 rfl (lv_at hl 1 rfl) ?_
        refine va_get (D := g.1) (ci := 6) (v := .ref (b 2)) (C := "NodeMakerModel") (T := Fd_M) (N := 37) hx hb ht i_M hown hK.1 hP 0 rfl rfl 2 (by decide) (ht _ q_527) (fun _ h9 => h9) rfl dM_touch_93 ?_
        refine lv_iload_n hx hb dM_touch_96 rfl (lv_at hl 2 rfl) ?_
        refine va_iald hx hb hK.1 hP 2 0 rfl rfl (vp_in_iff.mpr h_14) dM_touch_97 ?_
        refine lv_i2l hx hb dM_touch_98 rfl ?_
        refine lv_aload_n hx hb dM_touch_99 rfl (lv_at hl 1 rfl) ?_
        refine va_get (D := g.1) (ci := 6) (v := .ref (b 3)) (C := "NodeMakerModel") (T := Fd_M) (N := 37) hx hb ht i_M hown hK.1 hP 0 rfl rfl 3 (by decide) (ht _ q_528) (fun _ h9 => h9) rfl dM_touch_100 ?_
        refine lv_iload_n hx hb dM_touch_103 rfl (lv_at hl 2 rfl) ?_
        refine va_iald hx hb hK.1 hP 3 0 rfl rfl (vp_in_iff.mpr h_14) dM_touch_104 ?_
        refine lv_i2l hx hb dM_touch_105 rfl ?_
        obtain ⟨r_110, hc_111⟩ : ∃ r9, sM_sideOf mz j (((mz.2.1 2) i.toNatClampNeg).toInt64) (((mz.2.1 3) i.toNatClampNeg).toInt64) = some r9 := by
          cases hc9 : sM_sideOf mz j (((mz.2.1 2) i.toNatClampNeg).toInt64) (((mz.2.1 3) i.toNatClampNeg).toInt64) with
          | some r9 => exact ⟨r9, rfl⟩
          | none => exfalso; simp only [sM_touch, if_pos h_14, hc_16, if_neg c_17, hc_60, if_neg c_61, if_pos h_103, hc_105, hc_107, if_neg c_108, hc9] at hok; cases hok
        refine ro_Vl (v := r_110) (As := [.int j, .long (((mz.2.1 2) i.toNatClampNeg).toInt64), .long (((mz.2.1 3) i.toNatClampNeg).toInt64)]) (rest := []) ⟨hx, hb, hml, hown, ht⟩ (cM_sideOf l g aM b mz j (((mz.2.1 2) i.toNatClampNeg).toInt64) (((mz.2.1 3) i.toNatClampNeg).toInt64) r_110 hc_111) (cwV 3 ht (g_V q_658 q_660 q_14 q_39 q_661) rfl rfl rfl hd_M_sideOf ⟨Nat.le_of_ble_eq_true rfl, Nat.le_of_ble_eq_true rfl⟩) hK (hP) (va_recv hK.1 hP (ci := 6) (q0 := 0) rfl rfl) rfl hl.1 rfl (Nat.le_of_ble_eq_true rfl) dM_touch_106 ⟨by show 0 ≤ 0; omega, by show 0 ≤ 0; omega⟩ ?_
        refine lv_aload_n hx hb dM_touch_109 rfl (lv_at hl 1 rfl) ?_
        refine lv_iload_n hx hb dM_touch_110 rfl (lv_at hl 3 rfl) ?_
        refine lv_aload_n hx hb dM_touch_111 rfl (lv_at hl 1 rfl) ?_
        refine va_get (D := g.1) (ci := 6) (v := .ref (b 4)) (C := "NodeMakerModel") (T := Fd_M) (N := 37) hx hb ht i_M hown hK.1 hP 0 rfl rfl 4 (by decide) (ht _ q_529) (fun _ h9 => h9) rfl dM_touch_112 ?_
        refine lv_iload_n hx hb dM_touch_115 rfl (lv_at hl 2 rfl) ?_
        refine va_iald hx hb hK.1 hP 4 0 rfl rfl (vp_in_iff.mpr h_14) dM_touch_116 ?_
        refine lv_i2l hx hb dM_touch_117 rfl ?_
        refine lv_aload_n hx hb dM_touch_118 rfl (lv_at hl 1 rfl) ?_
        refine va_get (D := g.1) (ci := 6) (v := .ref (b 5)) (C := "NodeMakerModel") (T := Fd_M) (N := 37) hx hb ht i_M hown hK.1 hP 0 rfl rfl 5 (by decide) (ht _ q_530) (fun _ h9 => h9) rfl dM_touch_119 ?_
        refine lv_iload_n hx hb dM_touch_122 rfl (lv_at hl 2 rfl) ?_
        refine va_iald hx hb hK.1 hP 5 0 rfl rfl (vp_in_iff.mpr h_14) dM_touch_123 ?_
        refine lv_i2l hx hb dM_touch_124 rfl ?_
        obtain ⟨r_112, hc_113⟩ : ∃ r9, sM_sideOf mz j (((mz.2.1 4) i.toNatClampNeg).toInt64) (((mz.2.1 5) i.toNatClampNeg).toInt64) = some r9 := by
          cases hc9 : sM_sideOf mz j (((mz.2.1 4) i.toNatClampNeg).toInt64) (((mz.2.1 5) i.toNatClampNeg).toInt64) with
          | some r9 => exact ⟨r9, rfl⟩
          | none => exfalso; simp only [sM_touch, if_pos h_14, hc_16, if_neg c_17, hc_60, if_neg c_61, if_pos h_103, hc_105, hc_107, if_neg c_108, hc_111, hc9] at hok; cases hok
        refine ro_Vl (v := r_112) (As := [.int j, .long (((mz.2.1 4) i.toNatClampNeg).toInt64), .long (((mz.2.1 5) i.toNatClampNeg).toInt64)]) (rest := [.long r_110]) ⟨hx, hb, hml, hown, ht⟩ (cM_sideOf l g aM b mz j (((mz.2.1 4) i.toNatClampNeg).toInt64) (((mz.2.1 5) i.toNatClampNeg).toInt64) r_112 hc_113) (cwV 3 ht (g_V q_658 q_660 q_14 q_39 q_661) rfl rfl rfl hd_M_sideOf ⟨Nat.le_of_ble_eq_true rfl, Nat.le_of_ble_eq_true rfl⟩) hK (hP) (va_recv hK.1 hP (ci := 6) (q0 := 0) rfl rfl) rfl hl.1 rfl (Nat.le_of_ble_eq_true rfl) dM_touch_125 ⟨by show 0 ≤ 0; omega, by show 0 ≤ 0; omega⟩ ?_
        refine ro_Si (v := sM_areOpposite r_110 r_112) (As := [.long r_110, .long r_112]) (rest := []) ⟨hx, hb, hml, hown, ht⟩ (cM_areOpposite l g r_110 r_112) (cwS 2 ht (g_S q_665 q_666 q_39 q_667) rfl rfl rfl hd_M_areOpposite ⟨Nat.le_of_ble_eq_true rfl, Nat.le_of_ble_eq_true rfl⟩) hK (trivial) rfl hl.1 rfl (Nat.le_of_ble_eq_true rfl) dM_touch_128 ⟨by show 0 ≤ 0; omega, by show 0 ≤ 0; omega⟩ ?_
        refine lv_if_eq (tgt := 138) hx hb dM_touch_131 (by decide) (fun c_114 => ?_) (fun c_114 => ?_)
        · skip
          refine lv_iconst (v := 0) hx hb dM_touch_138 (by decide) ?_
          refine lv_istore (lv' := [(4, .int 0), (3, .int 1), (0, .ref aM), (1, .int i), (2, .int j)]) hx hb dM_touch_139 hl (by decide) rfl (fun ls hl => ?_)
          refine lv_iload_n hx hb dM_touch_141 rfl (lv_at hl 1 rfl) ?_
          refine lv_if_ne (tgt := 230) hx hb dM_touch_142 (by decide) (fun c_115 => ?_) (fun c_115 => ?_)
          · skip
            refine lv_iconst (v := 1) hx hb dM_touch_230 (by decide) ?_
            refine lv_goto (tgt := 235) hx hb dM_touch_231 (by decide) ?_
            simp only [sM_touch, if_pos h_14, hc_16, if_neg c_17, hc_60, if_neg c_61, if_pos h_103, hc_105, hc_107, if_neg c_108, hc_111, hc_113, if_pos c_114] at hok
            exact W.zret hx hb hr rfl (fun t ht9 hW => ⟨_, rfl, Option.some.inj hok, ht9⟩) (fun q h => by cases h) dM_touch_235
          · skip
            exact absurd c_115 (by decide)
        · skip
          refine lv_iconst (v := 1) hx hb dM_touch_134 (by decide) ?_
          refine lv_goto (tgt := 139) hx hb dM_touch_135 (by decide) ?_
          refine lv_istore (lv' := [(4, .int 1), (3, .int 1), (0, .ref aM), (1, .int i), (2, .int j)]) hx hb dM_touch_139 hl (by decide) rfl (fun ls hl => ?_)
          refine lv_iload_n hx hb dM_touch_141 rfl (lv_at hl 1 rfl) ?_
          refine lv_if_ne (tgt := 230) hx hb dM_touch_142 (by decide) (fun c_116 => ?_) (fun c_116 => ?_)
          · skip
            refine lv_iconst (v := 1) hx hb dM_touch_230 (by decide) ?_
            refine lv_goto (tgt := 235) hx hb dM_touch_231 (by decide) ?_
            simp only [sM_touch, if_pos h_14, hc_16, if_neg c_17, hc_60, if_neg c_61, if_pos h_103, hc_105, hc_107, if_neg c_108, hc_111, hc_113, if_neg c_114] at hok
            exact W.zret hx hb hr rfl (fun t ht9 hW => ⟨_, rfl, Option.some.inj hok, ht9⟩) (fun q h => by cases h) dM_touch_235
          · skip
            exact absurd c_116 (by decide)
