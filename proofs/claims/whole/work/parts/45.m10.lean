
def sM_node (mz : MSt) (k : Int32) (what : Int32) (N9 : Nat) (N2 : Nat) : Option (MSt × Int32) :=
  (match sM_isNode (mV 0 0 mz) k N9 N2 with
  | none => none
  | some r_2 => if r_2.2 = 0 then
      some (r_2.1, (-1))
    else
      if what = 0 then
        if vpin k 4200 then
          some (r_2.1, ((r_2.1.2.1 21) k.toNatClampNeg))
        else
          none
      else
        if what = 1 then
          if vpin k 4200 then
            if 0 ≤ ((r_2.1.2.1 22) k.toNatClampNeg) then
              some (r_2.1, ((r_2.1.2.1 22) k.toNatClampNeg))
            else
              some (r_2.1, (-1))
          else
            none
        else
          if what = 2 then
            if vpin k 4200 then
              if 0 ≤ ((r_2.1.2.1 23) k.toNatClampNeg) then
                some (r_2.1, ((r_2.1.2.1 23) k.toNatClampNeg))
              else
                some (r_2.1, (-1))
            else
              none
          else
            if what = 3 then
              if vpin k 4200 then
                some (r_2.1, ((r_2.1.2.1 26) k.toNatClampNeg))
              else
                none
            else
              if what = 4 then
                (match sM_within r_2.1 k N9 with
                | none => none
                | some r_16 => some (r_2.1, r_16))
              else
                if what = 5 then
                  if vpin k 4200 then
                    some (r_2.1, ((r_2.1.2.1 24) k.toNatClampNeg))
                  else
                    none
                else
                  some (r_2.1, (-1)))

set_option maxHeartbeats 4000000 in
set_option maxRecDepth 100000 in
theorem cM_node (l : Launch) (g : CX) (sz : Nat) (aM : Nat) (b : Nat → Nat) (mz : MSt) (k : Int32) (what : Int32) (N9 : Nat) (N2 : Nat) (r0 : MSt × Int32) (hok : sM_node mz k what N9 N2 = some r0) : Met l yM_node (wm yM_node kM_node 3 (some .int)) ({ frames := 9, cells := 0, slots := 0, locals := 256 }) (rw g [.ref aM, .int k, .int what] (mX g aM b mz) sz) (va_Qi (fun (r : Int32) (_u : Unit) => r = r0.2) (rB g (va_A (mX g aM b mz) sz) (fun _u => (mX g aM b r0.1))) (va_A (mX g aM b mz) sz)) 0 0 (va_A (mX g aM b mz) sz) := by
  refine Met.ofW (cc := kM_node) (maxL := 3) (ret := (some .int)) (by decide) rfl ?_
  intro p e s m args below meth c s₁ B hml hv
  obtain ⟨rfl, hsz, hK, hP, hD0⟩ := hv
  have hx := B.exec
  have hb := B.bytes
  have hr := B.returns
  have ht : ∀ w ∈ wT, w.before _ s = true := fun w h => atoms_spec (ws := wm yM_node kM_node 3 (some .int)) B.pre w (List.mem_cons_of_mem _ h)
  have hown : s.vm.findClass "NodeMakerModel" = some m.cls := findClass_of_methodNamed B.named
  have hlocks := B.notSynchronized
  subst hsz
  have hD := hD0.self (sz := s.heap.size)
  generalize hAe : va_A (mX g aM b mz) s.heap.size = A at hD ⊢
  have hA : ∀ q : Nat, s.heap.size ≤ q → A q := fun q h => by rw [← hAe]; exact Or.inr h
  have hS : va_S A s.heap s.heap [] := va_S.rf
  have hl := lv_entry ([.ref aM, .int k, .int what]) (n := 3) (Nat.le_of_ble_eq_true rfl)
  rw [lg_entry_eq]
  generalize (lg_sl ([.ref aM, .int k, .int what]) ++ List.replicate (3 - (lg_sl ([.ref aM, .int k, .int what])).length) Slot.unset).toArray = ls at hl ⊢
  have hl : lv_has ls 3 [(0, .ref aM), (1, .int k), (2, .int what)] := hl
  refine lv_aload_n hx hb dM_node_0 rfl (lv_at hl 0 rfl) ?_
  refine lv_iconst (v := 0) hx hb dM_node_1 (by decide) ?_
  refine va_put (D := g.1) (ci := 6) (v := .int 0) (ty := .int) (C := "NodeMakerModel") (T := Fd_M) (N := 37) hx hb ht i_M ty_M ty_M_ok nm_M hown hK.1 hP hD hS 0 rfl rfl 0 (by decide) (ht _ q_525) (fun _ h9 => h9) rfl (by decide +kernel) rfl rfl (Nat.le_of_ble_eq_true rfl) dM_node_2 (fun H locs hP hD hS => ?_)
  have hP : va_P g.1 vwCl (mX g aM b (mV 0 0 mz)) H := hP
  have hD : va_D A (mX g aM b (mV 0 0 mz)) := hD
  simp only [sM_node] at hok
  obtain ⟨z_1, ez_1⟩ : ∃ x9, x9 = mV 0 0 mz := ⟨_, rfl⟩
  rw [← ez_1] at hP hD hok
  refine lv_aload_n hx hb dM_node_5 rfl (lv_at hl 0 rfl) ?_
  refine lv_iload_n hx hb dM_node_6 rfl (lv_at hl 1 rfl) ?_
  obtain ⟨r_2, hc_3⟩ : ∃ r9, sM_isNode z_1 k N9 N2 = some r9 := by
    cases hc9 : sM_isNode z_1 k N9 N2 with
    | some r9 => exact ⟨r9, rfl⟩
    | none => exfalso; simp only [hc9] at hok; cases hok
  refine rw_iA (va_runV (As := [.int k]) (rest := []) ⟨hx, hb, hml, hown, ht⟩ (cM_isNode l g H.size aM b z_1 k N9 N2 r_2 hc_3) (cwV 1 ht (g_V q_688 q_690 q_17 q_39 q_691) rfl rfl rfl hd_M_isNode ⟨Nat.le_of_ble_eq_true rfl, Nat.le_of_ble_eq_true rfl⟩) (rw_V hK hP hD (va_recv hK.1 hP (ci := 6) (q0 := 0) rfl rfl)) rfl rfl hl.1 rfl (lv_room (Nat.le_of_ble_eq_true rfl)) dM_node_7 ⟨Nat.zero_le _, Nat.zero_le _⟩) hD hS hA (fun rr _ H locs hw hP hD hS => ?_)
  subst hw
  have hP : va_P g.1 vwCl (mX g aM b (r_2.1)) H := hP
  have hD : va_D A (mX g aM b (r_2.1)) := hD
  refine lv_if_ne (tgt := 15) hx hb dM_node_10 (by decide) (fun c_4 => ?_) (fun c_4 => ?_)
  · skip
    refine lv_iload_n hx hb dM_node_15 rfl (lv_at hl 2 rfl) ?_
    by_cases c_5 : what = 0
    · skip
      refine lv_tableIn (off := 40) (tgt := 56) hx hb dM_node_16 (by rw [c_5]; decide) (by rw [c_5]; decide) (by rw [c_5]; decide) (by decide) ?_
      refine lv_aload_n hx hb dM_node_56 rfl (lv_at hl 0 rfl) ?_
      refine va_get (D := g.1) (ci := 6) (v := .ref (b 21)) (C := "NodeMakerModel") (T := Fd_M) (N := 37) hx hb ht i_M hown hK.1 hP 0 rfl rfl 21 (by decide) (ht _ q_546) (fun _ h9 => h9) rfl dM_node_57 ?_
      refine lv_iload_n hx hb dM_node_60 rfl (lv_at hl 1 rfl) ?_
      have h_6 : vpin k 4200 := Decidable.byContradiction (fun h9 => by simp only [hc_3, if_neg c_4, if_pos c_5, if_neg h9] at hok; cases hok)
      refine va_iald hx hb hK.1 hP 16 0 rfl rfl (vp_in_iff.mpr h_6) dM_node_61 ?_
      simp only [hc_3, if_neg c_4, if_pos c_5, if_pos h_6] at hok
      have hF := Option.some.inj hok
      subst hF
      exact W.iret hx hb hr (fun t ht9 hW => ⟨⟨_, (), rfl, rfl, by rw [ht9]; exact hP, hD⟩, hS.F ht9⟩) hS.2.2 dM_node_62
    by_cases c_7 : what = 1
    · skip
      refine lv_tableIn (off := 47) (tgt := 63) hx hb dM_node_16 (by rw [c_7]; decide) (by rw [c_7]; decide) (by rw [c_7]; decide) (by decide) ?_
      refine lv_aload_n hx hb dM_node_63 rfl (lv_at hl 0 rfl) ?_
      refine va_get (D := g.1) (ci := 6) (v := .ref (b 22)) (C := "NodeMakerModel") (T := Fd_M) (N := 37) hx hb ht i_M hown hK.1 hP 0 rfl rfl 22 (by decide) (ht _ q_547) (fun _ h9 => h9) rfl dM_node_64 ?_
      refine lv_iload_n hx hb dM_node_67 rfl (lv_at hl 1 rfl) ?_
      have h_8 : vpin k 4200 := Decidable.byContradiction (fun h9 => by simp only [hc_3, if_neg c_4, if_neg c_5, if_pos c_7, if_neg h9] at hok; cases hok)
      refine va_iald hx hb hK.1 hP 17 0 rfl rfl (vp_in_iff.mpr h_8) dM_node_68 ?_
      refine lv_if_ge (tgt := 76) hx hb dM_node_69 (by decide) (fun c_9 => ?_) (fun c_9 => ?_)
      · skip
        refine lv_aload_n hx hb dM_node_76 rfl (lv_at hl 0 rfl) ?_
        refine va_get (D := g.1) (ci := 6) (v := .ref (b 22)) (C := "NodeMakerModel") (T := Fd_M) (N := 37) hx hb ht i_M hown hK.1 hP 0 rfl rfl 22 (by decide) (ht _ q_547) (fun _ h9 => h9) rfl dM_node_77 ?_
        refine lv_iload_n hx hb dM_node_80 rfl (lv_at hl 1 rfl) ?_
        refine va_iald hx hb hK.1 hP 17 0 rfl rfl (vp_in_iff.mpr h_8) dM_node_81 ?_
        simp only [hc_3, if_neg c_4, if_neg c_5, if_pos c_7, if_pos h_8, if_pos c_9] at hok
        have hF := Option.some.inj hok
        subst hF
        exact W.iret hx hb hr (fun t ht9 hW => ⟨⟨_, (), rfl, rfl, by rw [ht9]; exact hP, hD⟩, hS.F ht9⟩) hS.2.2 dM_node_82
      · skip
        refine lv_iconst (v := -1) hx hb dM_node_72 (by decide) ?_
        refine lv_goto (tgt := 82) hx hb dM_node_73 (by decide) ?_
        simp only [hc_3, if_neg c_4, if_neg c_5, if_pos c_7, if_pos h_8, if_neg c_9] at hok
        have hF := Option.some.inj hok
        subst hF
        exact W.iret hx hb hr (fun t ht9 hW => ⟨⟨_, (), rfl, rfl, by rw [ht9]; exact hP, hD⟩, hS.F ht9⟩) hS.2.2 dM_node_82
    by_cases c_10 : what = 2
    · skip
      refine lv_tableIn (off := 67) (tgt := 83) hx hb dM_node_16 (by rw [c_10]; decide) (by rw [c_10]; decide) (by rw [c_10]; decide) (by decide) ?_
      refine lv_aload_n hx hb dM_node_83 rfl (lv_at hl 0 rfl) ?_
      refine va_get (D := g.1) (ci := 6) (v := .ref (b 23)) (C := "NodeMakerModel") (T := Fd_M) (N := 37) hx hb ht i_M hown hK.1 hP 0 rfl rfl 23 (by decide) (ht _ q_548) (fun _ h9 => h9) rfl dM_node_84 ?_
      refine lv_iload_n hx hb dM_node_87 rfl (lv_at hl 1 rfl) ?_
      have h_11 : vpin k 4200 := Decidable.byContradiction (fun h9 => by simp only [hc_3, if_neg c_4, if_neg c_5, if_neg c_7, if_pos c_10, if_neg h9] at hok; cases hok)
      refine va_iald hx hb hK.1 hP 18 0 rfl rfl (vp_in_iff.mpr h_11) dM_node_88 ?_
      refine lv_if_ge (tgt := 96) hx hb dM_node_89 (by decide) (fun c_12 => ?_) (fun c_12 => ?_)
      · skip
        refine lv_aload_n hx hb dM_node_96 rfl (lv_at hl 0 rfl) ?_
        refine va_get (D := g.1) (ci := 6) (v := .ref (b 23)) (C := "NodeMakerModel") (T := Fd_M) (N := 37) hx hb ht i_M hown hK.1 hP 0 rfl rfl 23 (by decide) (ht _ q_548) (fun _ h9 => h9) rfl dM_node_97 ?_
        refine lv_iload_n hx hb dM_node_100 rfl (lv_at hl 1 rfl) ?_
        refine va_iald hx hb hK.1 hP 18 0 rfl rfl (vp_in_iff.mpr h_11) dM_node_101 ?_
        simp only [hc_3, if_neg c_4, if_neg c_5, if_neg c_7, if_pos c_10, if_pos h_11, if_pos c_12] at hok
        have hF := Option.some.inj hok
        subst hF
        exact W.iret hx hb hr (fun t ht9 hW => ⟨⟨_, (), rfl, rfl, by rw [ht9]; exact hP, hD⟩, hS.F ht9⟩) hS.2.2 dM_node_102
      · skip
        refine lv_iconst (v := -1) hx hb dM_node_92 (by decide) ?_
        refine lv_goto (tgt := 102) hx hb dM_node_93 (by decide) ?_
        simp only [hc_3, if_neg c_4, if_neg c_5, if_neg c_7, if_pos c_10, if_pos h_11, if_neg c_12] at hok
        have hF := Option.some.inj hok
        subst hF
        exact W.iret hx hb hr (fun t ht9 hW => ⟨⟨_, (), rfl, rfl, by rw [ht9]; exact hP, hD⟩, hS.F ht9⟩) hS.2.2 dM_node_102
    by_cases c_13 : what = 3
    · skip
      refine lv_tableIn (off := 87) (tgt := 103) hx hb dM_node_16 (by rw [c_13]; decide) (by rw [c_13]; decide) (by rw [c_13]; decide) (by decide) ?_
      refine lv_aload_n hx hb dM_node_103 rfl (lv_at hl 0 rfl) ?_
      refine va_get (D := g.1) (ci := 6) (v := .ref (b 26)) (C := "NodeMakerModel") (T := Fd_M) (N := 37) hx hb ht i_M hown hK.1 hP 0 rfl rfl 26 (by decide) (ht _ q_551) (fun _ h9 => h9) rfl dM_node_104 ?_
      refine lv_iload_n hx hb dM_node_107 rfl (lv_at hl 1 rfl) ?_
      have h_14 : vpin k 4200 := Decidable.byContradiction (fun h9 => by simp only [hc_3, if_neg c_4, if_neg c_5, if_neg c_7, if_neg c_10, if_pos c_13, if_neg h9] at hok; cases hok)
      refine va_iald hx hb hK.1 hP 21 0 rfl rfl (vp_in_iff.mpr h_14) dM_node_108 ?_
      simp only [hc_3, if_neg c_4, if_neg c_5, if_neg c_7, if_neg c_10, if_pos c_13, if_pos h_14] at hok
      have hF := Option.some.inj hok
      subst hF
      exact W.iret hx hb hr (fun t ht9 hW => ⟨⟨_, (), rfl, rfl, by rw [ht9]; exact hP, hD⟩, hS.F ht9⟩) hS.2.2 dM_node_109
    by_cases c_15 : what = 4
    · skip
      refine lv_tableIn (off := 94) (tgt := 110) hx hb dM_node_16 (by rw [c_15]; decide) (by rw [c_15]; decide) (by rw [c_15]; decide) (by decide) ?_
      refine lv_aload_n hx hb dM_node_110 rfl (lv_at hl 0 rfl) ?_
      refine lv_iload_n hx hb dM_node_111 rfl (lv_at hl 1 rfl) ?_
      obtain ⟨r_16, hc_17⟩ : ∃ r9, sM_within r_2.1 k N9 = some r9 := by
        cases hc9 : sM_within r_2.1 k N9 with
        | some r9 => exact ⟨r9, rfl⟩
        | none => exfalso; simp only [hc_3, if_neg c_4, if_neg c_5, if_neg c_7, if_neg c_10, if_neg c_13, if_pos c_15, hc9] at hok; cases hok
      refine ro_Vi (v := r_16) (As := [.int k]) (rest := []) ⟨hx, hb, hml, hown, ht⟩ (cM_within l g aM b r_2.1 k N9 r_16 hc_17) (cwV 1 ht (g_V q_741 q_743 q_28 q_39 q_744) rfl rfl rfl hd_M_within ⟨Nat.le_of_ble_eq_true rfl, Nat.le_of_ble_eq_true rfl⟩) hK (hP) (va_recv hK.1 hP (ci := 6) (q0 := 0) rfl rfl) rfl hl.1 rfl (Nat.le_of_ble_eq_true rfl) dM_node_112 ⟨Nat.zero_le _, Nat.zero_le _⟩ ?_
      simp only [hc_3, if_neg c_4, if_neg c_5, if_neg c_7, if_neg c_10, if_neg c_13, if_pos c_15, hc_17] at hok
      have hF := Option.some.inj hok
      subst hF
      exact W.iret hx hb hr (fun t ht9 hW => ⟨⟨_, (), rfl, rfl, by rw [ht9]; exact hP, hD⟩, hS.F ht9⟩) hS.2.2 dM_node_115
    by_cases c_18 : what = 5
    · skip
      refine lv_tableIn (off := 100) (tgt := 116) hx hb dM_node_16 (by rw [c_18]; decide) (by rw [c_18]; decide) (by rw [c_18]; decide) (by decide) ?_
      refine lv_aload_n hx hb dM_node_116 rfl (lv_at hl 0 rfl) ?_
      refine va_get (D := g.1) (ci := 6) (v := .ref (b 24)) (C := "NodeMakerModel") (T := Fd_M) (N := 37) hx hb ht i_M hown hK.1 hP 0 rfl rfl 24 (by decide) (ht _ q_549) (fun _ h9 => h9) rfl dM_node_117 ?_
      refine lv_iload_n hx hb dM_node_120 rfl (lv_at hl 1 rfl) ?_
      have h_19 : vpin k 4200 := Decidable.byContradiction (fun h9 => by simp only [hc_3, if_neg c_4, if_neg c_5, if_neg c_7, if_neg c_10, if_neg c_13, if_neg c_15, if_pos c_18, if_neg h9] at hok; cases hok)
      refine va_iald hx hb hK.1 hP 19 0 rfl rfl (vp_in_iff.mpr h_19) dM_node_121 ?_
      simp only [hc_3, if_neg c_4, if_neg c_5, if_neg c_7, if_neg c_10, if_neg c_13, if_neg c_15, if_pos c_18, if_pos h_19] at hok
      have hF := Option.some.inj hok
      subst hF
      exact W.iret hx hb hr (fun t ht9 hW => ⟨⟨_, (), rfl, rfl, by rw [ht9]; exact hP, hD⟩, hS.F ht9⟩) hS.2.2 dM_node_122
    refine lv_tableOut (tgt := 123) hx hb dM_node_16 (sw_out6 c_5 c_7 c_10 c_13 c_15 c_18) (by decide) ?_
    refine lv_iconst (v := -1) hx hb dM_node_123 (by decide) ?_
    simp only [hc_3, if_neg c_4, if_neg c_5, if_neg c_7, if_neg c_10, if_neg c_13, if_neg c_15, if_neg c_18] at hok
    have hF := Option.some.inj hok
    subst hF
    exact W.iret hx hb hr (fun t ht9 hW => ⟨⟨_, (), rfl, rfl, by rw [ht9]; exact hP, hD⟩, hS.F ht9⟩) hS.2.2 dM_node_124
  · skip
    refine lv_iconst (v := -1) hx hb dM_node_13 (by decide) ?_
    simp only [hc_3, if_pos c_4] at hok
    have hF := Option.some.inj hok
    subst hF
    exact W.iret hx hb hr (fun t ht9 hW => ⟨⟨_, (), rfl, rfl, by rw [ht9]; exact hP, hD⟩, hS.F ht9⟩) hS.2.2 dM_node_14

def sM_quotient (mz : MSt) (k : Int32) (i : Int32) (wh : Int32) (N9 : Nat) (N2 : Nat) : Option (MSt × Int64) :=
  (match sM_isOn (mV 0 0 mz) k i N9 N2 with
  | none => none
  | some r_21 => if r_21.2 = 0 then
      some (r_21.1, (-1))
    else
      if wh < 0 then
        some (r_21.1, (-1))
      else
        if wh ≤ 3 then
          if vpin k 4200 then
            if vpin (((r_21.1.2.1 25) k.toNatClampNeg) + i) 8300 then
              if 2 ≤ wh then
                if vpin ((r_21.1.2.1 27) ((((r_21.1.2.1 25) k.toNatClampNeg) + i).toNatClampNeg)) 8300 then
                  if (wh - wh / 2 * 2) = 0 then
                    (match sCom N9 ((r_21.1.2.2 11) (((r_21.1.2.1 27) ((((r_21.1.2.1 25) k.toNatClampNeg) + i).toNatClampNeg)).toNatClampNeg)) ((r_21.1.2.2 12) (((r_21.1.2.1 27) ((((r_21.1.2.1 25) k.toNatClampNeg) + i).toNatClampNeg)).toNatClampNeg)) with
                    | none => none
                    | some r_35 => if r_35 = 0 then
                        none
                      else
                        some (r_21.1, (((r_21.1.2.2 11) (((r_21.1.2.1 27) ((((r_21.1.2.1 25) k.toNatClampNeg) + i).toNatClampNeg)).toNatClampNeg)) / r_35)))
                  else
                    (match sCom N9 ((r_21.1.2.2 11) (((r_21.1.2.1 27) ((((r_21.1.2.1 25) k.toNatClampNeg) + i).toNatClampNeg)).toNatClampNeg)) ((r_21.1.2.2 12) (((r_21.1.2.1 27) ((((r_21.1.2.1 25) k.toNatClampNeg) + i).toNatClampNeg)).toNatClampNeg)) with
                    | none => none
                    | some r_32 => if r_32 = 0 then
                        none
                      else
                        some (r_21.1, (((r_21.1.2.2 12) (((r_21.1.2.1 27) ((((r_21.1.2.1 25) k.toNatClampNeg) + i).toNatClampNeg)).toNatClampNeg)) / r_32)))
                else
                  none
              else
                if vpin ((r_21.1.2.1 27) ((((r_21.1.2.1 25) k.toNatClampNeg) + i).toNatClampNeg)) 8300 then
                  if (wh - wh / 2 * 2) = 0 then
                    (match sCom N9 ((r_21.1.2.2 9) (((r_21.1.2.1 27) ((((r_21.1.2.1 25) k.toNatClampNeg) + i).toNatClampNeg)).toNatClampNeg)) ((r_21.1.2.2 10) (((r_21.1.2.1 27) ((((r_21.1.2.1 25) k.toNatClampNeg) + i).toNatClampNeg)).toNatClampNeg)) with
                    | none => none
                    | some r_44 => if r_44 = 0 then
                        none
                      else
                        some (r_21.1, (((r_21.1.2.2 9) (((r_21.1.2.1 27) ((((r_21.1.2.1 25) k.toNatClampNeg) + i).toNatClampNeg)).toNatClampNeg)) / r_44)))
                  else
                    (match sCom N9 ((r_21.1.2.2 9) (((r_21.1.2.1 27) ((((r_21.1.2.1 25) k.toNatClampNeg) + i).toNatClampNeg)).toNatClampNeg)) ((r_21.1.2.2 10) (((r_21.1.2.1 27) ((((r_21.1.2.1 25) k.toNatClampNeg) + i).toNatClampNeg)).toNatClampNeg)) with
                    | none => none
                    | some r_41 => if r_41 = 0 then
                        none
                      else
                        some (r_21.1, (((r_21.1.2.2 10) (((r_21.1.2.1 27) ((((r_21.1.2.1 25) k.toNatClampNeg) + i).toNatClampNeg)).toNatClampNeg)) / r_41)))
                else
                  none
            else
              none
          else
            none
        else
          some (r_21.1, (-1)))

set_option maxHeartbeats 4000000 in
set_option maxRecDepth 100000 in
theorem cM_quotient (l : Launch) (g : CX) (sz : Nat) (aM : Nat) (b : Nat → Nat) (mz : MSt) (k : Int32) (i : Int32) (wh : Int32) (N9 : Nat) (N2 : Nat) (r0 : MSt × Int64) (hok : sM_quotient mz k i wh N9 N2 = some r0) : Met l yM_quotient (wm yM_quotient kM_quotient 9 (some .long)) ({ frames := 10, cells := 0, slots := 0, locals := 278 }) (rw g [.ref aM, .int k, .int i, .int wh] (mX g aM b mz) sz) (va_Ql (fun (r : Int64) (_u : Unit) => r = r0.2) (rB g (va_A (mX g aM b mz) sz) (fun _u => (mX g aM b r0.1))) (va_A (mX g aM b mz) sz)) 0 0 (va_A (mX g aM b mz) sz) := by
  refine Met.ofW (cc := kM_quotient) (maxL := 9) (ret := (some .long)) (by decide) rfl ?_
  intro p e s m args below meth c s₁ B hml hv
  obtain ⟨rfl, hsz, hK, hP, hD0⟩ := hv
  have hx := B.exec
  have hb := B.bytes
  have hr := B.returns
  have ht : ∀ w ∈ wT, w.before _ s = true := fun w h => atoms_spec (ws := wm yM_quotient kM_quotient 9 (some .long)) B.pre w (List.mem_cons_of_mem _ h)
  have hown : s.vm.findClass "NodeMakerModel" = some m.cls := findClass_of_methodNamed B.named
  have hlocks := B.notSynchronized
  subst hsz
  have hD := hD0.self (sz := s.heap.size)
  generalize hAe : va_A (mX g aM b mz) s.heap.size = A at hD ⊢
  have hA : ∀ q : Nat, s.heap.size ≤ q → A q := fun q h => by rw [← hAe]; exact Or.inr h
  have hS : va_S A s.heap s.heap [] := va_S.rf
  have hl := lv_entry ([.ref aM, .int k, .int i, .int wh]) (n := 9) (Nat.le_of_ble_eq_true rfl)
  rw [lg_entry_eq]
  generalize (lg_sl ([.ref aM, .int k, .int i, .int wh]) ++ List.replicate (9 - (lg_sl ([.ref aM, .int k, .int i, .int wh])).length) Slot.unset).toArray = ls at hl ⊢
  have hl : lv_has ls 9 [(0, .ref aM), (1, .int k), (2, .int i), (3, .int wh)] := hl
  refine lv_aload_n hx hb dM_quotient_0 rfl (lv_at hl 0 rfl) ?_
  refine lv_iconst (v := 0) hx hb dM_quotient_1 (by decide) ?_
  refine va_put (D := g.1) (ci := 6) (v := .int 0) (ty := .int) (C := "NodeMakerModel") (T := Fd_M) (N := 37) hx hb ht i_M ty_M ty_M_ok nm_M hown hK.1 hP hD hS 0 rfl rfl 0 (by decide) (ht _ q_525) (fun _ h9 => h9) rfl (by decide +kernel) rfl rfl (Nat.le_of_ble_eq_true rfl) dM_quotient_2 (fun H locs hP hD hS => ?_)
  have hP : va_P g.1 vwCl (mX g aM b (mV 0 0 mz)) H := hP
  have hD : va_D A (mX g aM b (mV 0 0 mz)) := hD
  simp only [sM_quotient] at hok
  obtain ⟨z_20, ez_20⟩ : ∃ x9, x9 = mV 0 0 mz := ⟨_, rfl⟩
  rw [← ez_20] at hP hD hok
  refine lv_aload_n hx hb dM_quotient_5 rfl (lv_at hl 0 rfl) ?_
  refine lv_iload_n hx hb dM_quotient_6 rfl (lv_at hl 1 rfl) ?_
  refine lv_iload_n hx hb dM_quotient_7 rfl (lv_at hl 2 rfl) ?_
  obtain ⟨r_21, hc_22⟩ : ∃ r9, sM_isOn z_20 k i N9 N2 = some r9 := by
    cases hc9 : sM_isOn z_20 k i N9 N2 with
    | some r9 => exact ⟨r9, rfl⟩
    | none => exfalso; simp only [hc9] at hok; cases hok
  refine rw_iA (va_runV (As := [.int k, .int i]) (rest := []) ⟨hx, hb, hml, hown, ht⟩ (cM_isOn l g H.size aM b z_20 k i N9 N2 r_21 hc_22) (cwV 2 ht (g_V q_749 q_751 q_29 q_39 q_752) rfl rfl rfl hd_M_isOn ⟨Nat.le_of_ble_eq_true rfl, Nat.le_of_ble_eq_true rfl⟩) (rw_V hK hP hD (va_recv hK.1 hP (ci := 6) (q0 := 0) rfl rfl)) rfl rfl hl.1 rfl (lv_room (Nat.le_of_ble_eq_true rfl)) dM_quotient_8 ⟨Nat.zero_le _, Nat.zero_le _⟩) hD hS hA (fun rr _ H locs hw hP hD hS => ?_)
  subst hw
  have hP : va_P g.1 vwCl (mX g aM b (r_21.1)) H := hP
  have hD : va_D A (mX g aM b (r_21.1)) := hD
  refine lv_if_eq (tgt := 23) hx hb dM_quotient_11 (by decide) (fun c_23 => ?_) (fun c_23 => ?_)
  · skip
    refine lv_ldc2 (v := (-1)) hx hb hown (ht _ q_757) dM_quotient_23 ?_
    simp only [hc_22, if_pos c_23] at hok
    have hF := Option.some.inj hok
    subst hF
    exact W.lret hx hb hr (fun t ht9 hW => ⟨⟨_, (), rfl, rfl, by rw [ht9]; exact hP, hD⟩, hS.F ht9⟩) hS.2.2 dM_quotient_26
  · skip
    refine lv_iload_n hx hb dM_quotient_14 rfl (lv_at hl 3 rfl) ?_
    refine lv_if_lt (tgt := 23) hx hb dM_quotient_15 (by decide) (fun c_24 => ?_) (fun c_24 => ?_)
    · skip
      refine lv_ldc2 (v := (-1)) hx hb hown (ht _ q_757) dM_quotient_23 ?_
      simp only [hc_22, if_neg c_23, if_pos c_24] at hok
      have hF := Option.some.inj hok
      subst hF
      exact W.lret hx hb hr (fun t ht9 hW => ⟨⟨_, (), rfl, rfl, by rw [ht9]; exact hP, hD⟩, hS.F ht9⟩) hS.2.2 dM_quotient_26
    · skip
      refine lv_iload_n hx hb dM_quotient_18 rfl (lv_at hl 3 rfl) ?_
      refine lv_iconst (v := 3) hx hb dM_quotient_19 (by decide) ?_
      refine lv_icmp_le (tgt := 27) hx hb dM_quotient_20 (by decide) (fun c_25 => ?_) (fun c_25 => ?_)
      · skip
        refine lv_aload_n hx hb dM_quotient_27 rfl (lv_at hl 0 rfl) ?_
        refine va_get (D := g.1) (ci := 6) (v := .ref (b 27)) (C := "NodeMakerModel") (T := Fd_M) (N := 37) hx hb ht i_M hown hK.1 hP 0 rfl rfl 27 (by decide) (ht _ q_552) (fun _ h9 => h9) rfl dM_quotient_28 ?_
        refine lv_aload_n hx hb dM_quotient_31 rfl (lv_at hl 0 rfl) ?_
        refine va_get (D := g.1) (ci := 6) (v := .ref (b 25)) (C := "NodeMakerModel") (T := Fd_M) (N := 37) hx hb ht i_M hown hK.1 hP 0 rfl rfl 25 (by decide) (ht _ q_550) (fun _ h9 => h9) rfl dM_quotient_32 ?_
        refine lv_iload_n hx hb dM_quotient_35 rfl (lv_at hl 1 rfl) ?_
        have h_26 : vpin k 4200 := Decidable.byContradiction (fun h9 => by simp only [hc_22, if_neg c_23, if_neg c_24, if_pos c_25, if_neg h9] at hok; cases hok)
        refine va_iald hx hb hK.1 hP 20 0 rfl rfl (vp_in_iff.mpr h_26) dM_quotient_36 ?_
        refine lv_iload_n hx hb dM_quotient_37 rfl (lv_at hl 2 rfl) ?_
        refine lv_iadd hx hb dM_quotient_38 ?_
        have h_27 : vpin (((r_21.1.2.1 25) k.toNatClampNeg) + i) 8300 := Decidable.byContradiction (fun h9 => by simp only [hc_22, if_neg c_23, if_neg c_24, if_pos c_25, if_pos h_26, if_neg h9] at hok; cases hok)
        refine va_iald hx hb hK.1 hP 22 0 rfl rfl (vp_in_iff.mpr h_27) dM_quotient_39 ?_
        refine lv_istore (lv' := [(4, .int ((r_21.1.2.1 27) ((((r_21.1.2.1 25) k.toNatClampNeg) + i).toNatClampNeg))), (0, .ref aM), (1, .int k), (2, .int i), (3, .int wh)]) hx hb dM_quotient_40 hl (by decide) rfl (fun ls hl => ?_)
        refine lv_iload_n hx hb dM_quotient_42 rfl (lv_at hl 4 rfl) ?_
        refine lv_iconst (v := 2) hx hb dM_quotient_43 (by decide) ?_
        refine lv_icmp_ge (tgt := 57) hx hb dM_quotient_44 (by decide) (fun c_28 => ?_) (fun c_28 => ?_)
        · skip
          refine lv_aload_n hx hb dM_quotient_57 rfl (lv_at hl 1 rfl) ?_
          refine va_get (D := g.1) (ci := 6) (v := .ref (b 11)) (C := "NodeMakerModel") (T := Fd_M) (N := 37) hx hb ht i_M hown hK.1 hP 0 rfl rfl 11 (by decide) (ht _ q_536) (fun _ h9 => h9) rfl dM_quotient_58 ?_
          refine lv_iload hx hb dM_quotient_61 (lv_at hl 0 rfl) ?_
          have h_29 : vpin ((r_21.1.2.1 27) ((((r_21.1.2.1 25) k.toNatClampNeg) + i).toNatClampNeg)) 8300 := Decidable.byContradiction (fun h9 => by simp only [hc_22, if_neg c_23, if_neg c_24, if_pos c_25, if_pos h_26, if_pos h_27, if_pos c_28, if_neg h9] at hok; cases hok)
          refine va_lald hx hb hK.1 hP 9 2 rfl rfl (vp_in_iff.mpr h_29) dM_quotient_63 ?_
          refine lv_lstore (lv' := [(5, .long ((r_21.1.2.2 11) (((r_21.1.2.1 27) ((((r_21.1.2.1 25) k.toNatClampNeg) + i).toNatClampNeg)).toNatClampNeg))), (4, .int ((r_21.1.2.1 27) ((((r_21.1.2.1 25) k.toNatClampNeg) + i).toNatClampNeg))), (0, .ref aM), (1, .int k), (2, .int i), (3, .int wh)]) hx hb dM_quotient_64 hl (by decide) rfl (fun ls hl => ?_)
          refine lv_iload_n hx hb dM_quotient_66 rfl (lv_at hl 5 rfl) ?_
          refine lv_iconst (v := 2) hx hb dM_quotient_67 (by decide) ?_
          refine lv_icmp_ge (tgt := 81) hx hb dM_quotient_68 (by decide) (fun c_30 => ?_) (fun c_30 => ?_)
          · skip
            refine lv_aload_n hx hb dM_quotient_81 rfl (lv_at hl 2 rfl) ?_
            refine va_get (D := g.1) (ci := 6) (v := .ref (b 12)) (C := "NodeMakerModel") (T := Fd_M) (N := 37) hx hb ht i_M hown hK.1 hP 0 rfl rfl 12 (by decide) (ht _ q_537) (fun _ h9 => h9) rfl dM_quotient_82 ?_
            refine lv_iload hx hb dM_quotient_85 (lv_at hl 1 rfl) ?_
            refine va_lald hx hb hK.1 hP 10 2 rfl rfl (vp_in_iff.mpr h_29) dM_quotient_87 ?_
            refine lv_lstore (lv' := [(7, .long ((r_21.1.2.2 12) (((r_21.1.2.1 27) ((((r_21.1.2.1 25) k.toNatClampNeg) + i).toNatClampNeg)).toNatClampNeg))), (5, .long ((r_21.1.2.2 11) (((r_21.1.2.1 27) ((((r_21.1.2.1 25) k.toNatClampNeg) + i).toNatClampNeg)).toNatClampNeg))), (4, .int ((r_21.1.2.1 27) ((((r_21.1.2.1 25) k.toNatClampNeg) + i).toNatClampNeg))), (0, .ref aM), (1, .int k), (2, .int i), (3, .int wh)]) hx hb dM_quotient_88 hl (by decide) rfl (fun ls hl => ?_)
            refine lv_iload_n hx hb dM_quotient_90 rfl (lv_at hl 6 rfl) ?_
            refine lv_iconst (v := 2) hx hb dM_quotient_91 (by decide) ?_
            refine lv_irem hx hb dM_quotient_92 (by decide) ?_
            refine lv_if_ne (tgt := 101) hx hb dM_quotient_93 (by decide) (fun c_31 => ?_) (fun c_31 => ?_)
            · skip
              refine lv_lload hx hb dM_quotient_101 (lv_at hl 0 rfl) ?_
              refine lv_lload hx hb dM_quotient_103 (lv_at hl 1 rfl) ?_
              refine lv_lload hx hb dM_quotient_105 (lv_at hl 0 rfl) ?_
              obtain ⟨r_32, hc_33⟩ : ∃ r9, sCom N9 ((r_21.1.2.2 11) (((r_21.1.2.1 27) ((((r_21.1.2.1 25) k.toNatClampNeg) + i).toNatClampNeg)).toNatClampNeg)) ((r_21.1.2.2 12) (((r_21.1.2.1 27) ((((r_21.1.2.1 25) k.toNatClampNeg) + i).toNatClampNeg)).toNatClampNeg)) = some r9 := by
                cases hc9 : sCom N9 ((r_21.1.2.2 11) (((r_21.1.2.1 27) ((((r_21.1.2.1 25) k.toNatClampNeg) + i).toNatClampNeg)).toNatClampNeg)) ((r_21.1.2.2 12) (((r_21.1.2.1 27) ((((r_21.1.2.1 25) k.toNatClampNeg) + i).toNatClampNeg)).toNatClampNeg)) with
                | some r9 => exact ⟨r9, rfl⟩
                | none => exfalso; simp only [hc_22, if_neg c_23, if_neg c_24, if_pos c_25, if_pos h_26, if_pos h_27, if_pos c_28, if_pos h_29, if_neg c_31, hc9] at hok; cases hok
              refine ro_Sl (v := r_32) (As := [.long ((r_21.1.2.2 11) (((r_21.1.2.1 27) ((((r_21.1.2.1 25) k.toNatClampNeg) + i).toNatClampNeg)).toNatClampNeg)), .long ((r_21.1.2.2 12) (((r_21.1.2.1 27) ((((r_21.1.2.1 25) k.toNatClampNeg) + i).toNatClampNeg)).toNatClampNeg))]) (rest := [.long ((r_21.1.2.2 12) (((r_21.1.2.1 27) ((((r_21.1.2.1 25) k.toNatClampNeg) + i).toNatClampNeg)).toNatClampNeg))]) ⟨hx, hb, hml, hown, ht⟩ (cM_common l g ((r_21.1.2.2 11) (((r_21.1.2.1 27) ((((r_21.1.2.1 25) k.toNatClampNeg) + i).toNatClampNeg)).toNatClampNeg)) ((r_21.1.2.2 12) (((r_21.1.2.1 27) ((((r_21.1.2.1 25) k.toNatClampNeg) + i).toNatClampNeg)).toNatClampNeg)) N9 r_32 hc_33) (cwS 2 ht (g_S q_758 q_759 q_39 q_760) rfl rfl rfl hd_M_common ⟨Nat.le_of_ble_eq_true rfl, Nat.le_of_ble_eq_true rfl⟩) hK (trivial) rfl hl.1 rfl (Nat.le_of_ble_eq_true rfl) dM_quotient_107 ⟨Nat.zero_le _, Nat.zero_le _⟩ ?_
              have h_34 : ¬ r_32 = 0 := fun h9 => by simp only [hc_22, if_neg c_23, if_neg c_24, if_pos c_25, if_pos h_26, if_pos h_27, if_pos c_28, if_pos h_29, if_neg c_31, hc_33, if_pos h9] at hok; cases hok
              refine lv_ldiv hx hb dM_quotient_110 (h_34) ?_
              simp only [hc_22, if_neg c_23, if_neg c_24, if_pos c_25, if_pos h_26, if_pos h_27, if_pos c_28, if_pos h_29, if_neg c_31, hc_33, if_neg h_34] at hok
              have hF := Option.some.inj hok
              subst hF
              exact W.lret hx hb hr (fun t ht9 hW => ⟨⟨_, (), rfl, rfl, by rw [ht9]; exact hP, hD⟩, hS.F ht9⟩) hS.2.2 dM_quotient_111
            · skip
              refine lv_lload hx hb dM_quotient_96 (lv_at hl 1 rfl) ?_
              refine lv_goto (tgt := 103) hx hb dM_quotient_98 (by decide) ?_
              refine lv_lload hx hb dM_quotient_103 (lv_at hl 1 rfl) ?_
              refine lv_lload hx hb dM_quotient_105 (lv_at hl 0 rfl) ?_
              obtain ⟨r_35, hc_36⟩ : ∃ r9, sCom N9 ((r_21.1.2.2 11) (((r_21.1.2.1 27) ((((r_21.1.2.1 25) k.toNatClampNeg) + i).toNatClampNeg)).toNatClampNeg)) ((r_21.1.2.2 12) (((r_21.1.2.1 27) ((((r_21.1.2.1 25) k.toNatClampNeg) + i).toNatClampNeg)).toNatClampNeg)) = some r9 := by
                cases hc9 : sCom N9 ((r_21.1.2.2 11) (((r_21.1.2.1 27) ((((r_21.1.2.1 25) k.toNatClampNeg) + i).toNatClampNeg)).toNatClampNeg)) ((r_21.1.2.2 12) (((r_21.1.2.1 27) ((((r_21.1.2.1 25) k.toNatClampNeg) + i).toNatClampNeg)).toNatClampNeg)) with
                | some r9 => exact ⟨r9, rfl⟩
                | none => exfalso; simp only [hc_22, if_neg c_23, if_neg c_24, if_pos c_25, if_pos h_26, if_pos h_27, if_pos c_28, if_pos h_29, if_pos c_31, hc9] at hok; cases hok
              refine ro_Sl (v := r_35) (As := [.long ((r_21.1.2.2 11) (((r_21.1.2.1 27) ((((r_21.1.2.1 25) k.toNatClampNeg) + i).toNatClampNeg)).toNatClampNeg)), .long ((r_21.1.2.2 12) (((r_21.1.2.1 27) ((((r_21.1.2.1 25) k.toNatClampNeg) + i).toNatClampNeg)).toNatClampNeg))]) (rest := [.long ((r_21.1.2.2 11) (((r_21.1.2.1 27) ((((r_21.1.2.1 25) k.toNatClampNeg) + i).toNatClampNeg)).toNatClampNeg))]) ⟨hx, hb, hml, hown, ht⟩ (cM_common l g ((r_21.1.2.2 11) (((r_21.1.2.1 27) ((((r_21.1.2.1 25) k.toNatClampNeg) + i).toNatClampNeg)).toNatClampNeg)) ((r_21.1.2.2 12) (((r_21.1.2.1 27) ((((r_21.1.2.1 25) k.toNatClampNeg) + i).toNatClampNeg)).toNatClampNeg)) N9 r_35 hc_36) (cwS 2 ht (g_S q_758 q_759 q_39 q_760) rfl rfl rfl hd_M_common ⟨Nat.le_of_ble_eq_true rfl, Nat.le_of_ble_eq_true rfl⟩) hK (trivial) rfl hl.1 rfl (Nat.le_of_ble_eq_true rfl) dM_quotient_107 ⟨Nat.zero_le _, Nat.zero_le _⟩ ?_
              have h_37 : ¬ r_35 = 0 := fun h9 => by simp only [hc_22, if_neg c_23, if_neg c_24, if_pos c_25, if_pos h_26, if_pos h_27, if_pos c_28, if_pos h_29, if_pos c_31, hc_36, if_pos h9] at hok; cases hok
              refine lv_ldiv hx hb dM_quotient_110 (h_37) ?_
              simp only [hc_22, if_neg c_23, if_neg c_24, if_pos c_25, if_pos h_26, if_pos h_27, if_pos c_28, if_pos h_29, if_pos c_31, hc_36, if_neg h_37] at hok
              have hF := Option.some.inj hok
              subst hF
              exact W.lret hx hb hr (fun t ht9 hW => ⟨⟨_, (), rfl, rfl, by rw [ht9]; exact hP, hD⟩, hS.F ht9⟩) hS.2.2 dM_quotient_111
          · skip
            exact absurd c_28 c_30
        · skip
          refine lv_aload_n hx hb dM_quotient_47 rfl (lv_at hl 1 rfl) ?_
          refine va_get (D := g.1) (ci := 6) (v := .ref (b 9)) (C := "NodeMakerModel") (T := Fd_M) (N := 37) hx hb ht i_M hown hK.1 hP 0 rfl rfl 9 (by decide) (ht _ q_534) (fun _ h9 => h9) rfl dM_quotient_48 ?_
          refine lv_iload hx hb dM_quotient_51 (lv_at hl 0 rfl) ?_
          have h_38 : vpin ((r_21.1.2.1 27) ((((r_21.1.2.1 25) k.toNatClampNeg) + i).toNatClampNeg)) 8300 := Decidable.byContradiction (fun h9 => by simp only [hc_22, if_neg c_23, if_neg c_24, if_pos c_25, if_pos h_26, if_pos h_27, if_neg c_28, if_neg h9] at hok; cases hok)
          refine va_lald hx hb hK.1 hP 7 2 rfl rfl (vp_in_iff.mpr h_38) dM_quotient_53 ?_
          refine lv_goto (tgt := 64) hx hb dM_quotient_54 (by decide) ?_
          refine lv_lstore (lv' := [(5, .long ((r_21.1.2.2 9) (((r_21.1.2.1 27) ((((r_21.1.2.1 25) k.toNatClampNeg) + i).toNatClampNeg)).toNatClampNeg))), (4, .int ((r_21.1.2.1 27) ((((r_21.1.2.1 25) k.toNatClampNeg) + i).toNatClampNeg))), (0, .ref aM), (1, .int k), (2, .int i), (3, .int wh)]) hx hb dM_quotient_64 hl (by decide) rfl (fun ls hl => ?_)
          refine lv_iload_n hx hb dM_quotient_66 rfl (lv_at hl 5 rfl) ?_
          refine lv_iconst (v := 2) hx hb dM_quotient_67 (by decide) ?_
          refine lv_icmp_ge (tgt := 81) hx hb dM_quotient_68 (by decide) (fun c_39 => ?_) (fun c_39 => ?_)
          · skip
            exact absurd c_39 c_28
          · skip
            refine lv_aload_n hx hb dM_quotient_71 rfl (lv_at hl 2 rfl) ?_
            refine va_get (D := g.1) (ci := 6) (v := .ref (b 10)) (C := "NodeMakerModel") (T := Fd_M) (N := 37) hx hb ht i_M hown hK.1 hP 0 rfl rfl 10 (by decide) (ht _ q_535) (fun _ h9 => h9) rfl dM_quotient_72 ?_
            refine lv_iload hx hb dM_quotient_75 (lv_at hl 1 rfl) ?_
            refine va_lald hx hb hK.1 hP 8 2 rfl rfl (vp_in_iff.mpr h_38) dM_quotient_77 ?_
            refine lv_goto (tgt := 88) hx hb dM_quotient_78 (by decide) ?_
            refine lv_lstore (lv' := [(7, .long ((r_21.1.2.2 10) (((r_21.1.2.1 27) ((((r_21.1.2.1 25) k.toNatClampNeg) + i).toNatClampNeg)).toNatClampNeg))), (5, .long ((r_21.1.2.2 9) (((r_21.1.2.1 27) ((((r_21.1.2.1 25) k.toNatClampNeg) + i).toNatClampNeg)).toNatClampNeg))), (4, .int ((r_21.1.2.1 27) ((((r_21.1.2.1 25) k.toNatClampNeg) + i).toNatClampNeg))), (0, .ref aM), (1, .int k), (2, .int i), (3, .int wh)]) hx hb dM_quotient_88 hl (by decide) rfl (fun ls hl => ?_)
            refine lv_iload_n hx hb dM_quotient_90 rfl (lv_at hl 6 rfl) ?_
            refine lv_iconst (v := 2) hx hb dM_quotient_91 (by decide) ?_
            refine lv_irem hx hb dM_quotient_92 (by decide) ?_
            refine lv_if_ne (tgt := 101) hx hb dM_quotient_93 (by decide) (fun c_40 => ?_) (fun c_40 => ?_)
            · skip
              refine lv_lload hx hb dM_quotient_101 (lv_at hl 0 rfl) ?_
              refine lv_lload hx hb dM_quotient_103 (lv_at hl 1 rfl) ?_
              refine lv_lload hx hb dM_quotient_105 (lv_at hl 0 rfl) ?_
              obtain ⟨r_41, hc_42⟩ : ∃ r9, sCom N9 ((r_21.1.2.2 9) (((r_21.1.2.1 27) ((((r_21.1.2.1 25) k.toNatClampNeg) + i).toNatClampNeg)).toNatClampNeg)) ((r_21.1.2.2 10) (((r_21.1.2.1 27) ((((r_21.1.2.1 25) k.toNatClampNeg) + i).toNatClampNeg)).toNatClampNeg)) = some r9 := by
                cases hc9 : sCom N9 ((r_21.1.2.2 9) (((r_21.1.2.1 27) ((((r_21.1.2.1 25) k.toNatClampNeg) + i).toNatClampNeg)).toNatClampNeg)) ((r_21.1.2.2 10) (((r_21.1.2.1 27) ((((r_21.1.2.1 25) k.toNatClampNeg) + i).toNatClampNeg)).toNatClampNeg)) with
                | some r9 => exact ⟨r9, rfl⟩
                | none => exfalso; simp only [hc_22, if_neg c_23, if_neg c_24, if_pos c_25, if_pos h_26, if_pos h_27, if_neg c_28, if_pos h_38, if_neg c_40, hc9] at hok; cases hok
              refine ro_Sl (v := r_41) (As := [.long ((r_21.1.2.2 9) (((r_21.1.2.1 27) ((((r_21.1.2.1 25) k.toNatClampNeg) + i).toNatClampNeg)).toNatClampNeg)), .long ((r_21.1.2.2 10) (((r_21.1.2.1 27) ((((r_21.1.2.1 25) k.toNatClampNeg) + i).toNatClampNeg)).toNatClampNeg))]) (rest := [.long ((r_21.1.2.2 10) (((r_21.1.2.1 27) ((((r_21.1.2.1 25) k.toNatClampNeg) + i).toNatClampNeg)).toNatClampNeg))]) ⟨hx, hb, hml, hown, ht⟩ (cM_common l g ((r_21.1.2.2 9) (((r_21.1.2.1 27) ((((r_21.1.2.1 25) k.toNatClampNeg) + i).toNatClampNeg)).toNatClampNeg)) ((r_21.1.2.2 10) (((r_21.1.2.1 27) ((((r_21.1.2.1 25) k.toNatClampNeg) + i).toNatClampNeg)).toNatClampNeg)) N9 r_41 hc_42) (cwS 2 ht (g_S q_758 q_759 q_39 q_760) rfl rfl rfl hd_M_common ⟨Nat.le_of_ble_eq_true rfl, Nat.le_of_ble_eq_true rfl⟩) hK (trivial) rfl hl.1 rfl (Nat.le_of_ble_eq_true rfl) dM_quotient_107 ⟨Nat.zero_le _, Nat.zero_le _⟩ ?_
              have h_43 : ¬ r_41 = 0 := fun h9 => by simp only [hc_22, if_neg c_23, if_neg c_24, if_pos c_25, if_pos h_26, if_pos h_27, if_neg c_28, if_pos h_38, if_neg c_40, hc_42, if_pos h9] at hok; cases hok
              refine lv_ldiv hx hb dM_quotient_110 (h_43) ?_
              simp only [hc_22, if_neg c_23, if_neg c_24, if_pos c_25, if_pos h_26, if_pos h_27, if_neg c_28, if_pos h_38, if_neg c_40, hc_42, if_neg h_43] at hok
              have hF := Option.some.inj hok
              subst hF
              exact W.lret hx hb hr (fun t ht9 hW => ⟨⟨_, (), rfl, rfl, by rw [ht9]; exact hP, hD⟩, hS.F ht9⟩) hS.2.2 dM_quotient_111
            · skip
              refine lv_lload hx hb dM_quotient_96 (lv_at hl 1 rfl) ?_
              refine lv_goto (tgt := 103) hx hb dM_quotient_98 (by decide) ?_
              refine lv_lload hx hb dM_quotient_103 (lv_at hl 1 rfl) ?_
              refine lv_lload hx hb dM_quotient_105 (lv_at hl 0 rfl) ?_
              obtain ⟨r_44, hc_45⟩ : ∃ r9, sCom N9 ((r_21.1.2.2 9) (((r_21.1.2.1 27) ((((r_21.1.2.1 25) k.toNatClampNeg) + i).toNatClampNeg)).toNatClampNeg)) ((r_21.1.2.2 10) (((r_21.1.2.1 27) ((((r_21.1.2.1 25) k.toNatClampNeg) + i).toNatClampNeg)).toNatClampNeg)) = some r9 := by
                cases hc9 : sCom N9 ((r_21.1.2.2 9) (((r_21.1.2.1 27) ((((r_21.1.2.1 25) k.toNatClampNeg) + i).toNatClampNeg)).toNatClampNeg)) ((r_21.1.2.2 10) (((r_21.1.2.1 27) ((((r_21.1.2.1 25) k.toNatClampNeg) + i).toNatClampNeg)).toNatClampNeg)) with
                | some r9 => exact ⟨r9, rfl⟩
                | none => exfalso; simp only [hc_22, if_neg c_23, if_neg c_24, if_pos c_25, if_pos h_26, if_pos h_27, if_neg c_28, if_pos h_38, if_pos c_40, hc9] at hok; cases hok
              refine ro_Sl (v := r_44) (As := [.long ((r_21.1.2.2 9) (((r_21.1.2.1 27) ((((r_21.1.2.1 25) k.toNatClampNeg) + i).toNatClampNeg)).toNatClampNeg)), .long ((r_21.1.2.2 10) (((r_21.1.2.1 27) ((((r_21.1.2.1 25) k.toNatClampNeg) + i).toNatClampNeg)).toNatClampNeg))]) (rest := [.long ((r_21.1.2.2 9) (((r_21.1.2.1 27) ((((r_21.1.2.1 25) k.toNatClampNeg) + i).toNatClampNeg)).toNatClampNeg))]) ⟨hx, hb, hml, hown, ht⟩ (cM_common l g ((r_21.1.2.2 9) (((r_21.1.2.1 27) ((((r_21.1.2.1 25) k.toNatClampNeg) + i).toNatClampNeg)).toNatClampNeg)) ((r_21.1.2.2 10) (((r_21.1.2.1 27) ((((r_21.1.2.1 25) k.toNatClampNeg) + i).toNatClampNeg)).toNatClampNeg)) N9 r_44 hc_45) (cwS 2 ht (g_S q_758 q_759 q_39 q_760) rfl rfl rfl hd_M_common ⟨Nat.le_of_ble_eq_true rfl, Nat.le_of_ble_eq_true rfl⟩) hK (trivial) rfl hl.1 rfl (Nat.le_of_ble_eq_true rfl) dM_quotient_107 ⟨Nat.zero_le _, Nat.zero_le _⟩ ?_
              have h_46 : ¬ r_44 = 0 := fun h9 => by simp only [hc_22, if_neg c_23, if_neg c_24, if_pos c_25, if_pos h_26, if_pos h_27, if_neg c_28, if_pos h_38, if_pos c_40, hc_45, if_pos h9] at hok; cases hok
              refine lv_ldiv hx hb dM_quotient_110 (h_46) ?_
              simp only [hc_22, if_neg c_23, if_neg c_24, if_pos c_25, if_pos h_26, if_pos h_27, if_neg c_28, if_pos h_38, if_pos c_40, hc_45, if_neg h_46] at hok
              have hF := Option.some.inj hok
              subst hF
              exact W.lret hx hb hr (fun t ht9 hW => ⟨⟨_, (), rfl, rfl, by rw [ht9]; exact hP, hD⟩, hS.F ht9⟩) hS.2.2 dM_quotient_111
      · skip
        refine lv_ldc2 (v := (-1)) hx hb hown (ht _ q_757) dM_quotient_23 ?_
        simp only [hc_22, if_neg c_23, if_neg c_24, if_neg c_25] at hok
        have hF := Option.some.inj hok
        subst hF
        exact W.lret hx hb hr (fun t ht9 hW => ⟨⟨_, (), rfl, rfl, by rw [ht9]; exact hP, hD⟩, hS.F ht9⟩) hS.2.2 dM_quotient_26
def sLfL (x y : Int32) : Nat → MSt → Int32 → Option (MSt × Int32)
  | 0, _, _ => none
  | n + 1, zs, k => if k < 0 then
      some (zs, k)
    else
      (match sM_isLeft zs k x y with
      | none => none
      | some r_56 => if r_56 = 0 then
          if vpin k 4200 then
            sLfL x y n zs ((zs.2.1 23) k.toNatClampNeg)
          else
            none
        else
          if vpin k 4200 then
            sLfL x y n zs ((zs.2.1 22) k.toNatClampNeg)
          else
            none)
def sM_leaf (mz : MSt) (x : Int32) (y : Int32) (N9 : Nat) (N2 : Nat) : Option (MSt × Int32) :=
  if (sM_isPlace x) = 0 then
    some ((mV 0 0 mz), (-1))
  else
    if (sM_isPlace y) = 0 then
      some ((mV 0 0 mz), (-1))
    else
      (match sM_know (mV 0 0 mz)  N9 N2 with
      | none => none
      | some r_50 => if (r_50.1 28) ≤ 0 then
          (match sLfL x y N9 r_50 (-1) with
          | none => none
          | some T_53 => some (T_53.1, ((-1) - T_53.2)))
        else
          (match sLfL x y N9 r_50 0 with
          | none => none
          | some T_61 => some (T_61.1, ((-1) - T_61.2))))

set_option maxHeartbeats 4000000 in
set_option maxRecDepth 100000 in
theorem cM_leaf (l : Launch) (g : CX) (sz : Nat) (aM : Nat) (b : Nat → Nat) (mz : MSt) (x : Int32) (y : Int32) (N9 : Nat) (N2 : Nat) (r0 : MSt × Int32) (hok : sM_leaf mz x y N9 N2 = some r0) : Met l yM_leaf (wm yM_leaf kM_leaf 4 (some .int)) ({ frames := 8, cells := 0, slots := 0, locals := 235 }) (rw g [.ref aM, .int x, .int y] (mX g aM b mz) sz) (va_Qi (fun (r : Int32) (_u : Unit) => r = r0.2) (rB g (va_A (mX g aM b mz) sz) (fun _u => (mX g aM b r0.1))) (va_A (mX g aM b mz) sz)) 0 0 (va_A (mX g aM b mz) sz) := by
  refine Met.ofW (cc := kM_leaf) (maxL := 4) (ret := (some .int)) (by decide) rfl ?_
  intro p e s m args below meth c s₁ B hml hv
  obtain ⟨rfl, hsz, hK, hP, hD0⟩ := hv
  have hx := B.exec
  have hb := B.bytes
  have hr := B.returns
  have ht : ∀ w ∈ wT, w.before _ s = true := fun w h => atoms_spec (ws := wm yM_leaf kM_leaf 4 (some .int)) B.pre w (List.mem_cons_of_mem _ h)
  have hown : s.vm.findClass "NodeMakerModel" = some m.cls := findClass_of_methodNamed B.named
  have hlocks := B.notSynchronized
  subst hsz
  have hD := hD0.self (sz := s.heap.size)
  generalize hAe : va_A (mX g aM b mz) s.heap.size = A at hD ⊢
  have hA : ∀ q : Nat, s.heap.size ≤ q → A q := fun q h => by rw [← hAe]; exact Or.inr h
  have hS : va_S A s.heap s.heap [] := va_S.rf
  have hl := lv_entry ([.ref aM, .int x, .int y]) (n := 4) (Nat.le_of_ble_eq_true rfl)
  rw [lg_entry_eq]
  generalize (lg_sl ([.ref aM, .int x, .int y]) ++ List.replicate (4 - (lg_sl ([.ref aM, .int x, .int y])).length) Slot.unset).toArray = ls at hl ⊢
  have hl : lv_has ls 4 [(0, .ref aM), (1, .int x), (2, .int y)] := hl
  refine lv_aload_n hx hb dM_leaf_0 rfl (lv_at hl 0 rfl) ?_
  refine lv_iconst (v := 0) hx hb dM_leaf_1 (by decide) ?_
  refine va_put (D := g.1) (ci := 6) (v := .int 0) (ty := .int) (C := "NodeMakerModel") (T := Fd_M) (N := 37) hx hb ht i_M ty_M ty_M_ok nm_M hown hK.1 hP hD hS 0 rfl rfl 0 (by decide) (ht _ q_525) (fun _ h9 => h9) rfl (by decide +kernel) rfl rfl (Nat.le_of_ble_eq_true rfl) dM_leaf_2 (fun H locs hP hD hS => ?_)
  have hP : va_P g.1 vwCl (mX g aM b (mV 0 0 mz)) H := hP
  have hD : va_D A (mX g aM b (mV 0 0 mz)) := hD
  simp only [sM_leaf] at hok
  obtain ⟨z_47, ez_47⟩ : ∃ x9, x9 = mV 0 0 mz := ⟨_, rfl⟩
  rw [← ez_47] at hP hD hok
  refine lv_iload_n hx hb dM_leaf_5 rfl (lv_at hl 1 rfl) ?_
  refine ro_Si (v := sM_isPlace x) (As := [.int x]) (rest := []) ⟨hx, hb, hml, hown, ht⟩ (cM_isPlace l g x) (cwS 1 ht (g_S q_647 q_648 q_39 q_649) rfl rfl rfl hd_M_isPlace ⟨Nat.le_of_ble_eq_true rfl, Nat.le_of_ble_eq_true rfl⟩) hK (trivial) rfl hl.1 rfl (Nat.le_of_ble_eq_true rfl) dM_leaf_6 ⟨Nat.zero_le _, Nat.zero_le _⟩ ?_
  refine lv_if_eq (tgt := 19) hx hb dM_leaf_9 (by decide) (fun c_48 => ?_) (fun c_48 => ?_)
  · skip
    refine lv_iconst (v := -1) hx hb dM_leaf_19 (by decide) ?_
    simp only [if_pos c_48] at hok
    have hF := Option.some.inj hok
    subst hF
    exact W.iret hx hb hr (fun t ht9 hW => ⟨⟨_, (), rfl, rfl, by rw [ht9]; exact hP, hD⟩, hS.F ht9⟩) hS.2.2 dM_leaf_20
  · skip
    refine lv_iload_n hx hb dM_leaf_12 rfl (lv_at hl 2 rfl) ?_
    refine ro_Si (v := sM_isPlace y) (As := [.int y]) (rest := []) ⟨hx, hb, hml, hown, ht⟩ (cM_isPlace l g y) (cwS 1 ht (g_S q_647 q_648 q_39 q_649) rfl rfl rfl hd_M_isPlace ⟨Nat.le_of_ble_eq_true rfl, Nat.le_of_ble_eq_true rfl⟩) hK (trivial) rfl hl.1 rfl (Nat.le_of_ble_eq_true rfl) dM_leaf_13 ⟨Nat.zero_le _, Nat.zero_le _⟩ ?_
    refine lv_if_ne (tgt := 21) hx hb dM_leaf_16 (by decide) (fun c_49 => ?_) (fun c_49 => ?_)
    · skip
      refine lv_aload_n hx hb dM_leaf_21 rfl (lv_at hl 0 rfl) ?_
      obtain ⟨r_50, hc_51⟩ : ∃ r9, sM_know z_47  N9 N2 = some r9 := by
        cases hc9 : sM_know z_47  N9 N2 with
        | some r9 => exact ⟨r9, rfl⟩
        | none => exfalso; simp only [if_neg c_48, if_neg c_49, hc9] at hok; cases hok
      refine rw_vA (va_runV (As := []) (rest := []) ⟨hx, hb, hml, hown, ht⟩ (cM_know l g H.size aM b z_47  N9 N2 r_50 hc_51) (cwV 0 ht (g_V q_692 q_694 q_18 q_39 q_695) rfl rfl rfl hd_M_know ⟨Nat.le_of_ble_eq_true rfl, Nat.le_of_ble_eq_true rfl⟩) (rw_V hK hP hD (va_recv hK.1 hP (ci := 6) (q0 := 0) rfl rfl)) rfl rfl hl.1 rfl (lv_room (Nat.le_of_ble_eq_true rfl)) dM_leaf_22 ⟨Nat.zero_le _, Nat.zero_le _⟩) hD hS hA (fun _ H locs _ hP hD hS => ?_)
      have hP : va_P g.1 vwCl (mX g aM b (r_50)) H := hP
      have hD : va_D A (mX g aM b (r_50)) := hD
      refine lv_aload_n hx hb dM_leaf_25 rfl (lv_at hl 0 rfl) ?_
      refine va_get (D := g.1) (ci := 6) (v := .int (r_50.1 28)) (C := "NodeMakerModel") (T := Fd_M) (N := 37) hx hb ht i_M hown hK.1 hP 0 rfl rfl 28 (by decide) (ht _ q_553) (fun _ h9 => h9) rfl dM_leaf_26 ?_
      refine lv_if_le (tgt := 36) hx hb dM_leaf_29 (by decide) (fun c_52 => ?_) (fun c_52 => ?_)
      · skip
        refine lv_iconst (v := -1) hx hb dM_leaf_36 (by decide) ?_
        refine lv_istore_n (lv' := [(3, .int (-1)), (0, .ref aM), (1, .int x), (2, .int y)]) hx hb dM_leaf_37 rfl hl (by decide) rfl (fun ls hl => ?_)
        obtain ⟨T_53, hT_54⟩ : ∃ t9, sLfL x y N9 r_50 (-1) = some t9 := by
          cases hc9 : sLfL x y N9 r_50 (-1) with
          | some t9 => exact ⟨t9, rfl⟩
          | none => exfalso; simp only [if_neg c_48, if_neg c_49, hc_51, if_pos c_52, hc9] at hok; cases hok
        have loop38 : ∀ (n : Nat) (zs : MSt) (k : Int32) (H : Heap) (locs : List Loc) (ls : Array Slot), sLfL x y n zs k = some T_53 → va_P g.1 vwCl (mX g aM b zs) H → va_D A (mX g aM b zs) → va_S A s.heap H locs → lv_has ls 4 [(3, .int k), (0, .ref aM), (1, .int x), (2, .int y)] → W p l e (headSpec (wm yM_leaf kM_leaf 4 (some .int)) ({ frames := 8, cells := 0, slots := 0, locals := 235 })).room s m ([.ref aM, .int x, .int y] : List Value).toArray below meth c H locs (0) (0) (MQ below (va_Qi (fun (r : Int32) (_u : Unit) => r = r0.2) (rB g A (fun _u => (mX g aM b r0.1))) A) ([.ref aM, .int x, .int y] : List Value).toArray s 0 0 A) (F0 m 38 ls []) := by
          intro n38
          induction n38 with
          | zero => intro zs k H locs ls hL38 hP hD hS hl; cases hL38
          | succ n38 ih38 =>
            intro zs k H locs ls hL38 hP hD hS hl
            refine lv_iload_n hx hb dM_leaf_38 rfl (lv_at hl 0 rfl) ?_
            refine lv_if_lt (tgt := 71) hx hb dM_leaf_39 (by decide) (fun c_55 => ?_) (fun c_55 => ?_)
            · skip
              simp only [sLfL, if_pos c_55] at hL38
              have hex : (zs, k) = T_53 := Option.some.inj hL38
              have e_zs : zs = T_53.1 := by rw [← hex]
              have e_k : k = T_53.2 := by rw [← hex]
              subst e_zs
              subst e_k
              refine lv_iconst (v := -1) hx hb dM_leaf_71 (by decide) ?_
              refine lv_iload_n hx hb dM_leaf_72 rfl (lv_at hl 0 rfl) ?_
              refine lv_isub hx hb dM_leaf_73 ?_
              simp only [if_neg c_48, if_neg c_49, hc_51, if_pos c_52, hT_54] at hok
              have hF := Option.some.inj hok
              subst hF
              exact W.iret hx hb hr (fun t ht9 hW => ⟨⟨_, (), rfl, rfl, by rw [ht9]; exact hP, hD⟩, hS.F ht9⟩) hS.2.2 dM_leaf_74
            · skip
              refine lv_aload_n hx hb dM_leaf_42 rfl (lv_at hl 1 rfl) ?_
              refine lv_iload_n hx hb dM_leaf_43 rfl (lv_at hl 0 rfl) ?_
              refine lv_iload_n hx hb dM_leaf_44 rfl (lv_at hl 2 rfl) ?_
              refine lv_iload_n hx hb dM_leaf_45 rfl (lv_at hl 3 rfl) ?_
              obtain ⟨r_56, hc_57⟩ : ∃ r9, sM_isLeft zs k x y = some r9 := by
                cases hc9 : sM_isLeft zs k x y with
                | some r9 => exact ⟨r9, rfl⟩
                | none => exfalso; simp only [sLfL, if_neg c_55, hc9] at hL38; cases hL38
              refine ro_Vi (v := r_56) (As := [.int k, .int x, .int y]) (rest := []) ⟨hx, hb, hml, hown, ht⟩ (cM_isLeft l g aM b zs k x y r_56 hc_57) (cwV 3 ht (g_V q_765 q_767 q_30 q_39 q_768) rfl rfl rfl hd_M_isLeft ⟨Nat.le_of_ble_eq_true rfl, Nat.le_of_ble_eq_true rfl⟩) hK (hP) (va_recv hK.1 hP (ci := 6) (q0 := 0) rfl rfl) rfl hl.1 rfl (Nat.le_of_ble_eq_true rfl) dM_leaf_46 ⟨Nat.zero_le _, Nat.zero_le _⟩ ?_
              refine lv_if_eq (tgt := 61) hx hb dM_leaf_49 (by decide) (fun c_58 => ?_) (fun c_58 => ?_)
              · skip
                refine lv_aload_n hx hb dM_leaf_61 rfl (lv_at hl 1 rfl) ?_
                refine va_get (D := g.1) (ci := 6) (v := .ref (b 23)) (C := "NodeMakerModel") (T := Fd_M) (N := 37) hx hb ht i_M hown hK.1 hP 0 rfl rfl 23 (by decide) (ht _ q_548) (fun _ h9 => h9) rfl dM_leaf_62 ?_
                refine lv_iload_n hx hb dM_leaf_65 rfl (lv_at hl 0 rfl) ?_
                have h_59 : vpin k 4200 := Decidable.byContradiction (fun h9 => by simp only [sLfL, if_neg c_55, hc_57, if_pos c_58, if_neg h9] at hL38; cases hL38)
                refine va_iald hx hb hK.1 hP 18 0 rfl rfl (vp_in_iff.mpr h_59) dM_leaf_66 ?_
                refine lv_istore_n (lv' := [(3, .int ((zs.2.1 23) k.toNatClampNeg)), (0, .ref aM), (1, .int x), (2, .int y)]) hx hb dM_leaf_67 rfl hl (by decide) rfl (fun ls hl => ?_)
                refine lv_goto (tgt := 38) hx hb dM_leaf_68 (by decide) ?_
                simp only [sLfL, if_neg c_55, hc_57, if_pos c_58, if_pos h_59] at hL38
                exact ih38 zs ((zs.2.1 23) k.toNatClampNeg) H locs ls hL38 hP hD hS (lv_sub hl [0, 1, 2, 3] rfl)
              · skip
                refine lv_aload_n hx hb dM_leaf_52 rfl (lv_at hl 1 rfl) ?_
                refine va_get (D := g.1) (ci := 6) (v := .ref (b 22)) (C := "NodeMakerModel") (T := Fd_M) (N := 37) hx hb ht i_M hown hK.1 hP 0 rfl rfl 22 (by decide) (ht _ q_547) (fun _ h9 => h9) rfl dM_leaf_53 ?_
                refine lv_iload_n hx hb dM_leaf_56 rfl (lv_at hl 0 rfl) ?_
                have h_60 : vpin k 4200 := Decidable.byContradiction (fun h9 => by simp only [sLfL, if_neg c_55, hc_57, if_neg c_58, if_neg h9] at hL38; cases hL38)
                refine va_iald hx hb hK.1 hP 17 0 rfl rfl (vp_in_iff.mpr h_60) dM_leaf_57 ?_
                refine lv_goto (tgt := 67) hx hb dM_leaf_58 (by decide) ?_
                refine lv_istore_n (lv' := [(3, .int ((zs.2.1 22) k.toNatClampNeg)), (0, .ref aM), (1, .int x), (2, .int y)]) hx hb dM_leaf_67 rfl hl (by decide) rfl (fun ls hl => ?_)
                refine lv_goto (tgt := 38) hx hb dM_leaf_68 (by decide) ?_
                simp only [sLfL, if_neg c_55, hc_57, if_neg c_58, if_pos h_60] at hL38
                exact ih38 zs ((zs.2.1 22) k.toNatClampNeg) H locs ls hL38 hP hD hS (lv_sub hl [0, 1, 2, 3] rfl)
        exact loop38 N9 r_50 (-1) _ _ ls hT_54 hP hD hS (lv_sub hl [0, 1, 2, 3] rfl)
      · skip
        refine lv_iconst (v := 0) hx hb dM_leaf_32 (by decide) ?_
        refine lv_goto (tgt := 37) hx hb dM_leaf_33 (by decide) ?_
        refine lv_istore_n (lv' := [(3, .int 0), (0, .ref aM), (1, .int x), (2, .int y)]) hx hb dM_leaf_37 rfl hl (by decide) rfl (fun ls hl => ?_)
        obtain ⟨T_61, hT_62⟩ : ∃ t9, sLfL x y N9 r_50 0 = some t9 := by
          cases hc9 : sLfL x y N9 r_50 0 with
          | some t9 => exact ⟨t9, rfl⟩
          | none => exfalso; simp only [if_neg c_48, if_neg c_49, hc_51, if_neg c_52, hc9] at hok; cases hok
        have loop38 : ∀ (n : Nat) (zs : MSt) (k : Int32) (H : Heap) (locs : List Loc) (ls : Array Slot), sLfL x y n zs k = some T_61 → va_P g.1 vwCl (mX g aM b zs) H → va_D A (mX g aM b zs) → va_S A s.heap H locs → lv_has ls 4 [(3, .int k), (0, .ref aM), (1, .int x), (2, .int y)] → W p l e (headSpec (wm yM_leaf kM_leaf 4 (some .int)) ({ frames := 8, cells := 0, slots := 0, locals := 235 })).room s m ([.ref aM, .int x, .int y] : List Value).toArray below meth c H locs (0) (0) (MQ below (va_Qi (fun (r : Int32) (_u : Unit) => r = r0.2) (rB g A (fun _u => (mX g aM b r0.1))) A) ([.ref aM, .int x, .int y] : List Value).toArray s 0 0 A) (F0 m 38 ls []) := by
          intro n38
          induction n38 with
          | zero => intro zs k H locs ls hL38 hP hD hS hl; cases hL38
          | succ n38 ih38 =>
            intro zs k H locs ls hL38 hP hD hS hl
            refine lv_iload_n hx hb dM_leaf_38 rfl (lv_at hl 0 rfl) ?_
            refine lv_if_lt (tgt := 71) hx hb dM_leaf_39 (by decide) (fun c_63 => ?_) (fun c_63 => ?_)
            · skip
              simp only [sLfL, if_pos c_63] at hL38
              have hex : (zs, k) = T_61 := Option.some.inj hL38
              have e_zs : zs = T_61.1 := by rw [← hex]
              have e_k : k = T_61.2 := by rw [← hex]
              subst e_zs
              subst e_k
              refine lv_iconst (v := -1) hx hb dM_leaf_71 (by decide) ?_
              refine lv_iload_n hx hb dM_leaf_72 rfl (lv_at hl 0 rfl) ?_
              refine lv_isub hx hb dM_leaf_73 ?_
              simp only [if_neg c_48, if_neg c_49, hc_51, if_neg c_52, hT_62] at hok
              have hF := Option.some.inj hok
              subst hF
              exact W.iret hx hb hr (fun t ht9 hW => ⟨⟨_, (), rfl, rfl, by rw [ht9]; exact hP, hD⟩, hS.F ht9⟩) hS.2.2 dM_leaf_74
            · skip
              refine lv_aload_n hx hb dM_leaf_42 rfl (lv_at hl 1 rfl) ?_
              refine lv_iload_n hx hb dM_leaf_43 rfl (lv_at hl 0 rfl) ?_
              refine lv_iload_n hx hb dM_leaf_44 rfl (lv_at hl 2 rfl) ?_
              refine lv_iload_n hx hb dM_leaf_45 rfl (lv_at hl 3 rfl) ?_
              obtain ⟨r_64, hc_65⟩ : ∃ r9, sM_isLeft zs k x y = some r9 := by
                cases hc9 : sM_isLeft zs k x y with
                | some r9 => exact ⟨r9, rfl⟩
                | none => exfalso; simp only [sLfL, if_neg c_63, hc9] at hL38; cases hL38
              refine ro_Vi (v := r_64) (As := [.int k, .int x, .int y]) (rest := []) ⟨hx, hb, hml, hown, ht⟩ (cM_isLeft l g aM b zs k x y r_64 hc_65) (cwV 3 ht (g_V q_765 q_767 q_30 q_39 q_768) rfl rfl rfl hd_M_isLeft ⟨Nat.le_of_ble_eq_true rfl, Nat.le_of_ble_eq_true rfl⟩) hK (hP) (va_recv hK.1 hP (ci := 6) (q0 := 0) rfl rfl) rfl hl.1 rfl (Nat.le_of_ble_eq_true rfl) dM_leaf_46 ⟨Nat.zero_le _, Nat.zero_le _⟩ ?_
              refine lv_if_eq (tgt := 61) hx hb dM_leaf_49 (by decide) (fun c_66 => ?_) (fun c_66 => ?_)
              · skip
                refine lv_aload_n hx hb dM_leaf_61 rfl (lv_at hl 1 rfl) ?_
                refine va_get (D := g.1) (ci := 6) (v := .ref (b 23)) (C := "NodeMakerModel") (T := Fd_M) (N := 37) hx hb ht i_M hown hK.1 hP 0 rfl rfl 23 (by decide) (ht _ q_548) (fun _ h9 => h9) rfl dM_leaf_62 ?_
                refine lv_iload_n hx hb dM_leaf_65 rfl (lv_at hl 0 rfl) ?_
                have h_67 : vpin k 4200 := Decidable.byContradiction (fun h9 => by simp only [sLfL, if_neg c_63, hc_65, if_pos c_66, if_neg h9] at hL38; cases hL38)
                refine va_iald hx hb hK.1 hP 18 0 rfl rfl (vp_in_iff.mpr h_67) dM_leaf_66 ?_
                refine lv_istore_n (lv' := [(3, .int ((zs.2.1 23) k.toNatClampNeg)), (0, .ref aM), (1, .int x), (2, .int y)]) hx hb dM_leaf_67 rfl hl (by decide) rfl (fun ls hl => ?_)
                refine lv_goto (tgt := 38) hx hb dM_leaf_68 (by decide) ?_
                simp only [sLfL, if_neg c_63, hc_65, if_pos c_66, if_pos h_67] at hL38
                exact ih38 zs ((zs.2.1 23) k.toNatClampNeg) H locs ls hL38 hP hD hS (lv_sub hl [0, 1, 2, 3] rfl)
              · skip
                refine lv_aload_n hx hb dM_leaf_52 rfl (lv_at hl 1 rfl) ?_
                refine va_get (D := g.1) (ci := 6) (v := .ref (b 22)) (C := "NodeMakerModel") (T := Fd_M) (N := 37) hx hb ht i_M hown hK.1 hP 0 rfl rfl 22 (by decide) (ht _ q_547) (fun _ h9 => h9) rfl dM_leaf_53 ?_
                refine lv_iload_n hx hb dM_leaf_56 rfl (lv_at hl 0 rfl) ?_
                have h_68 : vpin k 4200 := Decidable.byContradiction (fun h9 => by simp only [sLfL, if_neg c_63, hc_65, if_neg c_66, if_neg h9] at hL38; cases hL38)
                refine va_iald hx hb hK.1 hP 17 0 rfl rfl (vp_in_iff.mpr h_68) dM_leaf_57 ?_
                refine lv_goto (tgt := 67) hx hb dM_leaf_58 (by decide) ?_
                refine lv_istore_n (lv' := [(3, .int ((zs.2.1 22) k.toNatClampNeg)), (0, .ref aM), (1, .int x), (2, .int y)]) hx hb dM_leaf_67 rfl hl (by decide) rfl (fun ls hl => ?_)
                refine lv_goto (tgt := 38) hx hb dM_leaf_68 (by decide) ?_
                simp only [sLfL, if_neg c_63, hc_65, if_neg c_66, if_pos h_68] at hL38
                exact ih38 zs ((zs.2.1 22) k.toNatClampNeg) H locs ls hL38 hP hD hS (lv_sub hl [0, 1, 2, 3] rfl)
        exact loop38 N9 r_50 0 _ _ ls hT_62 hP hD hS (lv_sub hl [0, 1, 2, 3] rfl)
    · skip
      refine lv_iconst (v := -1) hx hb dM_leaf_19 (by decide) ?_
      simp only [if_neg c_48, if_pos c_49] at hok
      have hF := Option.some.inj hok
      subst hF
      exact W.iret hx hb hr (fun t ht9 hW => ⟨⟨_, (), rfl, rfl, by rw [ht9]; exact hP, hD⟩, hS.F ht9⟩) hS.2.2 dM_leaf_20
def sClrL  : Nat → MSt → Int32 → Option (MSt × Int32)
  | 0, _, _ => none
  | n + 1, zs, i => if 64 ≤ i then
      some (zs, i)
    else
      if vpin i 64 then
        sClrL  n (mI 1 i 0 zs) (i + 1)
      else
        none
def sM_clear (mz : MSt) (N9 : Nat) : Option (MSt) :=
  (match sClrL  N9 (mV 0 0 mz) 0 with
  | none => none
  | some T_70 => some (mV 7 0 (mV 6 0 T_70.1)))

set_option maxHeartbeats 4000000 in
set_option maxRecDepth 100000 in
theorem cM_clear (l : Launch) (g : CX) (sz : Nat) (aM : Nat) (b : Nat → Nat) (mz : MSt) (N9 : Nat) (r0 : MSt) (hok : sM_clear mz N9 = some r0) : Met l yM_clear (wm yM_clear kM_clear 2 none) ({ frames := 0, cells := 0, slots := 0, locals := 0 }) (rw g [.ref aM] (mX g aM b mz) sz) (va_Qv (fun (_u : Unit) => True) (rB g (va_A (mX g aM b mz) sz) (fun _u => (mX g aM b r0))) (va_A (mX g aM b mz) sz)) 0 0 (va_A (mX g aM b mz) sz) := by
  refine Met.ofW (cc := kM_clear) (maxL := 2) (ret := none) (by decide) rfl ?_
  intro p e s m args below meth c s₁ B hml hv
  obtain ⟨rfl, hsz, hK, hP, hD0⟩ := hv
  have hx := B.exec
  have hb := B.bytes
  have hr := B.returns
  have ht : ∀ w ∈ wT, w.before _ s = true := fun w h => atoms_spec (ws := wm yM_clear kM_clear 2 none) B.pre w (List.mem_cons_of_mem _ h)
  have hown : s.vm.findClass "NodeMakerModel" = some m.cls := findClass_of_methodNamed B.named
  have hlocks := B.notSynchronized
  subst hsz
  have hD := hD0.self (sz := s.heap.size)
  generalize hAe : va_A (mX g aM b mz) s.heap.size = A at hD ⊢
  have hA : ∀ q : Nat, s.heap.size ≤ q → A q := fun q h => by rw [← hAe]; exact Or.inr h
  have hS : va_S A s.heap s.heap [] := va_S.rf
  have hl := lv_entry ([.ref aM]) (n := 2) (Nat.le_of_ble_eq_true rfl)
  rw [lg_entry_eq]
  generalize (lg_sl ([.ref aM]) ++ List.replicate (2 - (lg_sl ([.ref aM])).length) Slot.unset).toArray = ls at hl ⊢
  have hl : lv_has ls 2 [(0, .ref aM)] := hl
  refine lv_aload_n hx hb dM_clear_0 rfl (lv_at hl 0 rfl) ?_
  refine lv_iconst (v := 0) hx hb dM_clear_1 (by decide) ?_
  refine va_put (D := g.1) (ci := 6) (v := .int 0) (ty := .int) (C := "NodeMakerModel") (T := Fd_M) (N := 37) hx hb ht i_M ty_M ty_M_ok nm_M hown hK.1 hP hD hS 0 rfl rfl 0 (by decide) (ht _ q_525) (fun _ h9 => h9) rfl (by decide +kernel) rfl rfl (Nat.le_of_ble_eq_true rfl) dM_clear_2 (fun H locs hP hD hS => ?_)
  have hP : va_P g.1 vwCl (mX g aM b (mV 0 0 mz)) H := hP
  have hD : va_D A (mX g aM b (mV 0 0 mz)) := hD
  simp only [sM_clear] at hok
  obtain ⟨z_69, ez_69⟩ : ∃ x9, x9 = mV 0 0 mz := ⟨_, rfl⟩
  rw [← ez_69] at hP hD hok
  refine lv_iconst (v := 0) hx hb dM_clear_5 (by decide) ?_
  refine lv_istore_n (lv' := [(1, .int 0), (0, .ref aM)]) hx hb dM_clear_6 rfl hl (by decide) rfl (fun ls hl => ?_)
  obtain ⟨T_70, hT_71⟩ : ∃ t9, sClrL  N9 z_69 0 = some t9 := by
    cases hc9 : sClrL  N9 z_69 0 with
    | some t9 => exact ⟨t9, rfl⟩
    | none => exfalso; simp only [hc9] at hok; cases hok
  have loop7 : ∀ (n : Nat) (zs : MSt) (i : Int32) (H : Heap) (locs : List Loc) (ls : Array Slot), sClrL  n zs i = some T_70 → va_P g.1 vwCl (mX g aM b zs) H → va_D A (mX g aM b zs) → va_S A s.heap H locs → lv_has ls 2 [(1, .int i), (0, .ref aM)] → W p l e (headSpec (wm yM_clear kM_clear 2 none) ({ frames := 0, cells := 0, slots := 0, locals := 0 })).room s m ([.ref aM] : List Value).toArray below meth c H locs (0) (0) (MQ below (va_Qv (fun (_u : Unit) => True) (rB g A (fun _u => (mX g aM b r0))) A) ([.ref aM] : List Value).toArray s 0 0 A) (F0 m 7 ls []) := by
    intro n7
    induction n7 with
    | zero => intro zs i H locs ls hL7 hP hD hS hl; cases hL7
    | succ n7 ih7 =>
      intro zs i H locs ls hL7 hP hD hS hl
      refine lv_iload_n hx hb dM_clear_7 rfl (lv_at hl 0 rfl) ?_
      refine lv_bipush (v := 64) hx hb dM_clear_8 (by decide) ?_
      refine lv_icmp_ge (tgt := 26) hx hb dM_clear_10 (by decide) (fun c_72 => ?_) (fun c_72 => ?_)
      · skip
        simp only [sClrL, if_pos c_72] at hL7
        have hex : (zs, i) = T_70 := Option.some.inj hL7
        have e_zs : zs = T_70.1 := by rw [← hex]
        have e_i : i = T_70.2 := by rw [← hex]
        subst e_zs
        subst e_i
        refine lv_aload_n hx hb dM_clear_26 rfl (lv_at hl 1 rfl) ?_
        refine lv_iconst (v := 0) hx hb dM_clear_27 (by decide) ?_
        refine va_put (D := g.1) (ci := 6) (v := .int 0) (ty := .int) (C := "NodeMakerModel") (T := Fd_M) (N := 37) hx hb ht i_M ty_M ty_M_ok nm_M hown hK.1 hP hD hS 0 rfl rfl 6 (by decide) (ht _ q_531) (fun _ h9 => h9) rfl (by decide +kernel) rfl rfl (Nat.le_of_ble_eq_true rfl) dM_clear_28 (fun H locs hP hD hS => ?_)
        have hP : va_P g.1 vwCl (mX g aM b (mV 6 0 T_70.1)) H := hP
        have hD : va_D A (mX g aM b (mV 6 0 T_70.1)) := hD
        simp only [hT_71] at hok
        obtain ⟨z_73, ez_73⟩ : ∃ x9, x9 = mV 6 0 T_70.1 := ⟨_, rfl⟩
        rw [← ez_73] at hP hD hok
        refine lv_aload_n hx hb dM_clear_31 rfl (lv_at hl 1 rfl) ?_
        refine lv_iconst (v := 0) hx hb dM_clear_32 (by decide) ?_
        refine va_put (D := g.1) (ci := 6) (v := .int 0) (ty := .boolean) (C := "NodeMakerModel") (T := Fd_M) (N := 37) hx hb ht i_M ty_M ty_M_ok nm_M hown hK.1 hP hD hS 0 rfl rfl 7 (by decide) (ht _ q_532) (fun _ h9 => h9) rfl (by decide +kernel) rfl rfl (Nat.le_of_ble_eq_true rfl) dM_clear_33 (fun H locs hP hD hS => ?_)
        have hP : va_P g.1 vwCl (mX g aM b (mV 7 0 z_73)) H := hP
        have hD : va_D A (mX g aM b (mV 7 0 z_73)) := hD
        obtain ⟨z_74, ez_74⟩ : ∃ x9, x9 = mV 7 0 z_73 := ⟨_, rfl⟩
        rw [← ez_74] at hP hD hok
        have hF := Option.some.inj hok
        subst hF
        exact W.vret hx hb hr (fun t ht9 hW => ⟨⟨(), rfl, trivial, by rw [ht9]; exact hP, hD⟩, hS.F ht9⟩) hS.2.2 dM_clear_36
      · skip
        refine lv_aload_n hx hb dM_clear_13 rfl (lv_at hl 1 rfl) ?_
        refine va_get (D := g.1) (ci := 6) (v := .ref (b 1)) (C := "NodeMakerModel") (T := Fd_M) (N := 37) hx hb ht i_M hown hK.1 hP 0 rfl rfl 1 (by decide) (ht _ q_526) (fun _ h9 => h9) rfl dM_clear_14 ?_
        refine lv_iload_n hx hb dM_clear_17 rfl (lv_at hl 0 rfl) ?_
        refine lv_iconst (v := 0) hx hb dM_clear_18 (by decide) ?_
        have h_75 : vpin i 64 := Decidable.byContradiction (fun h9 => by simp only [sClrL, if_neg c_72, if_neg h9] at hL7; cases hL7)
        refine va_zast hx hb hK.1 hP hD hS 1 3 rfl rfl (vp_in_iff.mpr h_75) dM_clear_19 (fun H locs hP hD hS => ?_)
        have hP : va_P g.1 vwCl (mX g aM b (mI 1 i 0 zs)) H := hP
        have hD : va_D A (mX g aM b (mI 1 i 0 zs)) := hD
        simp only [sClrL, if_neg c_72, if_pos h_75] at hL7
        obtain ⟨z_76, ez_76⟩ : ∃ x9, x9 = mI 1 i 0 zs := ⟨_, rfl⟩
        rw [← ez_76] at hP hD hL7
        refine lv_iinc (v := i + 1) (lv' := [(1, .int (i + 1)), (0, .ref aM)]) hx hb dM_clear_20 hl (k := 0) rfl rfl (by decide) rfl (fun ls hl => ?_)
        refine lv_goto (tgt := 7) hx hb dM_clear_23 (by decide) ?_
        exact ih7 z_76 (i + 1) H locs ls hL7 hP hD hS (lv_sub hl [0, 1] rfl)
  exact loop7 N9 z_69 0 _ _ ls hT_71 hP hD hS (lv_sub hl [0, 1] rfl)
def sPutL (nf : Int32) : Nat → MSt → Int32 → Option (MSt × Int32)
  | 0, _, _ => none
  | n + 1, zs, wi => if 64 ≤ wi then
      if vpin nf 64 then
        some ((mV 7 0 (mV 6 (((mI 1 nf 1 zs).1 6) + 1) (mI 1 nf 1 zs))), nf)
      else
        none
    else
      if vpin wi 64 then
        if ((zs.2.1 1) wi.toNatClampNeg) = 0 then
          sPutL nf n zs (wi + 1)
        else
          (match sM_touch zs nf wi with
          | none => none
          | some r_98 => if r_98 = 0 then
              sPutL nf n zs (wi + 1)
            else
              some (zs, (-1)))
      else
        none
def sM_put (mz : MSt) (x0 : Int32) (y0 : Int32) (x1 : Int32) (y1 : Int32) (N9 : Nat) : Option (MSt × Int32) :=
  (match sM_free (mV 0 0 mz) N9 with
  | none => none
  | some r_78 => if (sM_isPlace x0) = 0 then
      some ((mV 0 0 mz), (-1))
    else
      if (sM_isPlace y0) = 0 then
        some ((mV 0 0 mz), (-1))
      else
        if (sM_isPlace x1) = 0 then
          some ((mV 0 0 mz), (-1))
        else
          if (sM_isPlace y1) = 0 then
            some ((mV 0 0 mz), (-1))
          else
            if x0 = x1 then
              if y0 = y1 then
                some ((mV 0 0 mz), (-1))
              else
                if 0 ≤ r_78 then
                  if vpin r_78 64 then
                    sPutL r_78 N9 (mI 5 r_78 y1 (mI 4 r_78 x1 (mI 3 r_78 y0 (mI 2 r_78 x0 (mV 0 0 mz))))) 0
                  else
                    none
                else
                  some ((mV 0 0 mz), (-1))
            else
              if 0 ≤ r_78 then
                if vpin r_78 64 then
                  sPutL r_78 N9 (mI 5 r_78 y1 (mI 4 r_78 x1 (mI 3 r_78 y0 (mI 2 r_78 x0 (mV 0 0 mz))))) 0
                else
                  none
              else
                some ((mV 0 0 mz), (-1)))

set_option maxHeartbeats 4000000 in
set_option maxRecDepth 100000 in
theorem cM_put (l : Launch) (g : CX) (sz : Nat) (aM : Nat) (b : Nat → Nat) (mz : MSt) (x0 : Int32) (y0 : Int32) (x1 : Int32) (y1 : Int32) (N9 : Nat) (r0 : MSt × Int32) (hok : sM_put mz x0 y0 x1 y1 N9 = some r0) : Met l yM_put (wm yM_put kM_put 7 (some .int)) ({ frames := 4, cells := 0, slots := 0, locals := 99 }) (rw g [.ref aM, .int x0, .int y0, .int x1, .int y1] (mX g aM b mz) sz) (va_Qi (fun (r : Int32) (_u : Unit) => r = r0.2) (rB g (va_A (mX g aM b mz) sz) (fun _u => (mX g aM b r0.1))) (va_A (mX g aM b mz) sz)) 0 0 (va_A (mX g aM b mz) sz) := by
  refine Met.ofW (cc := kM_put) (maxL := 7) (ret := (some .int)) (by decide) rfl ?_
  intro p e s m args below meth c s₁ B hml hv
  obtain ⟨rfl, hsz, hK, hP, hD0⟩ := hv
  have hx := B.exec
  have hb := B.bytes
  have hr := B.returns
  have ht : ∀ w ∈ wT, w.before _ s = true := fun w h => atoms_spec (ws := wm yM_put kM_put 7 (some .int)) B.pre w (List.mem_cons_of_mem _ h)
  have hown : s.vm.findClass "NodeMakerModel" = some m.cls := findClass_of_methodNamed B.named
  have hlocks := B.notSynchronized
  subst hsz
  have hD := hD0.self (sz := s.heap.size)
  generalize hAe : va_A (mX g aM b mz) s.heap.size = A at hD ⊢
  have hA : ∀ q : Nat, s.heap.size ≤ q → A q := fun q h => by rw [← hAe]; exact Or.inr h
  have hS : va_S A s.heap s.heap [] := va_S.rf
  have hl := lv_entry ([.ref aM, .int x0, .int y0, .int x1, .int y1]) (n := 7) (Nat.le_of_ble_eq_true rfl)
  rw [lg_entry_eq]
  generalize (lg_sl ([.ref aM, .int x0, .int y0, .int x1, .int y1]) ++ List.replicate (7 - (lg_sl ([.ref aM, .int x0, .int y0, .int x1, .int y1])).length) Slot.unset).toArray = ls at hl ⊢
  have hl : lv_has ls 7 [(0, .ref aM), (1, .int x0), (2, .int y0), (3, .int x1), (4, .int y1)] := hl
  refine lv_aload_n hx hb dM_put_0 rfl (lv_at hl 0 rfl) ?_
  refine lv_iconst (v := 0) hx hb dM_put_1 (by decide) ?_
  refine va_put (D := g.1) (ci := 6) (v := .int 0) (ty := .int) (C := "NodeMakerModel") (T := Fd_M) (N := 37) hx hb ht i_M ty_M ty_M_ok nm_M hown hK.1 hP hD hS 0 rfl rfl 0 (by decide) (ht _ q_525) (fun _ h9 => h9) rfl (by decide +kernel) rfl rfl (Nat.le_of_ble_eq_true rfl) dM_put_2 (fun H locs hP hD hS => ?_)
  have hP : va_P g.1 vwCl (mX g aM b (mV 0 0 mz)) H := hP
  have hD : va_D A (mX g aM b (mV 0 0 mz)) := hD
  simp only [sM_put] at hok
  obtain ⟨z_77, ez_77⟩ : ∃ x9, x9 = mV 0 0 mz := ⟨_, rfl⟩
  rw [← ez_77] at hP hD hok
  refine lv_aload_n hx hb dM_put_5 rfl (lv_at hl 0 rfl) ?_
  obtain ⟨r_78, hc_79⟩ : ∃ r9, sM_free z_77 N9 = some r9 := by
    cases hc9 : sM_free z_77 N9 with
    | some r9 => exact ⟨r9, rfl⟩
    | none => exfalso; simp only [hc9] at hok; cases hok
  refine ro_Vi (v := r_78) (As := []) (rest := []) ⟨hx, hb, hml, hown, ht⟩ (cM_free l g aM b z_77 N9 r_78 hc_79) (cwV 0 ht (g_V q_643 q_645 q_11 q_39 q_646) rfl rfl rfl hd_M_free ⟨Nat.le_of_ble_eq_true rfl, Nat.le_of_ble_eq_true rfl⟩) hK (hP) (va_recv hK.1 hP (ci := 6) (q0 := 0) rfl rfl) rfl hl.1 rfl (Nat.le_of_ble_eq_true rfl) dM_put_6 ⟨Nat.zero_le _, Nat.zero_le _⟩ ?_
  refine lv_istore (lv' := [(5, .int r_78), (0, .ref aM), (1, .int x0), (2, .int y0), (3, .int x1), (4, .int y1)]) hx hb dM_put_9 hl (by decide) rfl (fun ls hl => ?_)
  refine lv_iload_n hx hb dM_put_11 rfl (lv_at hl 2 rfl) ?_
  refine ro_Si (v := sM_isPlace x0) (As := [.int x0]) (rest := []) ⟨hx, hb, hml, hown, ht⟩ (cM_isPlace l g x0) (cwS 1 ht (g_S q_647 q_648 q_39 q_649) rfl rfl rfl hd_M_isPlace ⟨Nat.le_of_ble_eq_true rfl, Nat.le_of_ble_eq_true rfl⟩) hK (trivial) rfl hl.1 rfl (Nat.le_of_ble_eq_true rfl) dM_put_12 ⟨Nat.zero_le _, Nat.zero_le _⟩ ?_
  refine lv_if_eq (tgt := 56) hx hb dM_put_15 (by decide) (fun c_80 => ?_) (fun c_80 => ?_)
  · skip
    refine lv_iconst (v := -1) hx hb dM_put_56 (by decide) ?_
    simp only [hc_79, if_pos c_80] at hok
    have hF := Option.some.inj hok
    subst hF
    exact W.iret hx hb hr (fun t ht9 hW => ⟨⟨_, (), rfl, rfl, by rw [ht9]; exact hP, hD⟩, hS.F ht9⟩) hS.2.2 dM_put_57
  · skip
    refine lv_iload_n hx hb dM_put_18 rfl (lv_at hl 3 rfl) ?_
    refine ro_Si (v := sM_isPlace y0) (As := [.int y0]) (rest := []) ⟨hx, hb, hml, hown, ht⟩ (cM_isPlace l g y0) (cwS 1 ht (g_S q_647 q_648 q_39 q_649) rfl rfl rfl hd_M_isPlace ⟨Nat.le_of_ble_eq_true rfl, Nat.le_of_ble_eq_true rfl⟩) hK (trivial) rfl hl.1 rfl (Nat.le_of_ble_eq_true rfl) dM_put_19 ⟨Nat.zero_le _, Nat.zero_le _⟩ ?_
    refine lv_if_eq (tgt := 56) hx hb dM_put_22 (by decide) (fun c_81 => ?_) (fun c_81 => ?_)
    · skip
      refine lv_iconst (v := -1) hx hb dM_put_56 (by decide) ?_
      simp only [hc_79, if_neg c_80, if_pos c_81] at hok
      have hF := Option.some.inj hok
      subst hF
      exact W.iret hx hb hr (fun t ht9 hW => ⟨⟨_, (), rfl, rfl, by rw [ht9]; exact hP, hD⟩, hS.F ht9⟩) hS.2.2 dM_put_57
    · skip
      refine lv_iload_n hx hb dM_put_25 rfl (lv_at hl 4 rfl) ?_
      refine ro_Si (v := sM_isPlace x1) (As := [.int x1]) (rest := []) ⟨hx, hb, hml, hown, ht⟩ (cM_isPlace l g x1) (cwS 1 ht (g_S q_647 q_648 q_39 q_649) rfl rfl rfl hd_M_isPlace ⟨Nat.le_of_ble_eq_true rfl, Nat.le_of_ble_eq_true rfl⟩) hK (trivial) rfl hl.1 rfl (Nat.le_of_ble_eq_true rfl) dM_put_26 ⟨Nat.zero_le _, Nat.zero_le _⟩ ?_
      refine lv_if_eq (tgt := 56) hx hb dM_put_29 (by decide) (fun c_82 => ?_) (fun c_82 => ?_)
      · skip
        refine lv_iconst (v := -1) hx hb dM_put_56 (by decide) ?_
        simp only [hc_79, if_neg c_80, if_neg c_81, if_pos c_82] at hok
        have hF := Option.some.inj hok
        subst hF
        exact W.iret hx hb hr (fun t ht9 hW => ⟨⟨_, (), rfl, rfl, by rw [ht9]; exact hP, hD⟩, hS.F ht9⟩) hS.2.2 dM_put_57
      · skip
        refine lv_iload hx hb dM_put_32 (lv_at hl 5 rfl) ?_
        refine ro_Si (v := sM_isPlace y1) (As := [.int y1]) (rest := []) ⟨hx, hb, hml, hown, ht⟩ (cM_isPlace l g y1) (cwS 1 ht (g_S q_647 q_648 q_39 q_649) rfl rfl rfl hd_M_isPlace ⟨Nat.le_of_ble_eq_true rfl, Nat.le_of_ble_eq_true rfl⟩) hK (trivial) rfl hl.1 rfl (Nat.le_of_ble_eq_true rfl) dM_put_34 ⟨Nat.zero_le _, Nat.zero_le _⟩ ?_
        refine lv_if_eq (tgt := 56) hx hb dM_put_37 (by decide) (fun c_83 => ?_) (fun c_83 => ?_)
        · skip
          refine lv_iconst (v := -1) hx hb dM_put_56 (by decide) ?_
          simp only [hc_79, if_neg c_80, if_neg c_81, if_neg c_82, if_pos c_83] at hok
          have hF := Option.some.inj hok
          subst hF
          exact W.iret hx hb hr (fun t ht9 hW => ⟨⟨_, (), rfl, rfl, by rw [ht9]; exact hP, hD⟩, hS.F ht9⟩) hS.2.2 dM_put_57
        · skip
          refine lv_iload_n hx hb dM_put_40 rfl (lv_at hl 2 rfl) ?_
          refine lv_iload_n hx hb dM_put_41 rfl (lv_at hl 4 rfl) ?_
          refine lv_icmp_ne (tgt := 51) hx hb dM_put_42 (by decide) (fun c_84 => ?_) (fun c_84 => ?_)
          · skip
            refine lv_iload hx hb dM_put_51 (lv_at hl 0 rfl) ?_
            refine lv_if_ge (tgt := 58) hx hb dM_put_53 (by decide) (fun c_85 => ?_) (fun c_85 => ?_)
            · skip
              refine lv_aload_n hx hb dM_put_58 rfl (lv_at hl 1 rfl) ?_
              refine va_get (D := g.1) (ci := 6) (v := .ref (b 2)) (C := "NodeMakerModel") (T := Fd_M) (N := 37) hx hb ht i_M hown hK.1 hP 0 rfl rfl 2 (by decide) (ht _ q_527) (fun _ h9 => h9) rfl dM_put_59 ?_
              refine lv_iload hx hb dM_put_62 (lv_at hl 0 rfl) ?_
              refine lv_iload_n hx hb dM_put_64 rfl (lv_at hl 2 rfl) ?_
              have h_86 : vpin r_78 64 := Decidable.byContradiction (fun h9 => by simp only [hc_79, if_neg c_80, if_neg c_81, if_neg c_82, if_neg c_83, if_neg c_84, if_pos c_85, if_neg h9] at hok; cases hok)
              refine va_iast hx hb hK.1 hP hD hS 2 0 rfl rfl (vp_in_iff.mpr h_86) dM_put_65 (fun H locs hP hD hS => ?_)
              have hP : va_P g.1 vwCl (mX g aM b (mI 2 r_78 x0 z_77)) H := hP
              have hD : va_D A (mX g aM b (mI 2 r_78 x0 z_77)) := hD
              simp only [hc_79, if_neg c_80, if_neg c_81, if_neg c_82, if_neg c_83, if_neg c_84, if_pos c_85, if_pos h_86] at hok
              obtain ⟨z_87, ez_87⟩ : ∃ x9, x9 = mI 2 r_78 x0 z_77 := ⟨_, rfl⟩
              rw [← ez_87] at hP hD hok
              refine lv_aload_n hx hb dM_put_66 rfl (lv_at hl 1 rfl) ?_
              refine va_get (D := g.1) (ci := 6) (v := .ref (b 3)) (C := "NodeMakerModel") (T := Fd_M) (N := 37) hx hb ht i_M hown hK.1 hP 0 rfl rfl 3 (by decide) (ht _ q_528) (fun _ h9 => h9) rfl dM_put_67 ?_
              refine lv_iload hx hb dM_put_70 (lv_at hl 0 rfl) ?_
              refine lv_iload_n hx hb dM_put_72 rfl (lv_at hl 3 rfl) ?_
              refine va_iast hx hb hK.1 hP hD hS 3 0 rfl rfl (vp_in_iff.mpr h_86) dM_put_73 (fun H locs hP hD hS => ?_)
              have hP : va_P g.1 vwCl (mX g aM b (mI 3 r_78 y0 z_87)) H := hP
              have hD : va_D A (mX g aM b (mI 3 r_78 y0 z_87)) := hD
              obtain ⟨z_88, ez_88⟩ : ∃ x9, x9 = mI 3 r_78 y0 z_87 := ⟨_, rfl⟩
              rw [← ez_88] at hP hD hok
              refine lv_aload_n hx hb dM_put_74 rfl (lv_at hl 1 rfl) ?_
              refine va_get (D := g.1) (ci := 6) (v := .ref (b 4)) (C := "NodeMakerModel") (T := Fd_M) (N := 37) hx hb ht i_M hown hK.1 hP 0 rfl rfl 4 (by decide) (ht _ q_529) (fun _ h9 => h9) rfl dM_put_75 ?_
              refine lv_iload hx hb dM_put_78 (lv_at hl 0 rfl) ?_
              refine lv_iload_n hx hb dM_put_80 rfl (lv_at hl 4 rfl) ?_
              refine va_iast hx hb hK.1 hP hD hS 4 0 rfl rfl (vp_in_iff.mpr h_86) dM_put_81 (fun H locs hP hD hS => ?_)
              have hP : va_P g.1 vwCl (mX g aM b (mI 4 r_78 x1 z_88)) H := hP
              have hD : va_D A (mX g aM b (mI 4 r_78 x1 z_88)) := hD
              obtain ⟨z_89, ez_89⟩ : ∃ x9, x9 = mI 4 r_78 x1 z_88 := ⟨_, rfl⟩
              rw [← ez_89] at hP hD hok
              refine lv_aload_n hx hb dM_put_82 rfl (lv_at hl 1 rfl) ?_
              refine va_get (D := g.1) (ci := 6) (v := .ref (b 5)) (C := "NodeMakerModel") (T := Fd_M) (N := 37) hx hb ht i_M hown hK.1 hP 0 rfl rfl 5 (by decide) (ht _ q_530) (fun _ h9 => h9) rfl dM_put_83 ?_
              refine lv_iload hx hb dM_put_86 (lv_at hl 0 rfl) ?_
              refine lv_iload hx hb dM_put_88 (lv_at hl 5 rfl) ?_
              refine va_iast hx hb hK.1 hP hD hS 5 0 rfl rfl (vp_in_iff.mpr h_86) dM_put_90 (fun H locs hP hD hS => ?_)
              have hP : va_P g.1 vwCl (mX g aM b (mI 5 r_78 y1 z_89)) H := hP
              have hD : va_D A (mX g aM b (mI 5 r_78 y1 z_89)) := hD
              obtain ⟨z_90, ez_90⟩ : ∃ x9, x9 = mI 5 r_78 y1 z_89 := ⟨_, rfl⟩
              rw [← ez_90] at hP hD hok
              refine lv_iconst (v := 0) hx hb dM_put_91 (by decide) ?_
              refine lv_istore (lv' := [(6, .int 0), (5, .int r_78), (0, .ref aM), (1, .int x0), (2, .int y0), (3, .int x1), (4, .int y1)]) hx hb dM_put_92 hl (by decide) rfl (fun ls hl => ?_)
              have loop94 : ∀ (n : Nat) (zs : MSt) (wi : Int32) (H : Heap) (locs : List Loc) (ls : Array Slot), sPutL r_78 n zs wi = some r0 → va_P g.1 vwCl (mX g aM b zs) H → va_D A (mX g aM b zs) → va_S A s.heap H locs → lv_has ls 7 [(6, .int wi), (5, .int r_78), (0, .ref aM)] → W p l e (headSpec (wm yM_put kM_put 7 (some .int)) ({ frames := 4, cells := 0, slots := 0, locals := 99 })).room s m ([.ref aM, .int x0, .int y0, .int x1, .int y1] : List Value).toArray below meth c H locs (0) (0) (MQ below (va_Qi (fun (r : Int32) (_u : Unit) => r = r0.2) (rB g A (fun _u => (mX g aM b r0.1))) A) ([.ref aM, .int x0, .int y0, .int x1, .int y1] : List Value).toArray s 0 0 A) (F0 m 94 ls []) := by
                intro n94
                induction n94 with
                | zero => intro zs wi H locs ls hL94 hP hD hS hl; cases hL94
                | succ n94 ih94 =>
                  intro zs wi H locs ls hL94 hP hD hS hl
                  refine lv_iload hx hb dM_put_94 (lv_at hl 0 rfl) ?_
                  refine lv_bipush (v := 64) hx hb dM_put_96 (by decide) ?_
                  refine lv_icmp_ge (tgt := 130) hx hb dM_put_98 (by decide) (fun c_91 => ?_) (fun c_91 => ?_)
                  · skip
                    refine lv_aload_n hx hb dM_put_130 rfl (lv_at hl 2 rfl) ?_
                    refine va_get (D := g.1) (ci := 6) (v := .ref (b 1)) (C := "NodeMakerModel") (T := Fd_M) (N := 37) hx hb ht i_M hown hK.1 hP 0 rfl rfl 1 (by decide) (ht _ q_526) (fun _ h9 => h9) rfl dM_put_131 ?_
                    refine lv_iload hx hb dM_put_134 (lv_at hl 1 rfl) ?_
                    refine lv_iconst (v := 1) hx hb dM_put_136 (by decide) ?_
                    have h_92 : vpin r_78 64 := Decidable.byContradiction (fun h9 => by simp only [sPutL, if_pos c_91, if_neg h9] at hL94; cases hL94)
                    refine va_zast hx hb hK.1 hP hD hS 1 3 rfl rfl (vp_in_iff.mpr h_92) dM_put_137 (fun H locs hP hD hS => ?_)
                    have hP : va_P g.1 vwCl (mX g aM b (mI 1 r_78 1 zs)) H := hP
                    have hD : va_D A (mX g aM b (mI 1 r_78 1 zs)) := hD
                    simp only [sPutL, if_pos c_91, if_pos h_92] at hL94
                    obtain ⟨z_93, ez_93⟩ : ∃ x9, x9 = mI 1 r_78 1 zs := ⟨_, rfl⟩
                    rw [← ez_93] at hP hD hL94
                    refine lv_aload_n hx hb dM_put_138 rfl (lv_at hl 2 rfl) ?_
                    refine lv_dup hx hb dM_put_139 rfl ?_
                    refine va_get (D := g.1) (ci := 6) (v := .int (z_93.1 6)) (C := "NodeMakerModel") (T := Fd_M) (N := 37) hx hb ht i_M hown hK.1 hP 0 rfl rfl 6 (by decide) (ht _ q_531) (fun _ h9 => h9) rfl dM_put_140 ?_
                    refine lv_iconst (v := 1) hx hb dM_put_143 (by decide) ?_
                    refine lv_iadd hx hb dM_put_144 ?_
                    refine va_put (D := g.1) (ci := 6) (v := .int ((z_93.1 6) + 1)) (ty := .int) (C := "NodeMakerModel") (T := Fd_M) (N := 37) hx hb ht i_M ty_M ty_M_ok nm_M hown hK.1 hP hD hS 0 rfl rfl 6 (by decide) (ht _ q_531) (fun _ h9 => h9) rfl (by decide +kernel) rfl rfl (Nat.le_of_ble_eq_true rfl) dM_put_145 (fun H locs hP hD hS => ?_)
                    have hP : va_P g.1 vwCl (mX g aM b (mV 6 ((z_93.1 6) + 1) z_93)) H := hP
                    have hD : va_D A (mX g aM b (mV 6 ((z_93.1 6) + 1) z_93)) := hD
                    obtain ⟨z_94, ez_94⟩ : ∃ x9, x9 = mV 6 ((z_93.1 6) + 1) z_93 := ⟨_, rfl⟩
                    rw [← ez_94] at hP hD hL94
                    refine lv_aload_n hx hb dM_put_148 rfl (lv_at hl 2 rfl) ?_
                    refine lv_iconst (v := 0) hx hb dM_put_149 (by decide) ?_
                    refine va_put (D := g.1) (ci := 6) (v := .int 0) (ty := .boolean) (C := "NodeMakerModel") (T := Fd_M) (N := 37) hx hb ht i_M ty_M ty_M_ok nm_M hown hK.1 hP hD hS 0 rfl rfl 7 (by decide) (ht _ q_532) (fun _ h9 => h9) rfl (by decide +kernel) rfl rfl (Nat.le_of_ble_eq_true rfl) dM_put_150 (fun H locs hP hD hS => ?_)
                    have hP : va_P g.1 vwCl (mX g aM b (mV 7 0 z_94)) H := hP
                    have hD : va_D A (mX g aM b (mV 7 0 z_94)) := hD
                    obtain ⟨z_95, ez_95⟩ : ∃ x9, x9 = mV 7 0 z_94 := ⟨_, rfl⟩
                    rw [← ez_95] at hP hD hL94
                    refine lv_iload hx hb dM_put_153 (lv_at hl 1 rfl) ?_
                    have hF := Option.some.inj hL94
                    subst hF
                    exact W.iret hx hb hr (fun t ht9 hW => ⟨⟨_, (), rfl, rfl, by rw [ht9]; exact hP, hD⟩, hS.F ht9⟩) hS.2.2 dM_put_155
                  · skip
                    refine lv_aload_n hx hb dM_put_101 rfl (lv_at hl 2 rfl) ?_
                    refine va_get (D := g.1) (ci := 6) (v := .ref (b 1)) (C := "NodeMakerModel") (T := Fd_M) (N := 37) hx hb ht i_M hown hK.1 hP 0 rfl rfl 1 (by decide) (ht _ q_526) (fun _ h9 => h9) rfl dM_put_102 ?_
                    refine lv_iload hx hb dM_put_105 (lv_at hl 0 rfl) ?_
                    have h_96 : vpin wi 64 := Decidable.byContradiction (fun h9 => by simp only [sPutL, if_neg c_91, if_neg h9] at hL94; cases hL94)
                    refine va_zald hx hb hK.1 hP 1 3 rfl rfl (vp_in_iff.mpr h_96) dM_put_107 ?_
                    refine lv_if_eq (tgt := 124) hx hb dM_put_108 (by decide) (fun c_97 => ?_) (fun c_97 => ?_)
                    · skip
                      refine lv_iinc (v := wi + 1) (lv' := [(6, .int (wi + 1)), (5, .int r_78), (0, .ref aM)]) hx hb dM_put_124 hl (k := 0) rfl rfl (by decide) rfl (fun ls hl => ?_)
                      refine lv_goto (tgt := 94) hx hb dM_put_127 (by decide) ?_
                      simp only [sPutL, if_neg c_91, if_pos h_96, if_pos c_97] at hL94
                      exact ih94 zs (wi + 1) _ _ ls hL94 hP hD hS (lv_sub hl [0, 1, 2] rfl)
                    · skip
                      refine lv_aload_n hx hb dM_put_111 rfl (lv_at hl 2 rfl) ?_
                      refine lv_iload hx hb dM_put_112 (lv_at hl 1 rfl) ?_
                      refine lv_iload hx hb dM_put_114 (lv_at hl 0 rfl) ?_
                      obtain ⟨r_98, hc_99⟩ : ∃ r9, sM_touch zs r_78 wi = some r9 := by
                        cases hc9 : sM_touch zs r_78 wi with
                        | some r9 => exact ⟨r9, rfl⟩
                        | none => exfalso; simp only [sPutL, if_neg c_91, if_pos h_96, if_neg c_97, hc9] at hL94; cases hL94
                      refine ro_Vi (v := r_98) (As := [.int r_78, .int wi]) (rest := []) ⟨hx, hb, hml, hown, ht⟩ (cM_touch l g aM b zs r_78 wi r_98 hc_99) (cwV 2 ht (g_V q_650 q_652 q_12 q_39 q_653) rfl rfl rfl hd_M_touch ⟨Nat.le_of_ble_eq_true rfl, Nat.le_of_ble_eq_true rfl⟩) hK (hP) (va_recv hK.1 hP (ci := 6) (q0 := 0) rfl rfl) rfl hl.1 rfl (Nat.le_of_ble_eq_true rfl) dM_put_116 ⟨Nat.zero_le _, Nat.zero_le _⟩ ?_
                      refine lv_if_eq (tgt := 124) hx hb dM_put_119 (by decide) (fun c_100 => ?_) (fun c_100 => ?_)
                      · skip
                        refine lv_iinc (v := wi + 1) (lv' := [(6, .int (wi + 1)), (5, .int r_78), (0, .ref aM)]) hx hb dM_put_124 hl (k := 0) rfl rfl (by decide) rfl (fun ls hl => ?_)
                        refine lv_goto (tgt := 94) hx hb dM_put_127 (by decide) ?_
                        simp only [sPutL, if_neg c_91, if_pos h_96, if_neg c_97, hc_99, if_pos c_100] at hL94
                        exact ih94 zs (wi + 1) _ _ ls hL94 hP hD hS (lv_sub hl [0, 1, 2] rfl)
                      · skip
                        refine lv_iconst (v := -1) hx hb dM_put_122 (by decide) ?_
                        simp only [sPutL, if_neg c_91, if_pos h_96, if_neg c_97, hc_99, if_neg c_100] at hL94
                        have hF := Option.some.inj hL94
                        subst hF
                        exact W.iret hx hb hr (fun t ht9 hW => ⟨⟨_, (), rfl, rfl, by rw [ht9]; exact hP, hD⟩, hS.F ht9⟩) hS.2.2 dM_put_123
              exact loop94 N9 z_90 0 _ _ ls hok hP hD hS (lv_sub hl [0, 1, 2] rfl)
            · skip
              refine lv_iconst (v := -1) hx hb dM_put_56 (by decide) ?_
              simp only [hc_79, if_neg c_80, if_neg c_81, if_neg c_82, if_neg c_83, if_neg c_84, if_neg c_85] at hok
              have hF := Option.some.inj hok
              subst hF
              exact W.iret hx hb hr (fun t ht9 hW => ⟨⟨_, (), rfl, rfl, by rw [ht9]; exact hP, hD⟩, hS.F ht9⟩) hS.2.2 dM_put_57
          · skip
            refine lv_iload_n hx hb dM_put_45 rfl (lv_at hl 3 rfl) ?_
            refine lv_iload hx hb dM_put_46 (lv_at hl 5 rfl) ?_
            refine lv_icmp_eq (tgt := 56) hx hb dM_put_48 (by decide) (fun c_101 => ?_) (fun c_101 => ?_)
            · skip
              refine lv_iconst (v := -1) hx hb dM_put_56 (by decide) ?_
              simp only [hc_79, if_neg c_80, if_neg c_81, if_neg c_82, if_neg c_83, if_pos c_84, if_pos c_101] at hok
              have hF := Option.some.inj hok
              subst hF
              exact W.iret hx hb hr (fun t ht9 hW => ⟨⟨_, (), rfl, rfl, by rw [ht9]; exact hP, hD⟩, hS.F ht9⟩) hS.2.2 dM_put_57
            · skip
              refine lv_iload hx hb dM_put_51 (lv_at hl 0 rfl) ?_
              refine lv_if_ge (tgt := 58) hx hb dM_put_53 (by decide) (fun c_102 => ?_) (fun c_102 => ?_)
              · skip
                refine lv_aload_n hx hb dM_put_58 rfl (lv_at hl 1 rfl) ?_
                refine va_get (D := g.1) (ci := 6) (v := .ref (b 2)) (C := "NodeMakerModel") (T := Fd_M) (N := 37) hx hb ht i_M hown hK.1 hP 0 rfl rfl 2 (by decide) (ht _ q_527) (fun _ h9 => h9) rfl dM_put_59 ?_
                refine lv_iload hx hb dM_put_62 (lv_at hl 0 rfl) ?_
                refine lv_iload_n hx hb dM_put_64 rfl (lv_at hl 2 rfl) ?_
                have h_103 : vpin r_78 64 := Decidable.byContradiction (fun h9 => by simp only [hc_79, if_neg c_80, if_neg c_81, if_neg c_82, if_neg c_83, if_pos c_84, if_neg c_101, if_pos c_102, if_neg h9] at hok; cases hok)
                refine va_iast hx hb hK.1 hP hD hS 2 0 rfl rfl (vp_in_iff.mpr h_103) dM_put_65 (fun H locs hP hD hS => ?_)
                have hP : va_P g.1 vwCl (mX g aM b (mI 2 r_78 x0 z_77)) H := hP
                have hD : va_D A (mX g aM b (mI 2 r_78 x0 z_77)) := hD
                simp only [hc_79, if_neg c_80, if_neg c_81, if_neg c_82, if_neg c_83, if_pos c_84, if_neg c_101, if_pos c_102, if_pos h_103] at hok
                obtain ⟨z_104, ez_104⟩ : ∃ x9, x9 = mI 2 r_78 x0 z_77 := ⟨_, rfl⟩
                rw [← ez_104] at hP hD hok
                refine lv_aload_n hx hb dM_put_66 rfl (lv_at hl 1 rfl) ?_
                refine va_get (D := g.1) (ci := 6) (v := .ref (b 3)) (C := "NodeMakerModel") (T := Fd_M) (N := 37) hx hb ht i_M hown hK.1 hP 0 rfl rfl 3 (by decide) (ht _ q_528) (fun _ h9 => h9) rfl dM_put_67 ?_
                refine lv_iload hx hb dM_put_70 (lv_at hl 0 rfl) ?_
                refine lv_iload_n hx hb dM_put_72 rfl (lv_at hl 3 rfl) ?_
                refine va_iast hx hb hK.1 hP hD hS 3 0 rfl rfl (vp_in_iff.mpr h_103) dM_put_73 (fun H locs hP hD hS => ?_)
                have hP : va_P g.1 vwCl (mX g aM b (mI 3 r_78 y0 z_104)) H := hP
                have hD : va_D A (mX g aM b (mI 3 r_78 y0 z_104)) := hD
                obtain ⟨z_105, ez_105⟩ : ∃ x9, x9 = mI 3 r_78 y0 z_104 := ⟨_, rfl⟩
                rw [← ez_105] at hP hD hok
                refine lv_aload_n hx hb dM_put_74 rfl (lv_at hl 1 rfl) ?_
                refine va_get (D := g.1) (ci := 6) (v := .ref (b 4)) (C := "NodeMakerModel") (T := Fd_M) (N := 37) hx hb ht i_M hown hK.1 hP 0 rfl rfl 4 (by decide) (ht _ q_529) (fun _ h9 => h9) rfl dM_put_75 ?_
                refine lv_iload hx hb dM_put_78 (lv_at hl 0 rfl) ?_
                refine lv_iload_n hx hb dM_put_80 rfl (lv_at hl 4 rfl) ?_
                refine va_iast hx hb hK.1 hP hD hS 4 0 rfl rfl (vp_in_iff.mpr h_103) dM_put_81 (fun H locs hP hD hS => ?_)
                have hP : va_P g.1 vwCl (mX g aM b (mI 4 r_78 x1 z_105)) H := hP
                have hD : va_D A (mX g aM b (mI 4 r_78 x1 z_105)) := hD
                obtain ⟨z_106, ez_106⟩ : ∃ x9, x9 = mI 4 r_78 x1 z_105 := ⟨_, rfl⟩
                rw [← ez_106] at hP hD hok
                refine lv_aload_n hx hb dM_put_82 rfl (lv_at hl 1 rfl) ?_
                refine va_get (D := g.1) (ci := 6) (v := .ref (b 5)) (C := "NodeMakerModel") (T := Fd_M) (N := 37) hx hb ht i_M hown hK.1 hP 0 rfl rfl 5 (by decide) (ht _ q_530) (fun _ h9 => h9) rfl dM_put_83 ?_
                refine lv_iload hx hb dM_put_86 (lv_at hl 0 rfl) ?_
                refine lv_iload hx hb dM_put_88 (lv_at hl 5 rfl) ?_
                refine va_iast hx hb hK.1 hP hD hS 5 0 rfl rfl (vp_in_iff.mpr h_103) dM_put_90 (fun H locs hP hD hS => ?_)
                have hP : va_P g.1 vwCl (mX g aM b (mI 5 r_78 y1 z_106)) H := hP
                have hD : va_D A (mX g aM b (mI 5 r_78 y1 z_106)) := hD
                obtain ⟨z_107, ez_107⟩ : ∃ x9, x9 = mI 5 r_78 y1 z_106 := ⟨_, rfl⟩
                rw [← ez_107] at hP hD hok
                refine lv_iconst (v := 0) hx hb dM_put_91 (by decide) ?_
                refine lv_istore (lv' := [(6, .int 0), (5, .int r_78), (0, .ref aM), (1, .int x0), (2, .int y0), (3, .int x1), (4, .int y1)]) hx hb dM_put_92 hl (by decide) rfl (fun ls hl => ?_)
                have loop94 : ∀ (n : Nat) (zs : MSt) (wi : Int32) (H : Heap) (locs : List Loc) (ls : Array Slot), sPutL r_78 n zs wi = some r0 → va_P g.1 vwCl (mX g aM b zs) H → va_D A (mX g aM b zs) → va_S A s.heap H locs → lv_has ls 7 [(6, .int wi), (5, .int r_78), (0, .ref aM)] → W p l e (headSpec (wm yM_put kM_put 7 (some .int)) ({ frames := 4, cells := 0, slots := 0, locals := 99 })).room s m ([.ref aM, .int x0, .int y0, .int x1, .int y1] : List Value).toArray below meth c H locs (0) (0) (MQ below (va_Qi (fun (r : Int32) (_u : Unit) => r = r0.2) (rB g A (fun _u => (mX g aM b r0.1))) A) ([.ref aM, .int x0, .int y0, .int x1, .int y1] : List Value).toArray s 0 0 A) (F0 m 94 ls []) := by
                  intro n94
                  induction n94 with
                  | zero => intro zs wi H locs ls hL94 hP hD hS hl; cases hL94
                  | succ n94 ih94 =>
                    intro zs wi H locs ls hL94 hP hD hS hl
                    refine lv_iload hx hb dM_put_94 (lv_at hl 0 rfl) ?_
                    refine lv_bipush (v := 64) hx hb dM_put_96 (by decide) ?_
                    refine lv_icmp_ge (tgt := 130) hx hb dM_put_98 (by decide) (fun c_108 => ?_) (fun c_108 => ?_)
                    · skip
                      refine lv_aload_n hx hb dM_put_130 rfl (lv_at hl 2 rfl) ?_
                      refine va_get (D := g.1) (ci := 6) (v := .ref (b 1)) (C := "NodeMakerModel") (T := Fd_M) (N := 37) hx hb ht i_M hown hK.1 hP 0 rfl rfl 1 (by decide) (ht _ q_526) (fun _ h9 => h9) rfl dM_put_131 ?_
                      refine lv_iload hx hb dM_put_134 (lv_at hl 1 rfl) ?_
                      refine lv_iconst (v := 1) hx hb dM_put_136 (by decide) ?_
                      have h_109 : vpin r_78 64 := Decidable.byContradiction (fun h9 => by simp only [sPutL, if_pos c_108, if_neg h9] at hL94; cases hL94)
                      refine va_zast hx hb hK.1 hP hD hS 1 3 rfl rfl (vp_in_iff.mpr h_109) dM_put_137 (fun H locs hP hD hS => ?_)
                      have hP : va_P g.1 vwCl (mX g aM b (mI 1 r_78 1 zs)) H := hP
                      have hD : va_D A (mX g aM b (mI 1 r_78 1 zs)) := hD
                      simp only [sPutL, if_pos c_108, if_pos h_109] at hL94
                      obtain ⟨z_110, ez_110⟩ : ∃ x9, x9 = mI 1 r_78 1 zs := ⟨_, rfl⟩
                      rw [← ez_110] at hP hD hL94
                      refine lv_aload_n hx hb dM_put_138 rfl (lv_at hl 2 rfl) ?_
                      refine lv_dup hx hb dM_put_139 rfl ?_
                      refine va_get (D := g.1) (ci := 6) (v := .int (z_110.1 6)) (C := "NodeMakerModel") (T := Fd_M) (N := 37) hx hb ht i_M hown hK.1 hP 0 rfl rfl 6 (by decide) (ht _ q_531) (fun _ h9 => h9) rfl dM_put_140 ?_
                      refine lv_iconst (v := 1) hx hb dM_put_143 (by decide) ?_
                      refine lv_iadd hx hb dM_put_144 ?_
                      refine va_put (D := g.1) (ci := 6) (v := .int ((z_110.1 6) + 1)) (ty := .int) (C := "NodeMakerModel") (T := Fd_M) (N := 37) hx hb ht i_M ty_M ty_M_ok nm_M hown hK.1 hP hD hS 0 rfl rfl 6 (by decide) (ht _ q_531) (fun _ h9 => h9) rfl (by decide +kernel) rfl rfl (Nat.le_of_ble_eq_true rfl) dM_put_145 (fun H locs hP hD hS => ?_)
                      have hP : va_P g.1 vwCl (mX g aM b (mV 6 ((z_110.1 6) + 1) z_110)) H := hP
                      have hD : va_D A (mX g aM b (mV 6 ((z_110.1 6) + 1) z_110)) := hD
                      obtain ⟨z_111, ez_111⟩ : ∃ x9, x9 = mV 6 ((z_110.1 6) + 1) z_110 := ⟨_, rfl⟩
                      rw [← ez_111] at hP hD hL94
                      refine lv_aload_n hx hb dM_put_148 rfl (lv_at hl 2 rfl) ?_
                      refine lv_iconst (v := 0) hx hb dM_put_149 (by decide) ?_
                      refine va_put (D := g.1) (ci := 6) (v := .int 0) (ty := .boolean) (C := "NodeMakerModel") (T := Fd_M) (N := 37) hx hb ht i_M ty_M ty_M_ok nm_M hown hK.1 hP hD hS 0 rfl rfl 7 (by decide) (ht _ q_532) (fun _ h9 => h9) rfl (by decide +kernel) rfl rfl (Nat.le_of_ble_eq_true rfl) dM_put_150 (fun H locs hP hD hS => ?_)
                      have hP : va_P g.1 vwCl (mX g aM b (mV 7 0 z_111)) H := hP
                      have hD : va_D A (mX g aM b (mV 7 0 z_111)) := hD
                      obtain ⟨z_112, ez_112⟩ : ∃ x9, x9 = mV 7 0 z_111 := ⟨_, rfl⟩
                      rw [← ez_112] at hP hD hL94
                      refine lv_iload hx hb dM_put_153 (lv_at hl 1 rfl) ?_
                      have hF := Option.some.inj hL94
                      subst hF
                      exact W.iret hx hb hr (fun t ht9 hW => ⟨⟨_, (), rfl, rfl, by rw [ht9]; exact hP, hD⟩, hS.F ht9⟩) hS.2.2 dM_put_155
                    · skip
                      refine lv_aload_n hx hb dM_put_101 rfl (lv_at hl 2 rfl) ?_
                      refine va_get (D := g.1) (ci := 6) (v := .ref (b 1)) (C := "NodeMakerModel") (T := Fd_M) (N := 37) hx hb ht i_M hown hK.1 hP 0 rfl rfl 1 (by decide) (ht _ q_526) (fun _ h9 => h9) rfl dM_put_102 ?_
                      refine lv_iload hx hb dM_put_105 (lv_at hl 0 rfl) ?_
                      have h_113 : vpin wi 64 := Decidable.byContradiction (fun h9 => by simp only [sPutL, if_neg c_108, if_neg h9] at hL94; cases hL94)
                      refine va_zald hx hb hK.1 hP 1 3 rfl rfl (vp_in_iff.mpr h_113) dM_put_107 ?_
                      refine lv_if_eq (tgt := 124) hx hb dM_put_108 (by decide) (fun c_114 => ?_) (fun c_114 => ?_)
                      · skip
                        refine lv_iinc (v := wi + 1) (lv' := [(6, .int (wi + 1)), (5, .int r_78), (0, .ref aM)]) hx hb dM_put_124 hl (k := 0) rfl rfl (by decide) rfl (fun ls hl => ?_)
                        refine lv_goto (tgt := 94) hx hb dM_put_127 (by decide) ?_
                        simp only [sPutL, if_neg c_108, if_pos h_113, if_pos c_114] at hL94
                        exact ih94 zs (wi + 1) _ _ ls hL94 hP hD hS (lv_sub hl [0, 1, 2] rfl)
                      · skip
                        refine lv_aload_n hx hb dM_put_111 rfl (lv_at hl 2 rfl) ?_
                        refine lv_iload hx hb dM_put_112 (lv_at hl 1 rfl) ?_
                        refine lv_iload hx hb dM_put_114 (lv_at hl 0 rfl) ?_
                        obtain ⟨r_115, hc_116⟩ : ∃ r9, sM_touch zs r_78 wi = some r9 := by
                          cases hc9 : sM_touch zs r_78 wi with
                          | some r9 => exact ⟨r9, rfl⟩
                          | none => exfalso; simp only [sPutL, if_neg c_108, if_pos h_113, if_neg c_114, hc9] at hL94; cases hL94
                        refine ro_Vi (v := r_115) (As := [.int r_78, .int wi]) (rest := []) ⟨hx, hb, hml, hown, ht⟩ (cM_touch l g aM b zs r_78 wi r_115 hc_116) (cwV 2 ht (g_V q_650 q_652 q_12 q_39 q_653) rfl rfl rfl hd_M_touch ⟨Nat.le_of_ble_eq_true rfl, Nat.le_of_ble_eq_true rfl⟩) hK (hP) (va_recv hK.1 hP (ci := 6) (q0 := 0) rfl rfl) rfl hl.1 rfl (Nat.le_of_ble_eq_true rfl) dM_put_116 ⟨Nat.zero_le _, Nat.zero_le _⟩ ?_
                        refine lv_if_eq (tgt := 124) hx hb dM_put_119 (by decide) (fun c_117 => ?_) (fun c_117 => ?_)
                        · skip
                          refine lv_iinc (v := wi + 1) (lv' := [(6, .int (wi + 1)), (5, .int r_78), (0, .ref aM)]) hx hb dM_put_124 hl (k := 0) rfl rfl (by decide) rfl (fun ls hl => ?_)
                          refine lv_goto (tgt := 94) hx hb dM_put_127 (by decide) ?_
                          simp only [sPutL, if_neg c_108, if_pos h_113, if_neg c_114, hc_116, if_pos c_117] at hL94
                          exact ih94 zs (wi + 1) _ _ ls hL94 hP hD hS (lv_sub hl [0, 1, 2] rfl)
                        · skip
                          refine lv_iconst (v := -1) hx hb dM_put_122 (by decide) ?_
                          simp only [sPutL, if_neg c_108, if_pos h_113, if_neg c_114, hc_116, if_neg c_117] at hL94
                          have hF := Option.some.inj hL94
                          subst hF
                          exact W.iret hx hb hr (fun t ht9 hW => ⟨⟨_, (), rfl, rfl, by rw [ht9]; exact hP, hD⟩, hS.F ht9⟩) hS.2.2 dM_put_123
                exact loop94 N9 z_107 0 _ _ ls hok hP hD hS (lv_sub hl [0, 1, 2] rfl)
              · skip
                refine lv_iconst (v := -1) hx hb dM_put_56 (by decide) ?_
                simp only [hc_79, if_neg c_80, if_neg c_81, if_neg c_82, if_neg c_83, if_pos c_84, if_neg c_101, if_neg c_102] at hok
                have hF := Option.some.inj hok
                subst hF
                exact W.iret hx hb hr (fun t ht9 hW => ⟨⟨_, (), rfl, rfl, by rw [ht9]; exact hP, hD⟩, hS.F ht9⟩) hS.2.2 dM_put_57
