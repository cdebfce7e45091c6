def sBoIn (mz : MSt) (fr nn ln : Int32) : Nat → Int32 → Int32 → Int32 → Option (Int32 × Int32 × Int32)
  | 0, _, _, _ => none
  | n + 1, c9, ap, j => if nn ≤ j then
      some (c9, ap, j)
    else
      if vpin (fr + j) 9000 then
        (match sM_lieOf mz ln ((mz.2.1 15) ((fr + j).toNatClampNeg)) with
        | none => none
        | some r_130 => if r_130 = 2 then
            sBoIn mz fr nn ln n (c9 + 1) (ap + 0) (j + 1)
          else
            sBoIn mz fr nn ln n (c9 + 0) (ap + r_130) (j + 1))
      else
        none
def sBoOut (mz : MSt) (fr nn : Int32) (N2 : Nat) : Nat → Int32 → Int32 → Int32 → Option (Int32 × Int32 × Int32)
  | 0, _, _, _ => none
  | n + 1, be, le, i => if nn ≤ i then
      some (be, le, i)
    else
      if 16 ≤ i then
        some (be, le, i)
      else
        if vpin (fr + i) 9000 then
          if vpin ((mz.2.1 15) ((fr + i).toNatClampNeg)) 8300 then
            (match sBoIn mz fr nn ((mz.2.1 8) (((mz.2.1 15) ((fr + i).toNatClampNeg)).toNatClampNeg)) N2 0 0 0 with
            | none => none
            | some T_123 => if 0 ≤ T_123.2.1 then
                if le ≤ ((4 * T_123.1) + T_123.2.1) then
                  sBoOut mz fr nn N2 n be le (i + 1)
                else
                  sBoOut mz fr nn N2 n ((mz.2.1 8) (((mz.2.1 15) ((fr + i).toNatClampNeg)).toNatClampNeg)) ((4 * T_123.1) + T_123.2.1) (i + 1)
              else
                if le ≤ ((4 * T_123.1) + (-T_123.2.1)) then
                  sBoOut mz fr nn N2 n be le (i + 1)
                else
                  sBoOut mz fr nn N2 n ((mz.2.1 8) (((mz.2.1 15) ((fr + i).toNatClampNeg)).toNatClampNeg)) ((4 * T_123.1) + (-T_123.2.1)) (i + 1))
          else
            none
        else
          none
def sM_bestOf (mz : MSt) (fr : Int32) (nn : Int32) (N9 : Nat) (N2 : Nat) : Option Int32 :=
  (match sBoOut mz fr nn N2 N9 0 1073741824 0 with
  | none => none
  | some T_117 => some T_117.1)
set_option maxHeartbeats 4000000 in
set_option maxRecDepth 100000 in
theorem cM_bestOf (l : Launch) (g : CX) (aM : Nat) (b : Nat → Nat) (mz : MSt) (fr : Int32) (nn : Int32) (N9 : Nat) (N2 : Nat) (r0 : Int32) (hok : sM_bestOf mz fr nn N9 N2 = some r0) : Met l yM_bestOf (wm yM_bestOf kM_bestOf 11 (some .int)) ({ frames := 4, cells := 0, slots := 0, locals := 129 }) (ro g [.ref aM, .int fr, .int nn] (va_P g.1 vwCl (mX g aM b mz))) (vp_Si (fun r => r = r0)) 0 0 (fun _ => False) := by
  refine Met.ofW (cc := kM_bestOf) (maxL := 11) (ret := (some .int)) (by decide) rfl ?_
  intro p e s m args below meth c s₁ B hml hv
  obtain ⟨rfl, hK, hP⟩ := hv
  have hx := B.exec
  have hb := B.bytes
  have hr := B.returns
  have ht : ∀ w ∈ wT, w.before _ s = true := fun w h => atoms_spec (ws := wm yM_bestOf kM_bestOf 11 (some .int)) B.pre w (List.mem_cons_of_mem _ h)
  have hown : s.vm.findClass "NodeMakerModel" = some m.cls := findClass_of_methodNamed B.named
  have hlocks := B.notSynchronized
  have hl := lv_entry ([.ref aM, .int fr, .int nn]) (n := 11) (Nat.le_of_ble_eq_true rfl)
  rw [lg_entry_eq]
  generalize (lg_sl ([.ref aM, .int fr, .int nn]) ++ List.replicate (11 - (lg_sl ([.ref aM, .int fr, .int nn])).length) Slot.unset).toArray = ls at hl ⊢
  have hl : lv_has ls 11 [(0, .ref aM), (1, .int fr), (2, .int nn)] := hl
  refine lv_iconst (v := 0) hx hb dM_bestOf_0 (by decide) ?_
  refine lv_istore_n (lv' := [(3, .int 0), (0, .ref aM), (1, .int fr), (2, .int nn)]) hx hb dM_bestOf_1 rfl hl (by decide) rfl (fun ls hl => ?_)
  refine lv_ldc (v := 1073741824) hx hb hown (ht _ q_716) dM_bestOf_2 ?_
  refine lv_istore (lv' := [(4, .int 1073741824), (3, .int 0), (0, .ref aM), (1, .int fr), (2, .int nn)]) hx hb dM_bestOf_4 hl (by decide) rfl (fun ls hl => ?_)
  refine lv_iconst (v := 0) hx hb dM_bestOf_6 (by decide) ?_
  refine lv_istore (lv' := [(5, .int 0), (4, .int 1073741824), (3, .int 0), (0, .ref aM), (1, .int fr), (2, .int nn)]) hx hb dM_bestOf_7 hl (by decide) rfl (fun ls hl => ?_)
  obtain ⟨T_117, hT_118⟩ : ∃ t9, sBoOut mz fr nn N2 N9 0 1073741824 0 = some t9 := by
    cases hc9 : sBoOut mz fr nn N2 N9 0 1073741824 0 with
    | some t9 => exact ⟨t9, rfl⟩
    | none => exfalso; simp only [sM_bestOf, hc9] at hok; cases hok
  have loop9 : ∀ (n : Nat) (be : Int32) (le : Int32) (i : Int32) (ls : Array Slot), sBoOut mz fr nn N2 n be le i = some T_117 → lv_has ls 11 [(5, .int i), (4, .int le), (3, .int be), (0, .ref aM), (1, .int fr), (2, .int nn)] → W p l e (headSpec (wm yM_bestOf kM_bestOf 11 (some .int)) ({ frames := 4, cells := 0, slots := 0, locals := 129 })).room s m ([.ref aM, .int fr, .int nn] : List Value).toArray below meth c s.heap [] (0) (0) (MQ below (vp_Si (fun r => r = r0)) ([.ref aM, .int fr, .int nn] : List Value).toArray s 0 0 (fun _ => False)) (F0 m 9 ls []) := by
    intro n9
    induction n9 with
    | zero => intro be le i ls hL9 hl; cases hL9
    | succ n9 ih9 =>
      intro be le i ls hL9 hl
      refine lv_iload hx hb dM_bestOf_9 (lv_at hl 0 rfl) ?_
      refine lv_iload_n hx hb dM_bestOf_11 rfl (lv_at hl 5 rfl) ?_
      refine lv_icmp_ge (tgt := 149) hx hb dM_bestOf_12 (by decide) (fun c_119 => ?_) (fun c_119 => ?_)
      · skip
        simp only [sBoOut, if_pos c_119] at hL9
        have hex : (be, le, i) = T_117 := Option.some.inj hL9
        have e_be : be = T_117.1 := by rw [← hex]
        have e_le : le = T_117.2.1 := by rw [← hex]
        have e_i : i = T_117.2.2 := by rw [← hex]
        subst e_be
        subst e_le
        subst e_i
        refine lv_iload_n hx hb dM_bestOf_149 rfl (lv_at hl 2 rfl) ?_
        simp only [sM_bestOf, hT_118] at hok
        exact W.iret hx hb hr (fun t ht9 hW => ⟨_, rfl, Option.some.inj hok, ht9⟩) (fun q h => by cases h) dM_bestOf_150
      · skip
        refine lv_iload hx hb dM_bestOf_15 (lv_at hl 0 rfl) ?_
        refine lv_bipush (v := 16) hx hb dM_bestOf_17 (by decide) ?_
        refine lv_icmp_ge (tgt := 149) hx hb dM_bestOf_19 (by decide) (fun c_120 => ?_) (fun c_120 => ?_)
        · skip
          simp only [sBoOut, if_neg c_119, if_pos c_120] at hL9
          have hex : (be, le, i) = T_117 := Option.some.inj hL9
          have e_be : be = T_117.1 := by rw [← hex]
          have e_le : le = T_117.2.1 := by rw [← hex]
          have e_i : i = T_117.2.2 := by rw [← hex]
          subst e_be
          subst e_le
          subst e_i
          refine lv_iload_n hx hb dM_bestOf_149 rfl (lv_at hl 2 rfl) ?_
          simp only [sM_bestOf, hT_118] at hok
          exact W.iret hx hb hr (fun t ht9 hW => ⟨_, rfl, Option.some.inj hok, ht9⟩) (fun q h => by cases h) dM_bestOf_150
        · skip
          refine lv_aload_n hx hb dM_bestOf_22 rfl (lv_at hl 3 rfl) ?_
          refine va_get (D := g.1) (ci := 6) (v := .ref (b 8)) (C := "NodeMakerModel") (T := Fd_M) (N := 37) hx hb ht i_M hown hK.1 hP 0 rfl rfl 8 (by decide) (ht _ q_533) (fun _ h9 => h9) rfl dM_bestOf_23 ?_
          refine lv_aload_n hx hb dM_bestOf_26 rfl (lv_at hl 3 rfl) ?_
          refine va_get (D := g.1) (ci := 6) (v := .ref (b 15)) (C := "NodeMakerModel") (T := Fd_M) (N := 37) hx hb ht i_M hown hK.1 hP 0 rfl rfl 15 (by decide) (ht _ q_540) (fun _ h9 => h9) rfl dM_bestOf_27 ?_
          refine lv_iload_n hx hb dM_bestOf_30 rfl (lv_at hl 4 rfl) ?_
          refine lv_iload hx hb dM_bestOf_31 (lv_at hl 0 rfl) ?_
          refine lv_iadd hx hb dM_bestOf_33 ?_
          have h_121 : vpin (fr + i) 9000 := Decidable.byContradiction (fun h9 => by simp only [sBoOut, if_neg c_119, if_neg c_120, if_neg h9] at hL9; cases hL9)
          refine va_iald hx hb hK.1 hP 11 0 rfl rfl (vp_in_iff.mpr h_121) dM_bestOf_34 ?_
          have h_122 : vpin ((mz.2.1 15) ((fr + i).toNatClampNeg)) 8300 := Decidable.byContradiction (fun h9 => by simp only [sBoOut, if_neg c_119, if_neg c_120, if_pos h_121, if_neg h9] at hL9; cases hL9)
          refine va_iald hx hb hK.1 hP 6 0 rfl rfl (vp_in_iff.mpr h_122) dM_bestOf_35 ?_
          refine lv_istore (lv' := [(6, .int ((mz.2.1 8) (((mz.2.1 15) ((fr + i).toNatClampNeg)).toNatClampNeg))), (5, .int i), (4, .int le), (3, .int be), (0, .ref aM), (1, .int fr), (2, .int nn)]) hx hb dM_bestOf_36 hl (by decide) rfl (fun ls hl => ?_)
          refine lv_iconst (v := 0) hx hb dM_bestOf_38 (by decide) ?_
          refine lv_istore (lv' := [(7, .int 0), (6, .int ((mz.2.1 8) (((mz.2.1 15) ((fr + i).toNatClampNeg)).toNatClampNeg))), (5, .int i), (4, .int le), (3, .int be), (0, .ref aM), (1, .int fr), (2, .int nn)]) hx hb dM_bestOf_39 hl (by decide) rfl (fun ls hl => ?_)
          refine lv_iconst (v := 0) hx hb dM_bestOf_41 (by decide) ?_
          refine lv_istore (lv' := [(8, .int 0), (7, .int 0), (6, .int ((mz.2.1 8) (((mz.2.1 15) ((fr + i).toNatClampNeg)).toNatClampNeg))), (5, .int i), (4, .int le), (3, .int be), (0, .ref aM), (1, .int fr), (2, .int nn)]) hx hb dM_bestOf_42 hl (by decide) rfl (fun ls hl => ?_)
          refine lv_iconst (v := 0) hx hb dM_bestOf_44 (by decide) ?_
          refine lv_istore (lv' := [(9, .int 0), (8, .int 0), (7, .int 0), (6, .int ((mz.2.1 8) (((mz.2.1 15) ((fr + i).toNatClampNeg)).toNatClampNeg))), (5, .int i), (4, .int le), (3, .int be), (0, .ref aM), (1, .int fr), (2, .int nn)]) hx hb dM_bestOf_45 hl (by decide) rfl (fun ls hl => ?_)
          obtain ⟨T_123, hT_124⟩ : ∃ t9, sBoIn mz fr nn ((mz.2.1 8) (((mz.2.1 15) ((fr + i).toNatClampNeg)).toNatClampNeg)) N2 0 0 0 = some t9 := by
            cases hc9 : sBoIn mz fr nn ((mz.2.1 8) (((mz.2.1 15) ((fr + i).toNatClampNeg)).toNatClampNeg)) N2 0 0 0 with
            | some t9 => exact ⟨t9, rfl⟩
            | none => exfalso; simp only [sBoOut, if_neg c_119, if_neg c_120, if_pos h_121, if_pos h_122, hc9] at hL9; cases hL9
          have loop47 : ∀ (n : Nat) (c9 : Int32) (ap : Int32) (j : Int32) (ls : Array Slot), sBoIn mz fr nn ((mz.2.1 8) (((mz.2.1 15) ((fr + i).toNatClampNeg)).toNatClampNeg)) n c9 ap j = some T_123 → lv_has ls 11 [(9, .int j), (8, .int ap), (7, .int c9), (6, .int ((mz.2.1 8) (((mz.2.1 15) ((fr + i).toNatClampNeg)).toNatClampNeg))), (5, .int i), (4, .int le), (3, .int be), (0, .ref aM), (1, .int fr), (2, .int nn)] → W p l e (headSpec (wm yM_bestOf kM_bestOf 11 (some .int)) ({ frames := 4, cells := 0, slots := 0, locals := 129 })).room s m ([.ref aM, .int fr, .int nn] : List Value).toArray below meth c s.heap [] (0) (0) (MQ below (vp_Si (fun r => r = r0)) ([.ref aM, .int fr, .int nn] : List Value).toArray s 0 0 (fun _ => False)) (F0 m 47 ls []) := by
            intro n47
            induction n47 with
            | zero => intro c9 ap j ls hL47 hl; cases hL47
            | succ n47 ih47 =>
              intro c9 ap j ls hL47 hl
              refine lv_iload hx hb dM_bestOf_47 (lv_at hl 0 rfl) ?_
              refine lv_iload_n hx hb dM_bestOf_49 rfl (lv_at hl 9 rfl) ?_
              refine lv_icmp_ge (tgt := 109) hx hb dM_bestOf_50 (by decide) (fun c_125 => ?_) (fun c_125 => ?_)
              · skip
                simp only [sBoIn, if_pos c_125] at hL47
                have hex : (c9, ap, j) = T_123 := Option.some.inj hL47
                have e_c9 : c9 = T_123.1 := by rw [← hex]
                have e_ap : ap = T_123.2.1 := by rw [← hex]
                have e_j : j = T_123.2.2 := by rw [← hex]
                subst e_c9
                subst e_ap
                subst e_j
                refine lv_iconst (v := 4) hx hb dM_bestOf_109 (by decide) ?_
                refine lv_iload hx hb dM_bestOf_110 (lv_at hl 2 rfl) ?_
                refine lv_imul hx hb dM_bestOf_112 ?_
                refine lv_iload hx hb dM_bestOf_113 (lv_at hl 1 rfl) ?_
                refine lv_if_ge (tgt := 124) hx hb dM_bestOf_115 (by decide) (fun c_126 => ?_) (fun c_126 => ?_)
                · skip
                  refine lv_iload hx hb dM_bestOf_124 (lv_at hl 1 rfl) ?_
                  refine lv_iadd hx hb dM_bestOf_126 ?_
                  refine lv_istore (lv' := [(9, .int ((4 * T_123.1) + T_123.2.1)), (8, .int T_123.2.1), (7, .int T_123.1), (6, .int ((mz.2.1 8) (((mz.2.1 15) ((fr + i).toNatClampNeg)).toNatClampNeg))), (5, .int i), (4, .int le), (3, .int be), (0, .ref aM), (1, .int fr), (2, .int nn)]) hx hb dM_bestOf_127 hl (by decide) rfl (fun ls hl => ?_)
                  refine lv_iload hx hb dM_bestOf_129 (lv_at hl 0 rfl) ?_
                  refine lv_iload hx hb dM_bestOf_131 (lv_at hl 5 rfl) ?_
                  refine lv_icmp_ge (tgt := 143) hx hb dM_bestOf_133 (by decide) (fun c_127 => ?_) (fun c_127 => ?_)
                  · skip
                    refine lv_iinc (v := i + 1) (lv' := [(5, .int (i + 1)), (9, .int ((4 * T_123.1) + T_123.2.1)), (8, .int T_123.2.1), (7, .int T_123.1), (6, .int ((mz.2.1 8) (((mz.2.1 15) ((fr + i).toNatClampNeg)).toNatClampNeg))), (4, .int le), (3, .int be), (0, .ref aM), (1, .int fr), (2, .int nn)]) hx hb dM_bestOf_143 hl (k := 4) rfl rfl (by decide) rfl (fun ls hl => ?_)
                    refine lv_goto (tgt := 9) hx hb dM_bestOf_146 (by decide) ?_
                    simp only [sBoOut, if_neg c_119, if_neg c_120, if_pos h_121, if_pos h_122, hT_124, if_pos c_126, if_pos c_127] at hL9
                    exact ih9 be le (i + 1) ls hL9 (lv_sub hl [0, 5, 6, 7, 8, 9] rfl)
                  · skip
                    refine lv_iload hx hb dM_bestOf_136 (lv_at hl 0 rfl) ?_
                    refine lv_istore (lv' := [(4, .int ((4 * T_123.1) + T_123.2.1)), (9, .int ((4 * T_123.1) + T_123.2.1)), (8, .int T_123.2.1), (7, .int T_123.1), (6, .int ((mz.2.1 8) (((mz.2.1 15) ((fr + i).toNatClampNeg)).toNatClampNeg))), (5, .int i), (3, .int be), (0, .ref aM), (1, .int fr), (2, .int nn)]) hx hb dM_bestOf_138 hl (by decide) rfl (fun ls hl => ?_)
                    refine lv_iload hx hb dM_bestOf_140 (lv_at hl 4 rfl) ?_
                    refine lv_istore_n (lv' := [(3, .int ((mz.2.1 8) (((mz.2.1 15) ((fr + i).toNatClampNeg)).toNatClampNeg))), (4, .int ((4 * T_123.1) + T_123.2.1)), (9, .int ((4 * T_123.1) + T_123.2.1)), (8, .int T_123.2.1), (7, .int T_123.1), (6, .int ((mz.2.1 8) (((mz.2.1 15) ((fr + i).toNatClampNeg)).toNatClampNeg))), (5, .int i), (0, .ref aM), (1, .int fr), (2, .int nn)]) hx hb dM_bestOf_142 rfl hl (by decide) rfl (fun ls hl => ?_)
                    refine lv_iinc (v := i + 1) (lv' := [(5, .int (i + 1)), (3, .int ((mz.2.1 8) (((mz.2.1 15) ((fr + i).toNatClampNeg)).toNatClampNeg))), (4, .int ((4 * T_123.1) + T_123.2.1)), (9, .int ((4 * T_123.1) + T_123.2.1)), (8, .int T_123.2.1), (7, .int T_123.1), (6, .int ((mz.2.1 8) (((mz.2.1 15) ((fr + i).toNatClampNeg)).toNatClampNeg))), (0, .ref aM), (1, .int fr), (2, .int nn)]) hx hb dM_bestOf_143 hl (k := 6) rfl rfl (by decide) rfl (fun ls hl => ?_)
                    refine lv_goto (tgt := 9) hx hb dM_bestOf_146 (by decide) ?_
                    simp only [sBoOut, if_neg c_119, if_neg c_120, if_pos h_121, if_pos h_122, hT_124, if_pos c_126, if_neg c_127] at hL9
                    exact ih9 ((mz.2.1 8) (((mz.2.1 15) ((fr + i).toNatClampNeg)).toNatClampNeg)) ((4 * T_123.1) + T_123.2.1) (i + 1) ls hL9 (lv_sub hl [0, 2, 1, 7, 8, 9] rfl)
                · skip
                  refine lv_iload hx hb dM_bestOf_118 (lv_at hl 1 rfl) ?_
                  refine lv_ineg hx hb dM_bestOf_120 ?_
                  refine lv_goto (tgt := 126) hx hb dM_bestOf_121 (by decide) ?_
                  refine lv_iadd hx hb dM_bestOf_126 ?_
                  refine lv_istore (lv' := [(9, .int ((4 * T_123.1) + (-T_123.2.1))), (8, .int T_123.2.1), (7, .int T_123.1), (6, .int ((mz.2.1 8) (((mz.2.1 15) ((fr + i).toNatClampNeg)).toNatClampNeg))), (5, .int i), (4, .int le), (3, .int be), (0, .ref aM), (1, .int fr), (2, .int nn)]) hx hb dM_bestOf_127 hl (by decide) rfl (fun ls hl => ?_)
                  refine lv_iload hx hb dM_bestOf_129 (lv_at hl 0 rfl) ?_
                  refine lv_iload hx hb dM_bestOf_131 (lv_at hl 5 rfl) ?_
                  refine lv_icmp_ge (tgt := 143) hx hb dM_bestOf_133 (by decide) (fun c_128 => ?_) (fun c_128 => ?_)
                  · skip
                    refine lv_iinc (v := i + 1) (lv' := [(5, .int (i + 1)), (9, .int ((4 * T_123.1) + (-T_123.2.1))), (8, .int T_123.2.1), (7, .int T_123.1), (6, .int ((mz.2.1 8) (((mz.2.1 15) ((fr + i).toNatClampNeg)).toNatClampNeg))), (4, .int le), (3, .int be), (0, .ref aM), (1, .int fr), (2, .int nn)]) hx hb dM_bestOf_143 hl (k := 4) rfl rfl (by decide) rfl (fun ls hl => ?_)
                    refine lv_goto (tgt := 9) hx hb dM_bestOf_146 (by decide) ?_
                    simp only [sBoOut, if_neg c_119, if_neg c_120, if_pos h_121, if_pos h_122, hT_124, if_neg c_126, if_pos c_128] at hL9
                    exact ih9 be le (i + 1) ls hL9 (lv_sub hl [0, 5, 6, 7, 8, 9] rfl)
                  · skip
                    refine lv_iload hx hb dM_bestOf_136 (lv_at hl 0 rfl) ?_
                    refine lv_istore (lv' := [(4, .int ((4 * T_123.1) + (-T_123.2.1))), (9, .int ((4 * T_123.1) + (-T_123.2.1))), (8, .int T_123.2.1), (7, .int T_123.1), (6, .int ((mz.2.1 8) (((mz.2.1 15) ((fr + i).toNatClampNeg)).toNatClampNeg))), (5, .int i), (3, .int be), (0, .ref aM), (1, .int fr), (2, .int nn)]) hx hb dM_bestOf_138 hl (by decide) rfl (fun ls hl => ?_)
                    refine lv_iload hx hb dM_bestOf_140 (lv_at hl 4 rfl) ?_
                    refine lv_istore_n (lv' := [(3, .int ((mz.2.1 8) (((mz.2.1 15) ((fr + i).toNatClampNeg)).toNatClampNeg))), (4, .int ((4 * T_123.1) + (-T_123.2.1))), (9, .int ((4 * T_123.1) + (-T_123.2.1))), (8, .int T_123.2.1), (7, .int T_123.1), (6, .int ((mz.2.1 8) (((mz.2.1 15) ((fr + i).toNatClampNeg)).toNatClampNeg))), (5, .int i), (0, .ref aM), (1, .int fr), (2, .int nn)]) hx hb dM_bestOf_142 rfl hl (by decide) rfl (fun ls hl => ?_)
                    refine lv_iinc (v := i + 1) (lv' := [(5, .int (i + 1)), (3, .int ((mz.2.1 8) (((mz.2.1 15) ((fr + i).toNatClampNeg)).toNatClampNeg))), (4, .int ((4 * T_123.1) + (-T_123.2.1))), (9, .int ((4 * T_123.1) + (-T_123.2.1))), (8, .int T_123.2.1), (7, .int T_123.1), (6, .int ((mz.2.1 8) (((mz.2.1 15) ((fr + i).toNatClampNeg)).toNatClampNeg))), (0, .ref aM), (1, .int fr), (2, .int nn)]) hx hb dM_bestOf_143 hl (k := 6) rfl rfl (by decide) rfl (fun ls hl => ?_)
                    refine lv_goto (tgt := 9) hx hb dM_bestOf_146 (by decide) ?_
                    simp only [sBoOut, if_neg c_119, if_neg c_120, if_pos h_121, if_pos h_122, hT_124, if_neg c_126, if_neg c_128] at hL9
                    exact ih9 ((mz.2.1 8) (((mz.2.1 15) ((fr + i).toNatClampNeg)).toNatClampNeg)) ((4 * T_123.1) + (-T_123.2.1)) (i + 1) ls hL9 (lv_sub hl [0, 2, 1, 7, 8, 9] rfl)
              · skip
                refine lv_aload_n hx hb dM_bestOf_53 rfl (lv_at hl 7 rfl) ?_
                refine lv_iload hx hb dM_bestOf_54 (lv_at hl 3 rfl) ?_
                refine lv_aload_n hx hb dM_bestOf_56 rfl (lv_at hl 7 rfl) ?_
                refine va_get (D := g.1) (ci := 6) (v := .ref (b 15)) (C := "NodeMakerModel") (T := Fd_M) (N := 37) hx hb ht i_M hown hK.1 hP 0 rfl rfl 15 (by decide) (ht _ q_540) (fun _ h9 => h9) rfl dM_bestOf_57 ?_
                refine lv_iload_n hx hb dM_bestOf_60 rfl (lv_at hl 8 rfl) ?_
                refine lv_iload hx hb dM_bestOf_61 (lv_at hl 0 rfl) ?_
                refine lv_iadd hx hb dM_bestOf_63 ?_
                have h_129 : vpin (fr + j) 9000 := Decidable.byContradiction (fun h9 => by simp only [sBoIn, if_neg c_125, if_neg h9] at hL47; cases hL47)
                refine va_iald hx hb hK.1 hP 11 0 rfl rfl (vp_in_iff.mpr h_129) dM_bestOf_64 ?_
                obtain ⟨r_130, hc_131⟩ : ∃ r9, sM_lieOf mz ((mz.2.1 8) (((mz.2.1 15) ((fr + i).toNatClampNeg)).toNatClampNeg)) ((mz.2.1 15) ((fr + j).toNatClampNeg)) = some r9 := by
                  cases hc9 : sM_lieOf mz ((mz.2.1 8) (((mz.2.1 15) ((fr + i).toNatClampNeg)).toNatClampNeg)) ((mz.2.1 15) ((fr + j).toNatClampNeg)) with
                  | some r9 => exact ⟨r9, rfl⟩
                  | none => exfalso; simp only [sBoIn, if_neg c_125, if_pos h_129, hc9] at hL47; cases hL47
                refine ro_Vi (v := r_130) (As := [.int ((mz.2.1 8) (((mz.2.1 15) ((fr + i).toNatClampNeg)).toNatClampNeg)), .int ((mz.2.1 15) ((fr + j).toNatClampNeg))]) (rest := []) ⟨hx, hb, hml, hown, ht⟩ (cM_lieOf l g aM b mz ((mz.2.1 8) (((mz.2.1 15) ((fr + i).toNatClampNeg)).toNatClampNeg)) ((mz.2.1 15) ((fr + j).toNatClampNeg)) r_130 hc_131) (cwV 2 ht (g_V q_717 q_719 q_24 q_39 q_720) rfl rfl rfl hd_M_lieOf ⟨Nat.le_of_ble_eq_true rfl, Nat.le_of_ble_eq_true rfl⟩) hK (hP) (va_recv hK.1 hP (ci := 6) (q0 := 0) rfl rfl) rfl hl.1 rfl (Nat.le_of_ble_eq_true rfl) dM_bestOf_65 ⟨by show 0 ≤ 0; omega, by show 0 ≤ 0; omega⟩ ?_
                refine lv_istore (lv' := [(10, .int r_130), (9, .int j), (8, .int ap), (7, .int c9), (6, .int ((mz.2.1 8) (((mz.2.1 15) ((fr + i).toNatClampNeg)).toNatClampNeg))), (5, .int i), (4, .int le), (3, .int be), (0, .ref aM), (1, .int fr), (2, .int nn)]) hx hb dM_bestOf_68 hl (by decide) rfl (fun ls hl => ?_)
                refine lv_iload hx hb dM_bestOf_70 (lv_at hl 3 rfl) ?_
                refine lv_iload hx hb dM_bestOf_72 (lv_at hl 0 rfl) ?_
                refine lv_iconst (v := 2) hx hb dM_bestOf_74 (by decide) ?_
                refine lv_icmp_ne (tgt := 82) hx hb dM_bestOf_75 (by decide) (fun c_132 => ?_) (fun c_132 => ?_)
                · skip
                  refine lv_iconst (v := 0) hx hb dM_bestOf_82 (by decide) ?_
                  refine lv_iadd hx hb dM_bestOf_83 ?_
                  refine lv_istore (lv' := [(7, .int (c9 + 0)), (10, .int r_130), (9, .int j), (8, .int ap), (6, .int ((mz.2.1 8) (((mz.2.1 15) ((fr + i).toNatClampNeg)).toNatClampNeg))), (5, .int i), (4, .int le), (3, .int be), (0, .ref aM), (1, .int fr), (2, .int nn)]) hx hb dM_bestOf_84 hl (by decide) rfl (fun ls hl => ?_)
                  refine lv_iload hx hb dM_bestOf_86 (lv_at hl 3 rfl) ?_
                  refine lv_iload hx hb dM_bestOf_88 (lv_at hl 1 rfl) ?_
                  refine lv_iconst (v := 2) hx hb dM_bestOf_90 (by decide) ?_
                  refine lv_icmp_ne (tgt := 98) hx hb dM_bestOf_91 (by decide) (fun c_133 => ?_) (fun c_133 => ?_)
                  · skip
                    refine lv_iload hx hb dM_bestOf_98 (lv_at hl 1 rfl) ?_
                    refine lv_iadd hx hb dM_bestOf_100 ?_
                    refine lv_istore (lv' := [(8, .int (ap + r_130)), (7, .int (c9 + 0)), (10, .int r_130), (9, .int j), (6, .int ((mz.2.1 8) (((mz.2.1 15) ((fr + i).toNatClampNeg)).toNatClampNeg))), (5, .int i), (4, .int le), (3, .int be), (0, .ref aM), (1, .int fr), (2, .int nn)]) hx hb dM_bestOf_101 hl (by decide) rfl (fun ls hl => ?_)
                    refine lv_iinc (v := j + 1) (lv' := [(9, .int (j + 1)), (8, .int (ap + r_130)), (7, .int (c9 + 0)), (10, .int r_130), (6, .int ((mz.2.1 8) (((mz.2.1 15) ((fr + i).toNatClampNeg)).toNatClampNeg))), (5, .int i), (4, .int le), (3, .int be), (0, .ref aM), (1, .int fr), (2, .int nn)]) hx hb dM_bestOf_103 hl (k := 3) rfl rfl (by decide) rfl (fun ls hl => ?_)
                    refine lv_goto (tgt := 47) hx hb dM_bestOf_106 (by decide) ?_
                    simp only [sBoIn, if_neg c_125, if_pos h_129, hc_131, if_neg c_132] at hL47
                    exact ih47 (c9 + 0) (ap + r_130) (j + 1) ls hL47 (lv_sub hl [0, 1, 2, 4, 5, 6, 7, 8, 9, 10] rfl)
                  · skip
                    exact absurd c_133 c_132
                · skip
                  refine lv_iconst (v := 1) hx hb dM_bestOf_78 (by decide) ?_
                  refine lv_goto (tgt := 83) hx hb dM_bestOf_79 (by decide) ?_
                  refine lv_iadd hx hb dM_bestOf_83 ?_
                  refine lv_istore (lv' := [(7, .int (c9 + 1)), (10, .int r_130), (9, .int j), (8, .int ap), (6, .int ((mz.2.1 8) (((mz.2.1 15) ((fr + i).toNatClampNeg)).toNatClampNeg))), (5, .int i), (4, .int le), (3, .int be), (0, .ref aM), (1, .int fr), (2, .int nn)]) hx hb dM_bestOf_84 hl (by decide) rfl (fun ls hl => ?_)
                  refine lv_iload hx hb dM_bestOf_86 (lv_at hl 3 rfl) ?_
                  refine lv_iload hx hb dM_bestOf_88 (lv_at hl 1 rfl) ?_
                  refine lv_iconst (v := 2) hx hb dM_bestOf_90 (by decide) ?_
                  refine lv_icmp_ne (tgt := 98) hx hb dM_bestOf_91 (by decide) (fun c_134 => ?_) (fun c_134 => ?_)
                  · skip
                    exact absurd c_132 c_134
                  · skip
                    refine lv_iconst (v := 0) hx hb dM_bestOf_94 (by decide) ?_
                    refine lv_goto (tgt := 100) hx hb dM_bestOf_95 (by decide) ?_
                    refine lv_iadd hx hb dM_bestOf_100 ?_
                    refine lv_istore (lv' := [(8, .int (ap + 0)), (7, .int (c9 + 1)), (10, .int r_130), (9, .int j), (6, .int ((mz.2.1 8) (((mz.2.1 15) ((fr + i).toNatClampNeg)).toNatClampNeg))), (5, .int i), (4, .int le), (3, .int be), (0, .ref aM), (1, .int fr), (2, .int nn)]) hx hb dM_bestOf_101 hl (by decide) rfl (fun ls hl => ?_)
                    refine lv_iinc (v := j + 1) (lv' := [(9, .int (j + 1)), (8, .int (ap + 0)), (7, .int (c9 + 1)), (10, .int r_130), (6, .int ((mz.2.1 8) (((mz.2.1 15) ((fr + i).toNatClampNeg)).toNatClampNeg))), (5, .int i), (4, .int le), (3, .int be), (0, .ref aM), (1, .int fr), (2, .int nn)]) hx hb dM_bestOf_103 hl (k := 3) rfl rfl (by decide) rfl (fun ls hl => ?_)
                    refine lv_goto (tgt := 47) hx hb dM_bestOf_106 (by decide) ?_
                    simp only [sBoIn, if_neg c_125, if_pos h_129, hc_131, if_pos c_132] at hL47
                    exact ih47 (c9 + 1) (ap + 0) (j + 1) ls hL47 (lv_sub hl [0, 1, 2, 4, 5, 6, 7, 8, 9, 10] rfl)
          exact loop47 N2 0 0 0 ls hT_124 (lv_sub hl [0, 1, 2, 3, 4, 5, 6, 7, 8, 9] rfl)
  exact loop9 N9 0 1073741824 0 ls hT_118 (lv_sub hl [0, 1, 2, 3, 4, 5] rfl)
