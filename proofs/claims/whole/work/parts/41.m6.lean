def sColL (fr nn ln sd to_ : Int32) : Nat → MSt → Int32 → Int32 → Option (MSt × Int32 × Int32)
  | 0, _, _, _ => none
  | n + 1, zs, k, i => if nn ≤ i then
      some (zs, k, i)
    else
      if vpin (fr + i) 9000 then
        (match sM_lieOf zs ln ((zs.2.1 15) ((fr + i).toNatClampNeg)) with
        | none => none
        | some r_5 => if r_5 = sd then
            if r_5 = 2 then
              (match sM_part zs ((zs.2.1 15) ((fr + i).toNatClampNeg)) ln sd with
              | none => none
              | some r_11 => if vpin (to_ + k) 9000 then
                  if sd = 1 then
                    sColL fr nn ln sd to_ n (mV 14 (((mI 15 (to_ + k) r_11.2 r_11.1).1 14) + 1) (mI 15 (to_ + k) r_11.2 r_11.1)) (k + 1) (i + 1)
                  else
                    sColL fr nn ln sd to_ n (mV 14 (((mI 15 (to_ + k) r_11.2 r_11.1).1 14) + 0) (mI 15 (to_ + k) r_11.2 r_11.1)) (k + 1) (i + 1)
                else
                  none)
            else
              if vpin (to_ + k) 9000 then
                sColL fr nn ln sd to_ n (mV 14 (((mI 15 (to_ + k) ((zs.2.1 15) ((fr + i).toNatClampNeg)) zs).1 14) + 0) (mI 15 (to_ + k) ((zs.2.1 15) ((fr + i).toNatClampNeg)) zs)) (k + 1) (i + 1)
              else
                none
          else
            if r_5 = 2 then
              (match sM_part zs ((zs.2.1 15) ((fr + i).toNatClampNeg)) ln sd with
              | none => none
              | some r_18 => if vpin (to_ + k) 9000 then
                  if sd = 1 then
                    sColL fr nn ln sd to_ n (mV 14 (((mI 15 (to_ + k) r_18.2 r_18.1).1 14) + 1) (mI 15 (to_ + k) r_18.2 r_18.1)) (k + 1) (i + 1)
                  else
                    sColL fr nn ln sd to_ n (mV 14 (((mI 15 (to_ + k) r_18.2 r_18.1).1 14) + 0) (mI 15 (to_ + k) r_18.2 r_18.1)) (k + 1) (i + 1)
                else
                  none)
            else
              sColL fr nn ln sd to_ n zs k (i + 1))
      else
        none
def sM_collect (mz : MSt) (fr : Int32) (nn : Int32) (ln : Int32) (sd : Int32) (to_ : Int32) (N9 : Nat) : Option (MSt × Int32) :=
  (match sColL fr nn ln sd to_ N9 mz 0 0 with
  | none => none
  | some T_1 => some (T_1.1, T_1.2.1))
set_option maxHeartbeats 4000000 in
set_option maxRecDepth 100000 in
theorem cM_collect (l : Launch) (g : CX) (sz : Nat) (aM : Nat) (b : Nat → Nat) (mz : MSt) (fr : Int32) (nn : Int32) (ln : Int32) (sd : Int32) (to_ : Int32) (N9 : Nat) (r0 : MSt × Int32) (hok : sM_collect mz fr nn ln sd to_ N9 = some r0) : Met l yM_collect (wm yM_collect kM_collect 10 (some .int)) ({ frames := 4, cells := 0, slots := 0, locals := 133 }) (rw g [.ref aM, .int fr, .int nn, .int ln, .int sd, .int to_] (mX g aM b mz) sz) (va_Qi (fun (r : Int32) (_u : Unit) => r = r0.2) (rB g (va_A (mX g aM b mz) sz) (fun _u => (mX g aM b r0.1))) (va_A (mX g aM b mz) sz)) 0 0 (va_A (mX g aM b mz) sz) := by
  refine Met.ofW (cc := kM_collect) (maxL := 10) (ret := (some .int)) (by decide) rfl ?_
  intro p e s m args below meth c s₁ B hml hv
  obtain ⟨rfl, hsz, hK, hP, hD0⟩ := hv
  have hx := B.exec
  have hb := B.bytes
  have hr := B.returns
  have ht : ∀ w ∈ wT, w.before _ s = true := fun w h => atoms_spec (ws := wm yM_collect kM_collect 10 (some .int)) B.pre w (List.mem_cons_of_mem _ h)
  have hown : s.vm.findClass "NodeMakerModel" = some m.cls := findClass_of_methodNamed B.named
  have hlocks := B.notSynchronized
  subst hsz
  have hD := hD0.self (sz := s.heap.size)
  generalize hAe : va_A (mX g aM b mz) s.heap.size = A at hD ⊢
  have hA : ∀ q : Nat, s.heap.size ≤ q → A q := fun q h => by rw [← hAe]; exact Or.inr h
  have hS : va_S A s.heap s.heap [] := va_S.rf
  have hl := lv_entry ([.ref aM, .int fr, .int nn, .int ln, .int sd, .int to_]) (n := 10) (Nat.le_of_ble_eq_true rfl)
  rw [lg_entry_eq]
  generalize (lg_sl ([.ref aM, .int fr, .int nn, .int ln, .int sd, .int to_]) ++ List.replicate (10 - (lg_sl ([.ref aM, .int fr, .int nn, .int ln, .int sd, .int to_])).length) Slot.unset).toArray = ls at hl ⊢
  have hl : lv_has ls 10 [(0, .ref aM), (1, .int fr), (2, .int nn), (3, .int ln), (4, .int sd), (5, .int to_)] := hl
  refine lv_iconst (v := 0) hx hb dM_collect_0 (by decide) ?_
  refine lv_istore (lv' := [(6, .int 0), (0, .ref aM), (1, .int fr), (2, .int nn), (3, .int ln), (4, .int sd), (5, .int to_)]) hx hb dM_collect_1 hl (by decide) rfl (fun ls hl => ?_)
  refine lv_iconst (v := 0) hx hb dM_collect_3 (by decide) ?_
  refine lv_istore (lv' := [(7, .int 0), (6, .int 0), (0, .ref aM), (1, .int fr), (2, .int nn), (3, .int ln), (4, .int sd), (5, .int to_)]) hx hb dM_collect_4 hl (by decide) rfl (fun ls hl => ?_)
  obtain ⟨T_1, hT_2⟩ : ∃ t9, sColL fr nn ln sd to_ N9 mz 0 0 = some t9 := by
    cases hc9 : sColL fr nn ln sd to_ N9 mz 0 0 with
    | some t9 => exact ⟨t9, rfl⟩
    | none => exfalso; simp only [sM_collect, hc9] at hok; cases hok
  have loop6 : ∀ (n : Nat) (zs : MSt) (k : Int32) (i : Int32) (H : Heap) (locs : List Loc) (ls : Array Slot), sColL fr nn ln sd to_ n zs k i = some T_1 → va_P g.1 vwCl (mX g aM b zs) H → va_D A (mX g aM b zs) → va_S A s.heap H locs → lv_has ls 10 [(7, .int i), (6, .int k), (0, .ref aM), (1, .int fr), (2, .int nn), (3, .int ln), (4, .int sd), (5, .int to_)] → W p l e (headSpec (wm yM_collect kM_collect 10 (some .int)) ({ frames := 4, cells := 0, slots := 0, locals := 133 })).room s m ([.ref aM, .int fr, .int nn, .int ln, .int sd, .int to_] : List Value).toArray below meth c H locs (0) (0) (MQ below (va_Qi (fun (r : Int32) (_u : Unit) => r = r0.2) (rB g A (fun _u => (mX g aM b r0.1))) A) ([.ref aM, .int fr, .int nn, .int ln, .int sd, .int to_] : List Value).toArray s 0 0 A) (F0 m 6 ls []) := by
    intro n6
    induction n6 with
    | zero => intro zs k i H locs ls hL6 hP hD hS hl; cases hL6
    | succ n6 ih6 =>
      intro zs k i H locs ls hL6 hP hD hS hl
      refine lv_iload hx hb dM_collect_6 (lv_at hl 0 rfl) ?_
      refine lv_iload_n hx hb dM_collect_8 rfl (lv_at hl 4 rfl) ?_
      refine lv_icmp_ge (tgt := 110) hx hb dM_collect_9 (by decide) (fun c_3 => ?_) (fun c_3 => ?_)
      · skip
        simp only [sColL, if_pos c_3] at hL6
        have hex : (zs, k, i) = T_1 := Option.some.inj hL6
        have e_zs : zs = T_1.1 := by rw [← hex]
        have e_k : k = T_1.2.1 := by rw [← hex]
        have e_i : i = T_1.2.2 := by rw [← hex]
        subst e_zs
        subst e_k
        subst e_i
        refine lv_iload hx hb dM_collect_110 (lv_at hl 1 rfl) ?_
        simp only [sM_collect, hT_2] at hok
        have hF := Option.some.inj hok
        subst hF
        exact W.iret hx hb hr (fun t ht9 hW => ⟨⟨_, (), rfl, rfl, by rw [ht9]; exact hP, hD⟩, hS.F ht9⟩) hS.2.2 dM_collect_112
      · skip
        refine lv_aload_n hx hb dM_collect_12 rfl (lv_at hl 2 rfl) ?_
        refine va_get (D := g.1) (ci := 6) (v := .ref (b 15)) (C := "NodeMakerModel") (T := Fd_M) (N := 37) hx hb ht i_M hown hK.1 hP 0 rfl rfl 15 (by decide) (ht _ q_540) (fun _ h9 => h9) rfl dM_collect_13 ?_
        refine lv_iload_n hx hb dM_collect_16 rfl (lv_at hl 3 rfl) ?_
        refine lv_iload hx hb dM_collect_17 (lv_at hl 0 rfl) ?_
        refine lv_iadd hx hb dM_collect_19 ?_
        have h_4 : vpin (fr + i) 9000 := Decidable.byContradiction (fun h9 => by simp only [sColL, if_neg c_3, if_neg h9] at hL6; cases hL6)
        refine va_iald hx hb hK.1 hP 11 0 rfl rfl (vp_in_iff.mpr h_4) dM_collect_20 ?_
        refine lv_istore (lv' := [(8, .int ((zs.2.1 15) ((fr + i).toNatClampNeg))), (7, .int i), (6, .int k), (0, .ref aM), (1, .int fr), (2, .int nn), (3, .int ln), (4, .int sd), (5, .int to_)]) hx hb dM_collect_21 hl (by decide) rfl (fun ls hl => ?_)
        refine lv_aload_n hx hb dM_collect_23 rfl (lv_at hl 3 rfl) ?_
        refine lv_iload_n hx hb dM_collect_24 rfl (lv_at hl 6 rfl) ?_
        refine lv_iload hx hb dM_collect_25 (lv_at hl 0 rfl) ?_
        obtain ⟨r_5, hc_6⟩ : ∃ r9, sM_lieOf zs ln ((zs.2.1 15) ((fr + i).toNatClampNeg)) = some r9 := by
          cases hc9 : sM_lieOf zs ln ((zs.2.1 15) ((fr + i).toNatClampNeg)) with
          | some r9 => exact ⟨r9, rfl⟩
          | none => exfalso; simp only [sColL, if_neg c_3, if_pos h_4, hc9] at hL6; cases hL6
        refine ro_Vi (v := r_5) (As := [.int ln, .int ((zs.2.1 15) ((fr + i).toNatClampNeg))]) (rest := []) ⟨hx, hb, hml, hown, ht⟩ (cM_lieOf l g aM b zs ln ((zs.2.1 15) ((fr + i).toNatClampNeg)) r_5 hc_6) (cwV 2 ht (g_V q_717 q_719 q_24 q_39 q_720) rfl rfl rfl hd_M_lieOf ⟨Nat.le_of_ble_eq_true rfl, Nat.le_of_ble_eq_true rfl⟩) hK (hP) (va_recv hK.1 hP (ci := 6) (q0 := 0) rfl rfl) rfl hl.1 rfl (Nat.le_of_ble_eq_true rfl) dM_collect_27 ⟨Nat.zero_le _, Nat.zero_le _⟩ ?_
        refine lv_istore (lv' := [(9, .int r_5), (8, .int ((zs.2.1 15) ((fr + i).toNatClampNeg))), (7, .int i), (6, .int k), (0, .ref aM), (1, .int fr), (2, .int nn), (3, .int ln), (4, .int sd), (5, .int to_)]) hx hb dM_collect_30 hl (by decide) rfl (fun ls hl => ?_)
        refine lv_iload hx hb dM_collect_32 (lv_at hl 0 rfl) ?_
        refine lv_iload hx hb dM_collect_34 (lv_at hl 8 rfl) ?_
        refine lv_icmp_eq (tgt := 45) hx hb dM_collect_36 (by decide) (fun c_7 => ?_) (fun c_7 => ?_)
        · skip
          refine lv_aload_n hx hb dM_collect_45 rfl (lv_at hl 4 rfl) ?_
          refine va_get (D := g.1) (ci := 6) (v := .ref (b 15)) (C := "NodeMakerModel") (T := Fd_M) (N := 37) hx hb ht i_M hown hK.1 hP 0 rfl rfl 15 (by decide) (ht _ q_540) (fun _ h9 => h9) rfl dM_collect_46 ?_
          refine lv_iload hx hb dM_collect_49 (lv_at hl 9 rfl) ?_
          refine lv_iload hx hb dM_collect_51 (lv_at hl 3 rfl) ?_
          refine lv_iadd hx hb dM_collect_53 ?_
          refine lv_iload hx hb dM_collect_54 (lv_at hl 0 rfl) ?_
          refine lv_iconst (v := 2) hx hb dM_collect_56 (by decide) ?_
          refine lv_icmp_ne (tgt := 72) hx hb dM_collect_57 (by decide) (fun c_8 => ?_) (fun c_8 => ?_)
          · skip
            refine lv_iload hx hb dM_collect_72 (lv_at hl 1 rfl) ?_
            have h_9 : vpin (to_ + k) 9000 := Decidable.byContradiction (fun h9 => by simp only [sColL, if_neg c_3, if_pos h_4, hc_6, if_pos c_7, if_neg c_8, if_neg h9] at hL6; cases hL6)
            refine va_iast hx hb hK.1 hP hD hS 11 0 rfl rfl (vp_in_iff.mpr h_9) dM_collect_74 (fun H locs hP hD hS => ?_)
            have hP : va_P g.1 vwCl (mX g aM b (mI 15 (to_ + k) ((zs.2.1 15) ((fr + i).toNatClampNeg)) zs)) H := hP
            have hD : va_D A (mX g aM b (mI 15 (to_ + k) ((zs.2.1 15) ((fr + i).toNatClampNeg)) zs)) := hD
            refine lv_iinc (v := k + 1) (lv' := [(6, .int (k + 1)), (9, .int r_5), (8, .int ((zs.2.1 15) ((fr + i).toNatClampNeg))), (7, .int i), (0, .ref aM), (1, .int fr), (2, .int nn), (3, .int ln), (4, .int sd), (5, .int to_)]) hx hb dM_collect_75 hl (k := 3) rfl rfl (by decide) rfl (fun ls hl => ?_)
            refine lv_aload_n hx hb dM_collect_78 rfl (lv_at hl 4 rfl) ?_
            refine lv_dup hx hb dM_collect_79 rfl ?_
            refine va_get (D := g.1) (ci := 6) (v := .int ((mI 15 (to_ + k) ((zs.2.1 15) ((fr + i).toNatClampNeg)) zs).1 14)) (C := "NodeMakerModel") (T := Fd_M) (N := 37) hx hb ht i_M hown hK.1 hP 0 rfl rfl 14 (by decide) (ht _ q_539) (fun _ h9 => h9) rfl dM_collect_80 ?_
            refine lv_iload hx hb dM_collect_83 (lv_at hl 1 rfl) ?_
            refine lv_iconst (v := 2) hx hb dM_collect_85 (by decide) ?_
            refine lv_icmp_ne (tgt := 99) hx hb dM_collect_86 (by decide) (fun c_10 => ?_) (fun c_10 => ?_)
            · skip
              refine lv_iconst (v := 0) hx hb dM_collect_99 (by decide) ?_
              refine lv_iadd hx hb dM_collect_100 ?_
              refine va_put (D := g.1) (ci := 6) (v := .int (((mI 15 (to_ + k) ((zs.2.1 15) ((fr + i).toNatClampNeg)) zs).1 14) + 0)) (ty := .int) (C := "NodeMakerModel") (T := Fd_M) (N := 37) hx hb ht i_M ty_M ty_M_ok nm_M hown hK.1 hP hD hS 0 rfl rfl 14 (by decide) (ht _ q_539) (fun _ h9 => h9) rfl (by decide +kernel) rfl rfl (Nat.le_of_ble_eq_true rfl) dM_collect_101 (fun H locs hP hD hS => ?_)
              have hP : va_P g.1 vwCl (mX g aM b (mV 14 (((mI 15 (to_ + k) ((zs.2.1 15) ((fr + i).toNatClampNeg)) zs).1 14) + 0) (mI 15 (to_ + k) ((zs.2.1 15) ((fr + i).toNatClampNeg)) zs))) H := hP
              have hD : va_D A (mX g aM b (mV 14 (((mI 15 (to_ + k) ((zs.2.1 15) ((fr + i).toNatClampNeg)) zs).1 14) + 0) (mI 15 (to_ + k) ((zs.2.1 15) ((fr + i).toNatClampNeg)) zs))) := hD
              refine lv_iinc (v := i + 1) (lv' := [(7, .int (i + 1)), (6, .int (k + 1)), (9, .int r_5), (8, .int ((zs.2.1 15) ((fr + i).toNatClampNeg))), (0, .ref aM), (1, .int fr), (2, .int nn), (3, .int ln), (4, .int sd), (5, .int to_)]) hx hb dM_collect_104 hl (k := 3) rfl rfl (by decide) rfl (fun ls hl => ?_)
              refine lv_goto (tgt := 6) hx hb dM_collect_107 (by decide) ?_
              simp only [sColL, if_neg c_3, if_pos h_4, hc_6, if_pos c_7, if_neg c_8, if_pos h_9] at hL6
              exact ih6 (mV 14 (((mI 15 (to_ + k) ((zs.2.1 15) ((fr + i).toNatClampNeg)) zs).1 14) + 0) (mI 15 (to_ + k) ((zs.2.1 15) ((fr + i).toNatClampNeg)) zs)) (k + 1) (i + 1) H locs ls hL6 hP hD hS (lv_sub hl [0, 1, 4, 5, 6, 7, 8, 9] rfl)
            · skip
              exact absurd c_10 c_8
          · skip
            refine lv_aload_n hx hb dM_collect_60 rfl (lv_at hl 4 rfl) ?_
            refine lv_iload hx hb dM_collect_61 (lv_at hl 1 rfl) ?_
            refine lv_iload_n hx hb dM_collect_63 rfl (lv_at hl 7 rfl) ?_
            refine lv_iload hx hb dM_collect_64 (lv_at hl 8 rfl) ?_
            obtain ⟨r_11, hc_12⟩ : ∃ r9, sM_part zs ((zs.2.1 15) ((fr + i).toNatClampNeg)) ln sd = some r9 := by
              cases hc9 : sM_part zs ((zs.2.1 15) ((fr + i).toNatClampNeg)) ln sd with
              | some r9 => exact ⟨r9, rfl⟩
              | none => exfalso; simp only [sColL, if_neg c_3, if_pos h_4, hc_6, if_pos c_7, if_pos c_8, hc9] at hL6; cases hL6
            refine rw_iA (va_runV (As := [.int ((zs.2.1 15) ((fr + i).toNatClampNeg)), .int ln, .int sd]) (rest := [.int (to_ + k), .ref (b 15)]) ⟨hx, hb, hml, hown, ht⟩ (cM_part l g H.size aM b zs ((zs.2.1 15) ((fr + i).toNatClampNeg)) ln sd  r_11 hc_12) (cwV 3 ht (g_V q_737 q_739 q_27 q_39 q_740) rfl rfl rfl hd_M_part ⟨Nat.le_of_ble_eq_true rfl, Nat.le_of_ble_eq_true rfl⟩) (rw_V hK hP hD (va_recv hK.1 hP (ci := 6) (q0 := 0) rfl rfl)) rfl rfl hl.1 rfl (lv_room (Nat.le_of_ble_eq_true rfl)) dM_collect_66 ⟨Nat.zero_le _, Nat.zero_le _⟩) hD hS hA (fun rr _ H locs hw hP hD hS => ?_)
            subst hw
            have hP : va_P g.1 vwCl (mX g aM b (r_11.1)) H := hP
            have hD : va_D A (mX g aM b (r_11.1)) := hD
            refine lv_goto (tgt := 74) hx hb dM_collect_69 (by decide) ?_
            have h_13 : vpin (to_ + k) 9000 := Decidable.byContradiction (fun h9 => by simp only [sColL, if_neg c_3, if_pos h_4, hc_6, if_pos c_7, if_pos c_8, hc_12, if_neg h9] at hL6; cases hL6)
            refine va_iast hx hb hK.1 hP hD hS 11 0 rfl rfl (vp_in_iff.mpr h_13) dM_collect_74 (fun H locs hP hD hS => ?_)
            have hP : va_P g.1 vwCl (mX g aM b (mI 15 (to_ + k) r_11.2 r_11.1)) H := hP
            have hD : va_D A (mX g aM b (mI 15 (to_ + k) r_11.2 r_11.1)) := hD
            refine lv_iinc (v := k + 1) (lv' := [(6, .int (k + 1)), (9, .int r_5), (8, .int ((zs.2.1 15) ((fr + i).toNatClampNeg))), (7, .int i), (0, .ref aM), (1, .int fr), (2, .int nn), (3, .int ln), (4, .int sd), (5, .int to_)]) hx hb dM_collect_75 hl (k := 3) rfl rfl (by decide) rfl (fun ls hl => ?_)
            refine lv_aload_n hx hb dM_collect_78 rfl (lv_at hl 4 rfl) ?_
            refine lv_dup hx hb dM_collect_79 rfl ?_
            refine va_get (D := g.1) (ci := 6) (v := .int ((mI 15 (to_ + k) r_11.2 r_11.1).1 14)) (C := "NodeMakerModel") (T := Fd_M) (N := 37) hx hb ht i_M hown hK.1 hP 0 rfl rfl 14 (by decide) (ht _ q_539) (fun _ h9 => h9) rfl dM_collect_80 ?_
            refine lv_iload hx hb dM_collect_83 (lv_at hl 1 rfl) ?_
            refine lv_iconst (v := 2) hx hb dM_collect_85 (by decide) ?_
            refine lv_icmp_ne (tgt := 99) hx hb dM_collect_86 (by decide) (fun c_14 => ?_) (fun c_14 => ?_)
            · skip
              exact absurd c_8 c_14
            · skip
              refine lv_iload hx hb dM_collect_89 (lv_at hl 8 rfl) ?_
              refine lv_iconst (v := 1) hx hb dM_collect_91 (by decide) ?_
              refine lv_icmp_ne (tgt := 99) hx hb dM_collect_92 (by decide) (fun c_15 => ?_) (fun c_15 => ?_)
              · skip
                refine lv_iconst (v := 0) hx hb dM_collect_99 (by decide) ?_
                refine lv_iadd hx hb dM_collect_100 ?_
                refine va_put (D := g.1) (ci := 6) (v := .int (((mI 15 (to_ + k) r_11.2 r_11.1).1 14) + 0)) (ty := .int) (C := "NodeMakerModel") (T := Fd_M) (N := 37) hx hb ht i_M ty_M ty_M_ok nm_M hown hK.1 hP hD hS 0 rfl rfl 14 (by decide) (ht _ q_539) (fun _ h9 => h9) rfl (by decide +kernel) rfl rfl (Nat.le_of_ble_eq_true rfl) dM_collect_101 (fun H locs hP hD hS => ?_)
                have hP : va_P g.1 vwCl (mX g aM b (mV 14 (((mI 15 (to_ + k) r_11.2 r_11.1).1 14) + 0) (mI 15 (to_ + k) r_11.2 r_11.1))) H := hP
                have hD : va_D A (mX g aM b (mV 14 (((mI 15 (to_ + k) r_11.2 r_11.1).1 14) + 0) (mI 15 (to_ + k) r_11.2 r_11.1))) := hD
                refine lv_iinc (v := i + 1) (lv' := [(7, .int (i + 1)), (6, .int (k + 1)), (9, .int r_5), (8, .int ((zs.2.1 15) ((fr + i).toNatClampNeg))), (0, .ref aM), (1, .int fr), (2, .int nn), (3, .int ln), (4, .int sd), (5, .int to_)]) hx hb dM_collect_104 hl (k := 3) rfl rfl (by decide) rfl (fun ls hl => ?_)
                refine lv_goto (tgt := 6) hx hb dM_collect_107 (by decide) ?_
                simp only [sColL, if_neg c_3, if_pos h_4, hc_6, if_pos c_7, if_pos c_8, hc_12, if_pos h_13, if_neg c_15] at hL6
                exact ih6 (mV 14 (((mI 15 (to_ + k) r_11.2 r_11.1).1 14) + 0) (mI 15 (to_ + k) r_11.2 r_11.1)) (k + 1) (i + 1) H locs ls hL6 hP hD hS (lv_sub hl [0, 1, 4, 5, 6, 7, 8, 9] rfl)
              · skip
                refine lv_iconst (v := 1) hx hb dM_collect_95 (by decide) ?_
                refine lv_goto (tgt := 100) hx hb dM_collect_96 (by decide) ?_
                refine lv_iadd hx hb dM_collect_100 ?_
                refine va_put (D := g.1) (ci := 6) (v := .int (((mI 15 (to_ + k) r_11.2 r_11.1).1 14) + 1)) (ty := .int) (C := "NodeMakerModel") (T := Fd_M) (N := 37) hx hb ht i_M ty_M ty_M_ok nm_M hown hK.1 hP hD hS 0 rfl rfl 14 (by decide) (ht _ q_539) (fun _ h9 => h9) rfl (by decide +kernel) rfl rfl (Nat.le_of_ble_eq_true rfl) dM_collect_101 (fun H locs hP hD hS => ?_)
                have hP : va_P g.1 vwCl (mX g aM b (mV 14 (((mI 15 (to_ + k) r_11.2 r_11.1).1 14) + 1) (mI 15 (to_ + k) r_11.2 r_11.1))) H := hP
                have hD : va_D A (mX g aM b (mV 14 (((mI 15 (to_ + k) r_11.2 r_11.1).1 14) + 1) (mI 15 (to_ + k) r_11.2 r_11.1))) := hD
                refine lv_iinc (v := i + 1) (lv' := [(7, .int (i + 1)), (6, .int (k + 1)), (9, .int r_5), (8, .int ((zs.2.1 15) ((fr + i).toNatClampNeg))), (0, .ref aM), (1, .int fr), (2, .int nn), (3, .int ln), (4, .int sd), (5, .int to_)]) hx hb dM_collect_104 hl (k := 3) rfl rfl (by decide) rfl (fun ls hl => ?_)
                refine lv_goto (tgt := 6) hx hb dM_collect_107 (by decide) ?_
                simp only [sColL, if_neg c_3, if_pos h_4, hc_6, if_pos c_7, if_pos c_8, hc_12, if_pos h_13, if_pos c_15] at hL6
                exact ih6 (mV 14 (((mI 15 (to_ + k) r_11.2 r_11.1).1 14) + 1) (mI 15 (to_ + k) r_11.2 r_11.1)) (k + 1) (i + 1) H locs ls hL6 hP hD hS (lv_sub hl [0, 1, 4, 5, 6, 7, 8, 9] rfl)
        · skip
          refine lv_iload hx hb dM_collect_39 (lv_at hl 0 rfl) ?_
          refine lv_iconst (v := 2) hx hb dM_collect_41 (by decide) ?_
          refine lv_icmp_ne (tgt := 104) hx hb dM_collect_42 (by decide) (fun c_16 => ?_) (fun c_16 => ?_)
          · skip
            refine lv_iinc (v := i + 1) (lv' := [(7, .int (i + 1)), (9, .int r_5), (8, .int ((zs.2.1 15) ((fr + i).toNatClampNeg))), (6, .int k), (0, .ref aM), (1, .int fr), (2, .int nn), (3, .int ln), (4, .int sd), (5, .int to_)]) hx hb dM_collect_104 hl (k := 2) rfl rfl (by decide) rfl (fun ls hl => ?_)
            refine lv_goto (tgt := 6) hx hb dM_collect_107 (by decide) ?_
            simp only [sColL, if_neg c_3, if_pos h_4, hc_6, if_neg c_7, if_neg c_16] at hL6
            exact ih6 zs k (i + 1) H locs ls hL6 hP hD hS (lv_sub hl [0, 3, 4, 5, 6, 7, 8, 9] rfl)
          · skip
            refine lv_aload_n hx hb dM_collect_45 rfl (lv_at hl 4 rfl) ?_
            refine va_get (D := g.1) (ci := 6) (v := .ref (b 15)) (C := "NodeMakerModel") (T := Fd_M) (N := 37) hx hb ht i_M hown hK.1 hP 0 rfl rfl 15 (by decide) (ht _ q_540) (fun _ h9 => h9) rfl dM_collect_46 ?_
            refine lv_iload hx hb dM_collect_49 (lv_at hl 9 rfl) ?_
            refine lv_iload hx hb dM_collect_51 (lv_at hl 3 rfl) ?_
            refine lv_iadd hx hb dM_collect_53 ?_
            refine lv_iload hx hb dM_collect_54 (lv_at hl 0 rfl) ?_
            refine lv_iconst (v := 2) hx hb dM_collect_56 (by decide) ?_
            refine lv_icmp_ne (tgt := 72) hx hb dM_collect_57 (by decide) (fun c_17 => ?_) (fun c_17 => ?_)
            · skip
              exact absurd c_16 c_17
            · skip
              refine lv_aload_n hx hb dM_collect_60 rfl (lv_at hl 4 rfl) ?_
              refine lv_iload hx hb dM_collect_61 (lv_at hl 1 rfl) ?_
              refine lv_iload_n hx hb dM_collect_63 rfl (lv_at hl 7 rfl) ?_
              refine lv_iload hx hb dM_collect_64 (lv_at hl 8 rfl) ?_
              obtain ⟨r_18, hc_19⟩ : ∃ r9, sM_part zs ((zs.2.1 15) ((fr + i).toNatClampNeg)) ln sd = some r9 := by
                cases hc9 : sM_part zs ((zs.2.1 15) ((fr + i).toNatClampNeg)) ln sd with
                | some r9 => exact ⟨r9, rfl⟩
                | none => exfalso; simp only [sColL, if_neg c_3, if_pos h_4, hc_6, if_neg c_7, if_pos c_16, hc9] at hL6; cases hL6
              refine rw_iA (va_runV (As := [.int ((zs.2.1 15) ((fr + i).toNatClampNeg)), .int ln, .int sd]) (rest := [.int (to_ + k), .ref (b 15)]) ⟨hx, hb, hml, hown, ht⟩ (cM_part l g H.size aM b zs ((zs.2.1 15) ((fr + i).toNatClampNeg)) ln sd  r_18 hc_19) (cwV 3 ht (g_V q_737 q_739 q_27 q_39 q_740) rfl rfl rfl hd_M_part ⟨Nat.le_of_ble_eq_true rfl, Nat.le_of_ble_eq_true rfl⟩) (rw_V hK hP hD (va_recv hK.1 hP (ci := 6) (q0 := 0) rfl rfl)) rfl rfl hl.1 rfl (lv_room (Nat.le_of_ble_eq_true rfl)) dM_collect_66 ⟨Nat.zero_le _, Nat.zero_le _⟩) hD hS hA (fun rr _ H locs hw hP hD hS => ?_)
              subst hw
              have hP : va_P g.1 vwCl (mX g aM b (r_18.1)) H := hP
              have hD : va_D A (mX g aM b (r_18.1)) := hD
              refine lv_goto (tgt := 74) hx hb dM_collect_69 (by decide) ?_
              have h_20 : vpin (to_ + k) 9000 := Decidable.byContradiction (fun h9 => by simp only [sColL, if_neg c_3, if_pos h_4, hc_6, if_neg c_7, if_pos c_16, hc_19, if_neg h9] at hL6; cases hL6)
              refine va_iast hx hb hK.1 hP hD hS 11 0 rfl rfl (vp_in_iff.mpr h_20) dM_collect_74 (fun H locs hP hD hS => ?_)
              have hP : va_P g.1 vwCl (mX g aM b (mI 15 (to_ + k) r_18.2 r_18.1)) H := hP
              have hD : va_D A (mX g aM b (mI 15 (to_ + k) r_18.2 r_18.1)) := hD
              refine lv_iinc (v := k + 1) (lv' := [(6, .int (k + 1)), (9, .int r_5), (8, .int ((zs.2.1 15) ((fr + i).toNatClampNeg))), (7, .int i), (0, .ref aM), (1, .int fr), (2, .int nn), (3, .int ln), (4, .int sd), (5, .int to_)]) hx hb dM_collect_75 hl (k := 3) rfl rfl (by decide) rfl (fun ls hl => ?_)
              refine lv_aload_n hx hb dM_collect_78 rfl (lv_at hl 4 rfl) ?_
              refine lv_dup hx hb dM_collect_79 rfl ?_
              refine va_get (D := g.1) (ci := 6) (v := .int ((mI 15 (to_ + k) r_18.2 r_18.1).1 14)) (C := "NodeMakerModel") (T := Fd_M) (N := 37) hx hb ht i_M hown hK.1 hP 0 rfl rfl 14 (by decide) (ht _ q_539) (fun _ h9 => h9) rfl dM_collect_80 ?_
              refine lv_iload hx hb dM_collect_83 (lv_at hl 1 rfl) ?_
              refine lv_iconst (v := 2) hx hb dM_collect_85 (by decide) ?_
              refine lv_icmp_ne (tgt := 99) hx hb dM_collect_86 (by decide) (fun c_21 => ?_) (fun c_21 => ?_)
              · skip
                exact absurd c_16 c_21
              · skip
                refine lv_iload hx hb dM_collect_89 (lv_at hl 8 rfl) ?_
                refine lv_iconst (v := 1) hx hb dM_collect_91 (by decide) ?_
                refine lv_icmp_ne (tgt := 99) hx hb dM_collect_92 (by decide) (fun c_22 => ?_) (fun c_22 => ?_)
                · skip
                  refine lv_iconst (v := 0) hx hb dM_collect_99 (by decide) ?_
                  refine lv_iadd hx hb dM_collect_100 ?_
                  refine va_put (D := g.1) (ci := 6) (v := .int (((mI 15 (to_ + k) r_18.2 r_18.1).1 14) + 0)) (ty := .int) (C := "NodeMakerModel") (T := Fd_M) (N := 37) hx hb ht i_M ty_M ty_M_ok nm_M hown hK.1 hP hD hS 0 rfl rfl 14 (by decide) (ht _ q_539) (fun _ h9 => h9) rfl (by decide +kernel) rfl rfl (Nat.le_of_ble_eq_true rfl) dM_collect_101 (fun H locs hP hD hS => ?_)
                  have hP : va_P g.1 vwCl (mX g aM b (mV 14 (((mI 15 (to_ + k) r_18.2 r_18.1).1 14) + 0) (mI 15 (to_ + k) r_18.2 r_18.1))) H := hP
                  have hD : va_D A (mX g aM b (mV 14 (((mI 15 (to_ + k) r_18.2 r_18.1).1 14) + 0) (mI 15 (to_ + k) r_18.2 r_18.1))) := hD
                  refine lv_iinc (v := i + 1) (lv' := [(7, .int (i + 1)), (6, .int (k + 1)), (9, .int r_5), (8, .int ((zs.2.1 15) ((fr + i).toNatClampNeg))), (0, .ref aM), (1, .int fr), (2, .int nn), (3, .int ln), (4, .int sd), (5, .int to_)]) hx hb dM_collect_104 hl (k := 3) rfl rfl (by decide) rfl (fun ls hl => ?_)
                  refine lv_goto (tgt := 6) hx hb dM_collect_107 (by decide) ?_
                  simp only [sColL, if_neg c_3, if_pos h_4, hc_6, if_neg c_7, if_pos c_16, hc_19, if_pos h_20, if_neg c_22] at hL6
                  exact ih6 (mV 14 (((mI 15 (to_ + k) r_18.2 r_18.1).1 14) + 0) (mI 15 (to_ + k) r_18.2 r_18.1)) (k + 1) (i + 1) H locs ls hL6 hP hD hS (lv_sub hl [0, 1, 4, 5, 6, 7, 8, 9] rfl)
                · skip
                  refine lv_iconst (v := 1) hx hb dM_collect_95 (by decide) ?_
                  refine lv_goto (tgt := 100) hx hb dM_collect_96 (by decide) ?_
                  refine lv_iadd hx hb dM_collect_100 ?_
                  refine va_put (D := g.1) (ci := 6) (v := .int (((mI 15 (to_ + k) r_18.2 r_18.1).1 14) + 1)) (ty := .int) (C := "NodeMakerModel") (T := Fd_M) (N := 37) hx hb ht i_M ty_M ty_M_ok nm_M hown hK.1 hP hD hS 0 rfl rfl 14 (by decide) (ht _ q_539) (fun _ h9 => h9) rfl (by decide +kernel) rfl rfl (Nat.le_of_ble_eq_true rfl) dM_collect_101 (fun H locs hP hD hS => ?_)
                  have hP : va_P g.1 vwCl (mX g aM b (mV 14 (((mI 15 (to_ + k) r_18.2 r_18.1).1 14) + 1) (mI 15 (to_ + k) r_18.2 r_18.1))) H := hP
                  have hD : va_D A (mX g aM b (mV 14 (((mI 15 (to_ + k) r_18.2 r_18.1).1 14) + 1) (mI 15 (to_ + k) r_18.2 r_18.1))) := hD
                  refine lv_iinc (v := i + 1) (lv' := [(7, .int (i + 1)), (6, .int (k + 1)), (9, .int r_5), (8, .int ((zs.2.1 15) ((fr + i).toNatClampNeg))), (0, .ref aM), (1, .int fr), (2, .int nn), (3, .int ln), (4, .int sd), (5, .int to_)]) hx hb dM_collect_104 hl (k := 3) rfl rfl (by decide) rfl (fun ls hl => ?_)
                  refine lv_goto (tgt := 6) hx hb dM_collect_107 (by decide) ?_
                  simp only [sColL, if_neg c_3, if_pos h_4, hc_6, if_neg c_7, if_pos c_16, hc_19, if_pos h_20, if_pos c_22] at hL6
                  exact ih6 (mV 14 (((mI 15 (to_ + k) r_18.2 r_18.1).1 14) + 1) (mI 15 (to_ + k) r_18.2 r_18.1)) (k + 1) (i + 1) H locs ls hL6 hP hD hS (lv_sub hl [0, 1, 4, 5, 6, 7, 8, 9] rfl)
  exact loop6 N9 mz 0 0 _ _ ls hT_2 hP hD hS (lv_sub hl [0, 1, 2, 3, 4, 5, 6, 7] rfl)
