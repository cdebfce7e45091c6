def sNoL (m1s : Int32 → Int32) : Nat → MSt → Int32 → Int32 → Option (MSt × Int32)
  | 0, _, _, _ => none
  | n + 1, zs, nn, lf => if nn ≤ 0 then
      some (zs, (-1))
    else
      if vpin (nn + (-1)) 8600 then
        if ((zs.2.1 36) ((nn + (-1)).toNatClampNeg)) < 0 then
          if vpin (m1s ((zs.2.1 36) ((nn + (-1)).toNatClampNeg))) 4200 then
            if ((zs.2.1 26) ((m1s ((zs.2.1 36) ((nn + (-1)).toNatClampNeg))).toNatClampNeg)) ≤ lf then
              (match sM_isLeft zs (m1s ((zs.2.1 36) ((nn + (-1)).toNatClampNeg))) (zs.1 34) (zs.1 35) with
              | none => none
              | some r_10 => if r_10 = 0 then
                  if ((zs.2.1 22) ((m1s ((zs.2.1 36) ((nn + (-1)).toNatClampNeg))).toNatClampNeg)) < 0 then
                    sNoL m1s n zs (nn + (-1)) (lf - ((zs.2.1 26) ((m1s ((zs.2.1 36) ((nn + (-1)).toNatClampNeg))).toNatClampNeg)))
                  else
                    sNoL m1s n (mI 36 (nn + (-1)) ((zs.2.1 22) ((m1s ((zs.2.1 36) ((nn + (-1)).toNatClampNeg))).toNatClampNeg)) zs) ((nn + (-1)) + 1) (lf - ((zs.2.1 26) ((m1s ((zs.2.1 36) ((nn + (-1)).toNatClampNeg))).toNatClampNeg)))
                else
                  if ((zs.2.1 23) ((m1s ((zs.2.1 36) ((nn + (-1)).toNatClampNeg))).toNatClampNeg)) < 0 then
                    sNoL m1s n zs (nn + (-1)) (lf - ((zs.2.1 26) ((m1s ((zs.2.1 36) ((nn + (-1)).toNatClampNeg))).toNatClampNeg)))
                  else
                    sNoL m1s n (mI 36 (nn + (-1)) ((zs.2.1 23) ((m1s ((zs.2.1 36) ((nn + (-1)).toNatClampNeg))).toNatClampNeg)) zs) ((nn + (-1)) + 1) (lf - ((zs.2.1 26) ((m1s ((zs.2.1 36) ((nn + (-1)).toNatClampNeg))).toNatClampNeg))))
            else
              some (zs, (m1s ((zs.2.1 36) ((nn + (-1)).toNatClampNeg))))
          else
            none
        else
          (match sM_isLeft zs ((zs.2.1 36) ((nn + (-1)).toNatClampNeg)) (zs.1 34) (zs.1 35) with
          | none => none
          | some r_17 => if r_17 = 0 then
              if vpin ((zs.2.1 36) ((nn + (-1)).toNatClampNeg)) 4200 then
                if ((zs.2.1 23) (((zs.2.1 36) ((nn + (-1)).toNatClampNeg)).toNatClampNeg)) < 0 then
                  sNoL m1s n (mI 36 (nn + (-1)) (m1s ((zs.2.1 36) ((nn + (-1)).toNatClampNeg))) zs) ((nn + (-1)) + 1) lf
                else
                  if vpin ((nn + (-1)) + 1) 8600 then
                    sNoL m1s n (mI 36 ((nn + (-1)) + 1) ((zs.2.1 23) (((zs.2.1 36) ((nn + (-1)).toNatClampNeg)).toNatClampNeg)) (mI 36 (nn + (-1)) (m1s ((zs.2.1 36) ((nn + (-1)).toNatClampNeg))) zs)) (((nn + (-1)) + 1) + 1) lf
                  else
                    none
              else
                none
            else
              if vpin ((zs.2.1 36) ((nn + (-1)).toNatClampNeg)) 4200 then
                if ((zs.2.1 22) (((zs.2.1 36) ((nn + (-1)).toNatClampNeg)).toNatClampNeg)) < 0 then
                  sNoL m1s n (mI 36 (nn + (-1)) (m1s ((zs.2.1 36) ((nn + (-1)).toNatClampNeg))) zs) ((nn + (-1)) + 1) lf
                else
                  if vpin ((nn + (-1)) + 1) 8600 then
                    sNoL m1s n (mI 36 ((nn + (-1)) + 1) ((zs.2.1 22) (((zs.2.1 36) ((nn + (-1)).toNatClampNeg)).toNatClampNeg)) (mI 36 (nn + (-1)) (m1s ((zs.2.1 36) ((nn + (-1)).toNatClampNeg))) zs)) (((nn + (-1)) + 1) + 1) lf
                  else
                    none
              else
                none)
      else
        none
def sM_nodeOf (m1s : Int32 → Int32) (mz : MSt) (i : Int32) (N9 : Nat) : Option (MSt × Int32) :=
  if vpin 0 8600 then
    if ((mI 36 0 0 mz).1 28) ≤ 0 then
      sNoL m1s N9 (mI 36 0 0 mz) 0 i
    else
      sNoL m1s N9 (mI 36 0 0 mz) 1 i
  else
    none

set_option maxHeartbeats 4000000 in
set_option maxRecDepth 100000 in
theorem cM_nodeOf (m1s : Int32 → Int32) (m1s_eq : ∀ x, m1s x = -1 - x) (l : Launch) (g : CX) (sz : Nat) (aM : Nat) (b : Nat → Nat) (mz : MSt) (i : Int32) (N9 : Nat) (r0 : MSt × Int32) (hok : sM_nodeOf m1s mz i N9 = some r0) : Met l yM_nodeOf (wm yM_nodeOf kM_nodeOf 7 (some .int)) ({ frames := 3, cells := 0, slots := 0, locals := 75 }) (rw g [.ref aM, .int i] (mX g aM b mz) sz) (va_Qi (fun (r : Int32) (_u : Unit) => r = r0.2) (rB g (va_A (mX g aM b mz) sz) (fun _u => (mX g aM b r0.1))) (va_A (mX g aM b mz) sz)) 0 0 (va_A (mX g aM b mz) sz) := by
  refine Met.ofW (cc := kM_nodeOf) (maxL := 7) (ret := (some .int)) (by decide) rfl ?_
  intro p e s m args below meth c s₁ B hml hv
  obtain ⟨rfl, hsz, hK, hP, hD0⟩ := hv
  have hx := B.exec
  have hb := B.bytes
  have hr := B.returns
  have ht : ∀ w ∈ wT, w.before _ s = true := fun w h => atoms_spec (ws := wm yM_nodeOf kM_nodeOf 7 (some .int)) B.pre w (List.mem_cons_of_mem _ h)
  have hown : s.vm.findClass "NodeMakerModel" = some m.cls := findClass_of_methodNamed B.named
  have hlocks := B.notSynchronized
  subst hsz
  have hD := hD0.self (sz := s.heap.size)
  generalize hAe : va_A (mX g aM b mz) s.heap.size = A at hD ⊢
  have hA : ∀ q : Nat, s.heap.size ≤ q → A q := fun q h => by rw [← hAe]; exact Or.inr h
  have hS : va_S A s.heap s.heap [] := va_S.rf
  have hl := lv_entry ([.ref aM, .int i]) (n := 7) (Nat.le_of_ble_eq_true rfl)
  rw [lg_entry_eq]
  generalize (lg_sl ([.ref aM, .int i]) ++ List.replicate (7 - (lg_sl ([.ref aM, .int i])).length) Slot.unset).toArray = ls at hl ⊢
  have hl : lv_has ls 7 [(0, .ref aM), (1, .int i)] := hl
  refine lv_iconst (v := 0) hx hb dM_nodeOf_0 (by decide) ?_
  refine lv_istore_n (lv' := [(2, .int 0), (0, .ref aM), (1, .int i)]) hx hb dM_nodeOf_1 rfl hl (by decide) rfl (fun ls hl => ?_)
  refine lv_iload_n hx hb dM_nodeOf_2 rfl (lv_at hl 2 rfl) ?_
  refine lv_istore_n (lv' := [(3, .int i), (2, .int 0), (0, .ref aM), (1, .int i)]) hx hb dM_nodeOf_3 rfl hl (by decide) rfl (fun ls hl => ?_)
  refine lv_aload_n hx hb dM_nodeOf_4 rfl (lv_at hl 2 rfl) ?_
  refine va_get (D := g.1) (ci := 6) (v := .ref (b 36)) (C := "NodeMakerModel") (T := Fd_M) (N := 37) hx hb ht i_M hown hK.1 hP 0 rfl rfl 36 (by decide) (ht _ q_561) (fun _ h9 => h9) rfl dM_nodeOf_5 ?_
  refine lv_iconst (v := 0) hx hb dM_nodeOf_8 (by decide) ?_
  refine lv_iconst (v := 0) hx hb dM_nodeOf_9 (by decide) ?_
  have h_1 : vpin 0 8600 := Decidable.byContradiction (fun h9 => by simp only [sM_nodeOf, if_neg h9] at hok; cases hok)
  refine va_iast hx hb hK.1 hP hD hS 24 0 rfl rfl (vp_in_iff.mpr h_1) dM_nodeOf_10 (fun H locs hP hD hS => ?_)
  have hP : va_P g.1 vwCl (mX g aM b (mI 36 0 0 mz)) H := hP
  have hD : va_D A (mX g aM b (mI 36 0 0 mz)) := hD
  simp only [sM_nodeOf, if_pos h_1] at hok
  obtain ⟨z_2, ez_2⟩ : ∃ x9, x9 = mI 36 0 0 mz := ⟨_, rfl⟩
  rw [← ez_2] at hP hD hok
  refine lv_aload_n hx hb dM_nodeOf_11 rfl (lv_at hl 2 rfl) ?_
  refine va_get (D := g.1) (ci := 6) (v := .int (z_2.1 28)) (C := "NodeMakerModel") (T := Fd_M) (N := 37) hx hb ht i_M hown hK.1 hP 0 rfl rfl 28 (by decide) (ht _ q_553) (fun _ h9 => h9) rfl dM_nodeOf_12 ?_
  refine lv_if_le (tgt := 22) hx hb dM_nodeOf_15 (by decide) (fun c_3 => ?_) (fun c_3 => ?_)
  · skip
    refine lv_iconst (v := 0) hx hb dM_nodeOf_22 (by decide) ?_
    refine lv_istore_n (lv' := [(2, .int 0), (3, .int i), (0, .ref aM), (1, .int i)]) hx hb dM_nodeOf_23 rfl hl (by decide) rfl (fun ls hl => ?_)
    simp only [if_pos c_3] at hok
    have loop24 : ∀ (n : Nat) (zs : MSt) (nn : Int32) (lf : Int32) (H : Heap) (locs : List Loc) (ls : Array Slot), sNoL m1s n zs nn lf = some r0 → va_P g.1 vwCl (mX g aM b zs) H → va_D A (mX g aM b zs) → va_S A s.heap H locs → lv_has ls 7 [(2, .int nn), (3, .int lf), (0, .ref aM)] → W p l e (headSpec (wm yM_nodeOf kM_nodeOf 7 (some .int)) ({ frames := 3, cells := 0, slots := 0, locals := 75 })).room s m ([.ref aM, .int i] : List Value).toArray below meth c H locs (0) (0) (MQ below (va_Qi (fun (r : Int32) (_u : Unit) => r = r0.2) (rB g A (fun _u => (mX g aM b r0.1))) A) ([.ref aM, .int i] : List Value).toArray s 0 0 A) (F0 m 24 ls []) := by
      intro n24
      induction n24 with
      | zero => intro zs nn lf H locs ls hL24 hP hD hS hl; cases hL24
      | succ n24 ih24 =>
        intro zs nn lf H locs ls hL24 hP hD hS hl
        refine lv_iload_n hx hb dM_nodeOf_24 rfl (lv_at hl 0 rfl) ?_
        refine lv_if_le (tgt := 197) hx hb dM_nodeOf_25 (by decide) (fun c_4 => ?_) (fun c_4 => ?_)
        · skip
          refine lv_iconst (v := -1) hx hb dM_nodeOf_197 (by decide) ?_
          simp only [sNoL, if_pos c_4] at hL24
          have hF := Option.some.inj hL24
          subst hF
          exact W.iret hx hb hr (fun t ht9 hW => ⟨⟨_, (), rfl, rfl, by rw [ht9]; exact hP, hD⟩, hS.F ht9⟩) hS.2.2 dM_nodeOf_198
        · skip
          refine lv_iinc (v := nn + (-1)) (lv' := [(2, .int (nn + (-1))), (3, .int lf), (0, .ref aM)]) hx hb dM_nodeOf_28 hl (k := 0) rfl rfl (by decide) rfl (fun ls hl => ?_)
          refine lv_aload_n hx hb dM_nodeOf_31 rfl (lv_at hl 2 rfl) ?_
          refine va_get (D := g.1) (ci := 6) (v := .ref (b 36)) (C := "NodeMakerModel") (T := Fd_M) (N := 37) hx hb ht i_M hown hK.1 hP 0 rfl rfl 36 (by decide) (ht _ q_561) (fun _ h9 => h9) rfl dM_nodeOf_32 ?_
          refine lv_iload_n hx hb dM_nodeOf_35 rfl (lv_at hl 0 rfl) ?_
          have h_5 : vpin (nn + (-1)) 8600 := Decidable.byContradiction (fun h9 => by simp only [sNoL, if_neg c_4, if_neg h9] at hL24; cases hL24)
          refine va_iald hx hb hK.1 hP 24 0 rfl rfl (vp_in_iff.mpr h_5) dM_nodeOf_36 ?_
          refine lv_istore (lv' := [(4, .int ((zs.2.1 36) ((nn + (-1)).toNatClampNeg))), (2, .int (nn + (-1))), (3, .int lf), (0, .ref aM)]) hx hb dM_nodeOf_37 hl (by decide) rfl (fun ls hl => ?_)
          refine lv_iload hx hb dM_nodeOf_39 (lv_at hl 0 rfl) ?_
          refine lv_if_lt (tgt := 112) hx hb dM_nodeOf_41 (by decide) (fun c_6 => ?_) (fun c_6 => ?_)
          · skip
            refine lv_iconst (v := -1) hx hb dM_nodeOf_112 (by decide) ?_
            refine lv_iload hx hb dM_nodeOf_113 (lv_at hl 0 rfl) ?_
            refine lv_isub hx hb dM_nodeOf_115 ?_
            refine lv_topi (fun x_7 ex_7 => ?_)
            obtain rfl : x_7 = m1s ((zs.2.1 36) ((nn + (-1)).toNatClampNeg)) := ex_7.trans (m1s_eq _).symm
            refine lv_istore (lv' := [(5, .int (m1s ((zs.2.1 36) ((nn + (-1)).toNatClampNeg)))), (4, .int ((zs.2.1 36) ((nn + (-1)).toNatClampNeg))), (2, .int (nn + (-1))), (3, .int lf), (0, .ref aM)]) hx hb dM_nodeOf_116 hl (by decide) rfl (fun ls hl => ?_)
            refine lv_iload_n hx hb dM_nodeOf_118 rfl (lv_at hl 3 rfl) ?_
            refine lv_aload_n hx hb dM_nodeOf_119 rfl (lv_at hl 4 rfl) ?_
            refine va_get (D := g.1) (ci := 6) (v := .ref (b 26)) (C := "NodeMakerModel") (T := Fd_M) (N := 37) hx hb ht i_M hown hK.1 hP 0 rfl rfl 26 (by decide) (ht _ q_551) (fun _ h9 => h9) rfl dM_nodeOf_120 ?_
            refine lv_iload hx hb dM_nodeOf_123 (lv_at hl 0 rfl) ?_
            have h_8 : vpin (m1s ((zs.2.1 36) ((nn + (-1)).toNatClampNeg))) 4200 := Decidable.byContradiction (fun h9 => by simp only [sNoL, if_neg c_4, if_pos h_5, if_pos c_6, if_neg h9] at hL24; cases hL24)
            refine va_iald hx hb hK.1 hP 21 0 rfl rfl (vp_in_iff.mpr h_8) dM_nodeOf_125 ?_
            refine lv_icmp_ge (tgt := 132) hx hb dM_nodeOf_126 (by decide) (fun c_9 => ?_) (fun c_9 => ?_)
            · skip
              refine lv_iload_n hx hb dM_nodeOf_132 rfl (lv_at hl 3 rfl) ?_
              refine lv_aload_n hx hb dM_nodeOf_133 rfl (lv_at hl 4 rfl) ?_
              refine va_get (D := g.1) (ci := 6) (v := .ref (b 26)) (C := "NodeMakerModel") (T := Fd_M) (N := 37) hx hb ht i_M hown hK.1 hP 0 rfl rfl 26 (by decide) (ht _ q_551) (fun _ h9 => h9) rfl dM_nodeOf_134 ?_
              refine lv_iload hx hb dM_nodeOf_137 (lv_at hl 0 rfl) ?_
              refine va_iald hx hb hK.1 hP 21 0 rfl rfl (vp_in_iff.mpr h_8) dM_nodeOf_139 ?_
              refine lv_isub hx hb dM_nodeOf_140 ?_
              refine lv_istore_n (lv' := [(3, .int (lf - ((zs.2.1 26) ((m1s ((zs.2.1 36) ((nn + (-1)).toNatClampNeg))).toNatClampNeg)))), (5, .int (m1s ((zs.2.1 36) ((nn + (-1)).toNatClampNeg)))), (4, .int ((zs.2.1 36) ((nn + (-1)).toNatClampNeg))), (2, .int (nn + (-1))), (0, .ref aM)]) hx hb dM_nodeOf_141 rfl hl (by decide) rfl (fun ls hl => ?_)
              refine lv_aload_n hx hb dM_nodeOf_142 rfl (lv_at hl 4 rfl) ?_
              refine lv_iload hx hb dM_nodeOf_143 (lv_at hl 1 rfl) ?_
              refine lv_aload_n hx hb dM_nodeOf_145 rfl (lv_at hl 4 rfl) ?_
              refine va_get (D := g.1) (ci := 6) (v := .int (zs.1 34)) (C := "NodeMakerModel") (T := Fd_M) (N := 37) hx hb ht i_M hown hK.1 hP 0 rfl rfl 34 (by decide) (ht _ q_559) (fun _ h9 => h9) rfl dM_nodeOf_146 ?_
              refine lv_aload_n hx hb dM_nodeOf_149 rfl (lv_at hl 4 rfl) ?_
              refine va_get (D := g.1) (ci := 6) (v := .int (zs.1 35)) (C := "NodeMakerModel") (T := Fd_M) (N := 37) hx hb ht i_M hown hK.1 hP 0 rfl rfl 35 (by decide) (ht _ q_560) (fun _ h9 => h9) rfl dM_nodeOf_150 ?_
              obtain ⟨r_10, hc_11⟩ : ∃ r9, sM_isLeft zs (m1s ((zs.2.1 36) ((nn + (-1)).toNatClampNeg))) (zs.1 34) (zs.1 35) = some r9 := by
                cases hc9 : sM_isLeft zs (m1s ((zs.2.1 36) ((nn + (-1)).toNatClampNeg))) (zs.1 34) (zs.1 35) with
                | some r9 => exact ⟨r9, rfl⟩
                | none => exfalso; simp only [sNoL, if_neg c_4, if_pos h_5, if_pos c_6, if_pos h_8, if_pos c_9, hc9] at hL24; cases hL24
              refine ro_Vi (v := r_10) (As := [.int (m1s ((zs.2.1 36) ((nn + (-1)).toNatClampNeg))), .int (zs.1 34), .int (zs.1 35)]) (rest := []) ⟨hx, hb, hml, hown, ht⟩ (cM_isLeft l g aM b zs (m1s ((zs.2.1 36) ((nn + (-1)).toNatClampNeg))) (zs.1 34) (zs.1 35) r_10 hc_11) (cwV 3 ht (g_V q_765 q_767 q_30 q_39 q_768) rfl rfl rfl hd_M_isLeft ⟨Nat.le_of_ble_eq_true rfl, Nat.le_of_ble_eq_true rfl⟩) hK (hP) (va_recv hK.1 hP (ci := 6) (q0 := 0) rfl rfl) rfl hl.1 rfl (Nat.le_of_ble_eq_true rfl) dM_nodeOf_153 ⟨Nat.zero_le _, Nat.zero_le _⟩ ?_
              refine lv_if_eq (tgt := 169) hx hb dM_nodeOf_156 (by decide) (fun c_12 => ?_) (fun c_12 => ?_)
              · skip
                refine lv_aload_n hx hb dM_nodeOf_169 rfl (lv_at hl 4 rfl) ?_
                refine va_get (D := g.1) (ci := 6) (v := .ref (b 22)) (C := "NodeMakerModel") (T := Fd_M) (N := 37) hx hb ht i_M hown hK.1 hP 0 rfl rfl 22 (by decide) (ht _ q_547) (fun _ h9 => h9) rfl dM_nodeOf_170 ?_
                refine lv_iload hx hb dM_nodeOf_173 (lv_at hl 1 rfl) ?_
                refine va_iald hx hb hK.1 hP 17 0 rfl rfl (vp_in_iff.mpr h_8) dM_nodeOf_175 ?_
                refine lv_istore (lv' := [(6, .int ((zs.2.1 22) ((m1s ((zs.2.1 36) ((nn + (-1)).toNatClampNeg))).toNatClampNeg))), (3, .int (lf - ((zs.2.1 26) ((m1s ((zs.2.1 36) ((nn + (-1)).toNatClampNeg))).toNatClampNeg)))), (5, .int (m1s ((zs.2.1 36) ((nn + (-1)).toNatClampNeg)))), (4, .int ((zs.2.1 36) ((nn + (-1)).toNatClampNeg))), (2, .int (nn + (-1))), (0, .ref aM)]) hx hb dM_nodeOf_176 hl (by decide) rfl (fun ls hl => ?_)
                refine lv_iload hx hb dM_nodeOf_178 (lv_at hl 0 rfl) ?_
                refine lv_if_lt (tgt := 194) hx hb dM_nodeOf_180 (by decide) (fun c_13 => ?_) (fun c_13 => ?_)
                · skip
                  refine lv_goto (tgt := 24) hx hb dM_nodeOf_194 (by decide) ?_
                  simp only [sNoL, if_neg c_4, if_pos h_5, if_pos c_6, if_pos h_8, if_pos c_9, hc_11, if_pos c_12, if_pos c_13] at hL24
                  exact ih24 zs (nn + (-1)) (lf - ((zs.2.1 26) ((m1s ((zs.2.1 36) ((nn + (-1)).toNatClampNeg))).toNatClampNeg))) _ _ ls hL24 hP hD hS (lv_sub hl [4, 1, 5] rfl)
                · skip
                  refine lv_aload_n hx hb dM_nodeOf_183 rfl (lv_at hl 5 rfl) ?_
                  refine va_get (D := g.1) (ci := 6) (v := .ref (b 36)) (C := "NodeMakerModel") (T := Fd_M) (N := 37) hx hb ht i_M hown hK.1 hP 0 rfl rfl 36 (by decide) (ht _ q_561) (fun _ h9 => h9) rfl dM_nodeOf_184 ?_
                  refine lv_iload_n hx hb dM_nodeOf_187 rfl (lv_at hl 4 rfl) ?_
                  refine lv_iload hx hb dM_nodeOf_188 (lv_at hl 0 rfl) ?_
                  refine va_iast hx hb hK.1 hP hD hS 24 0 rfl rfl (vp_in_iff.mpr h_5) dM_nodeOf_190 (fun H locs hP hD hS => ?_)
                  have hP : va_P g.1 vwCl (mX g aM b (mI 36 (nn + (-1)) ((zs.2.1 22) ((m1s ((zs.2.1 36) ((nn + (-1)).toNatClampNeg))).toNatClampNeg)) zs)) H := hP
                  have hD : va_D A (mX g aM b (mI 36 (nn + (-1)) ((zs.2.1 22) ((m1s ((zs.2.1 36) ((nn + (-1)).toNatClampNeg))).toNatClampNeg)) zs)) := hD
                  simp only [sNoL, if_neg c_4, if_pos h_5, if_pos c_6, if_pos h_8, if_pos c_9, hc_11, if_pos c_12, if_neg c_13] at hL24
                  obtain ⟨z_14, ez_14⟩ : ∃ x9, x9 = mI 36 (nn + (-1)) ((zs.2.1 22) ((m1s ((zs.2.1 36) ((nn + (-1)).toNatClampNeg))).toNatClampNeg)) zs := ⟨_, rfl⟩
                  rw [← ez_14] at hP hD hL24
                  refine lv_iinc (v := (nn + (-1)) + 1) (lv' := [(2, .int ((nn + (-1)) + 1)), (6, .int ((zs.2.1 22) ((m1s ((zs.2.1 36) ((nn + (-1)).toNatClampNeg))).toNatClampNeg))), (3, .int (lf - ((zs.2.1 26) ((m1s ((zs.2.1 36) ((nn + (-1)).toNatClampNeg))).toNatClampNeg)))), (5, .int (m1s ((zs.2.1 36) ((nn + (-1)).toNatClampNeg)))), (4, .int ((zs.2.1 36) ((nn + (-1)).toNatClampNeg))), (0, .ref aM)]) hx hb dM_nodeOf_191 hl (k := 4) rfl rfl (by decide) rfl (fun ls hl => ?_)
                  refine lv_goto (tgt := 24) hx hb dM_nodeOf_194 (by decide) ?_
                  exact ih24 z_14 ((nn + (-1)) + 1) (lf - ((zs.2.1 26) ((m1s ((zs.2.1 36) ((nn + (-1)).toNatClampNeg))).toNatClampNeg))) _ _ ls hL24 hP hD hS (lv_sub hl [0, 2, 5] rfl)
              · skip
                refine lv_aload_n hx hb dM_nodeOf_159 rfl (lv_at hl 4 rfl) ?_
                refine va_get (D := g.1) (ci := 6) (v := .ref (b 23)) (C := "NodeMakerModel") (T := Fd_M) (N := 37) hx hb ht i_M hown hK.1 hP 0 rfl rfl 23 (by decide) (ht _ q_548) (fun _ h9 => h9) rfl dM_nodeOf_160 ?_
                refine lv_iload hx hb dM_nodeOf_163 (lv_at hl 1 rfl) ?_
                refine va_iald hx hb hK.1 hP 18 0 rfl rfl (vp_in_iff.mpr h_8) dM_nodeOf_165 ?_
                refine lv_goto (tgt := 176) hx hb dM_nodeOf_166 (by decide) ?_
                refine lv_istore (lv' := [(6, .int ((zs.2.1 23) ((m1s ((zs.2.1 36) ((nn + (-1)).toNatClampNeg))).toNatClampNeg))), (3, .int (lf - ((zs.2.1 26) ((m1s ((zs.2.1 36) ((nn + (-1)).toNatClampNeg))).toNatClampNeg)))), (5, .int (m1s ((zs.2.1 36) ((nn + (-1)).toNatClampNeg)))), (4, .int ((zs.2.1 36) ((nn + (-1)).toNatClampNeg))), (2, .int (nn + (-1))), (0, .ref aM)]) hx hb dM_nodeOf_176 hl (by decide) rfl (fun ls hl => ?_)
                refine lv_iload hx hb dM_nodeOf_178 (lv_at hl 0 rfl) ?_
                refine lv_if_lt (tgt := 194) hx hb dM_nodeOf_180 (by decide) (fun c_15 => ?_) (fun c_15 => ?_)
                · skip
                  refine lv_goto (tgt := 24) hx hb dM_nodeOf_194 (by decide) ?_
                  simp only [sNoL, if_neg c_4, if_pos h_5, if_pos c_6, if_pos h_8, if_pos c_9, hc_11, if_neg c_12, if_pos c_15] at hL24
                  exact ih24 zs (nn + (-1)) (lf - ((zs.2.1 26) ((m1s ((zs.2.1 36) ((nn + (-1)).toNatClampNeg))).toNatClampNeg))) _ _ ls hL24 hP hD hS (lv_sub hl [4, 1, 5] rfl)
                · skip
                  refine lv_aload_n hx hb dM_nodeOf_183 rfl (lv_at hl 5 rfl) ?_
                  refine va_get (D := g.1) (ci := 6) (v := .ref (b 36)) (C := "NodeMakerModel") (T := Fd_M) (N := 37) hx hb ht i_M hown hK.1 hP 0 rfl rfl 36 (by decide) (ht _ q_561) (fun _ h9 => h9) rfl dM_nodeOf_184 ?_
                  refine lv_iload_n hx hb dM_nodeOf_187 rfl (lv_at hl 4 rfl) ?_
                  refine lv_iload hx hb dM_nodeOf_188 (lv_at hl 0 rfl) ?_
                  refine va_iast hx hb hK.1 hP hD hS 24 0 rfl rfl (vp_in_iff.mpr h_5) dM_nodeOf_190 (fun H locs hP hD hS => ?_)
                  have hP : va_P g.1 vwCl (mX g aM b (mI 36 (nn + (-1)) ((zs.2.1 23) ((m1s ((zs.2.1 36) ((nn + (-1)).toNatClampNeg))).toNatClampNeg)) zs)) H := hP
                  have hD : va_D A (mX g aM b (mI 36 (nn + (-1)) ((zs.2.1 23) ((m1s ((zs.2.1 36) ((nn + (-1)).toNatClampNeg))).toNatClampNeg)) zs)) := hD
                  simp only [sNoL, if_neg c_4, if_pos h_5, if_pos c_6, if_pos h_8, if_pos c_9, hc_11, if_neg c_12, if_neg c_15] at hL24
                  obtain ⟨z_16, ez_16⟩ : ∃ x9, x9 = mI 36 (nn + (-1)) ((zs.2.1 23) ((m1s ((zs.2.1 36) ((nn + (-1)).toNatClampNeg))).toNatClampNeg)) zs := ⟨_, rfl⟩
                  rw [← ez_16] at hP hD hL24
                  refine lv_iinc (v := (nn + (-1)) + 1) (lv' := [(2, .int ((nn + (-1)) + 1)), (6, .int ((zs.2.1 23) ((m1s ((zs.2.1 36) ((nn + (-1)).toNatClampNeg))).toNatClampNeg))), (3, .int (lf - ((zs.2.1 26) ((m1s ((zs.2.1 36) ((nn + (-1)).toNatClampNeg))).toNatClampNeg)))), (5, .int (m1s ((zs.2.1 36) ((nn + (-1)).toNatClampNeg)))), (4, .int ((zs.2.1 36) ((nn + (-1)).toNatClampNeg))), (0, .ref aM)]) hx hb dM_nodeOf_191 hl (k := 4) rfl rfl (by decide) rfl (fun ls hl => ?_)
                  refine lv_goto (tgt := 24) hx hb dM_nodeOf_194 (by decide) ?_
                  exact ih24 z_16 ((nn + (-1)) + 1) (lf - ((zs.2.1 26) ((m1s ((zs.2.1 36) ((nn + (-1)).toNatClampNeg))).toNatClampNeg))) _ _ ls hL24 hP hD hS (lv_sub hl [0, 2, 5] rfl)
            · skip
              refine lv_iload hx hb dM_nodeOf_129 (lv_at hl 0 rfl) ?_
              simp only [sNoL, if_neg c_4, if_pos h_5, if_pos c_6, if_pos h_8, if_neg c_9] at hL24
              have hF := Option.some.inj hL24
              subst hF
              exact W.iret hx hb hr (fun t ht9 hW => ⟨⟨_, (), rfl, rfl, by rw [ht9]; exact hP, hD⟩, hS.F ht9⟩) hS.2.2 dM_nodeOf_131
          · skip
            refine lv_aload_n hx hb dM_nodeOf_44 rfl (lv_at hl 3 rfl) ?_
            refine lv_iload hx hb dM_nodeOf_45 (lv_at hl 0 rfl) ?_
            refine lv_aload_n hx hb dM_nodeOf_47 rfl (lv_at hl 3 rfl) ?_
            refine va_get (D := g.1) (ci := 6) (v := .int (zs.1 34)) (C := "NodeMakerModel") (T := Fd_M) (N := 37) hx hb ht i_M hown hK.1 hP 0 rfl rfl 34 (by decide) (ht _ q_559) (fun _ h9 => h9) rfl dM_nodeOf_48 ?_
            refine lv_aload_n hx hb dM_nodeOf_51 rfl (lv_at hl 3 rfl) ?_
            refine va_get (D := g.1) (ci := 6) (v := .int (zs.1 35)) (C := "NodeMakerModel") (T := Fd_M) (N := 37) hx hb ht i_M hown hK.1 hP 0 rfl rfl 35 (by decide) (ht _ q_560) (fun _ h9 => h9) rfl dM_nodeOf_52 ?_
            obtain ⟨r_17, hc_18⟩ : ∃ r9, sM_isLeft zs ((zs.2.1 36) ((nn + (-1)).toNatClampNeg)) (zs.1 34) (zs.1 35) = some r9 := by
              cases hc9 : sM_isLeft zs ((zs.2.1 36) ((nn + (-1)).toNatClampNeg)) (zs.1 34) (zs.1 35) with
              | some r9 => exact ⟨r9, rfl⟩
              | none => exfalso; simp only [sNoL, if_neg c_4, if_pos h_5, if_neg c_6, hc9] at hL24; cases hL24
            refine ro_Vi (v := r_17) (As := [.int ((zs.2.1 36) ((nn + (-1)).toNatClampNeg)), .int (zs.1 34), .int (zs.1 35)]) (rest := []) ⟨hx, hb, hml, hown, ht⟩ (cM_isLeft l g aM b zs ((zs.2.1 36) ((nn + (-1)).toNatClampNeg)) (zs.1 34) (zs.1 35) r_17 hc_18) (cwV 3 ht (g_V q_765 q_767 q_30 q_39 q_768) rfl rfl rfl hd_M_isLeft ⟨Nat.le_of_ble_eq_true rfl, Nat.le_of_ble_eq_true rfl⟩) hK (hP) (va_recv hK.1 hP (ci := 6) (q0 := 0) rfl rfl) rfl hl.1 rfl (Nat.le_of_ble_eq_true rfl) dM_nodeOf_55 ⟨Nat.zero_le _, Nat.zero_le _⟩ ?_
            refine lv_if_eq (tgt := 71) hx hb dM_nodeOf_58 (by decide) (fun c_19 => ?_) (fun c_19 => ?_)
            · skip
              refine lv_aload_n hx hb dM_nodeOf_71 rfl (lv_at hl 3 rfl) ?_
              refine va_get (D := g.1) (ci := 6) (v := .ref (b 23)) (C := "NodeMakerModel") (T := Fd_M) (N := 37) hx hb ht i_M hown hK.1 hP 0 rfl rfl 23 (by decide) (ht _ q_548) (fun _ h9 => h9) rfl dM_nodeOf_72 ?_
              refine lv_iload hx hb dM_nodeOf_75 (lv_at hl 0 rfl) ?_
              have h_20 : vpin ((zs.2.1 36) ((nn + (-1)).toNatClampNeg)) 4200 := Decidable.byContradiction (fun h9 => by simp only [sNoL, if_neg c_4, if_pos h_5, if_neg c_6, hc_18, if_pos c_19, if_neg h9] at hL24; cases hL24)
              refine va_iald hx hb hK.1 hP 18 0 rfl rfl (vp_in_iff.mpr h_20) dM_nodeOf_77 ?_
              refine lv_istore (lv' := [(5, .int ((zs.2.1 23) (((zs.2.1 36) ((nn + (-1)).toNatClampNeg)).toNatClampNeg))), (4, .int ((zs.2.1 36) ((nn + (-1)).toNatClampNeg))), (2, .int (nn + (-1))), (3, .int lf), (0, .ref aM)]) hx hb dM_nodeOf_78 hl (by decide) rfl (fun ls hl => ?_)
              refine lv_aload_n hx hb dM_nodeOf_80 rfl (lv_at hl 4 rfl) ?_
              refine va_get (D := g.1) (ci := 6) (v := .ref (b 36)) (C := "NodeMakerModel") (T := Fd_M) (N := 37) hx hb ht i_M hown hK.1 hP 0 rfl rfl 36 (by decide) (ht _ q_561) (fun _ h9 => h9) rfl dM_nodeOf_81 ?_
              refine lv_iload_n hx hb dM_nodeOf_84 rfl (lv_at hl 2 rfl) ?_
              refine lv_iconst (v := -1) hx hb dM_nodeOf_85 (by decide) ?_
              refine lv_iload hx hb dM_nodeOf_86 (lv_at hl 1 rfl) ?_
              refine lv_isub hx hb dM_nodeOf_88 ?_
              refine lv_topi (fun x_21 ex_21 => ?_)
              obtain rfl : x_21 = m1s ((zs.2.1 36) ((nn + (-1)).toNatClampNeg)) := ex_21.trans (m1s_eq _).symm
              refine va_iast hx hb hK.1 hP hD hS 24 0 rfl rfl (vp_in_iff.mpr h_5) dM_nodeOf_89 (fun H locs hP hD hS => ?_)
              have hP : va_P g.1 vwCl (mX g aM b (mI 36 (nn + (-1)) (m1s ((zs.2.1 36) ((nn + (-1)).toNatClampNeg))) zs)) H := hP
              have hD : va_D A (mX g aM b (mI 36 (nn + (-1)) (m1s ((zs.2.1 36) ((nn + (-1)).toNatClampNeg))) zs)) := hD
              simp only [sNoL, if_neg c_4, if_pos h_5, if_neg c_6, hc_18, if_pos c_19, if_pos h_20] at hL24
              obtain ⟨z_22, ez_22⟩ : ∃ x9, x9 = mI 36 (nn + (-1)) (m1s ((zs.2.1 36) ((nn + (-1)).toNatClampNeg))) zs := ⟨_, rfl⟩
              rw [← ez_22] at hP hD hL24
              refine lv_iinc (v := (nn + (-1)) + 1) (lv' := [(2, .int ((nn + (-1)) + 1)), (5, .int ((zs.2.1 23) (((zs.2.1 36) ((nn + (-1)).toNatClampNeg)).toNatClampNeg))), (4, .int ((zs.2.1 36) ((nn + (-1)).toNatClampNeg))), (3, .int lf), (0, .ref aM)]) hx hb dM_nodeOf_90 hl (k := 2) rfl rfl (by decide) rfl (fun ls hl => ?_)
              refine lv_iload hx hb dM_nodeOf_93 (lv_at hl 1 rfl) ?_
              refine lv_if_lt (tgt := 109) hx hb dM_nodeOf_95 (by decide) (fun c_23 => ?_) (fun c_23 => ?_)
              · skip
                refine lv_goto (tgt := 194) hx hb dM_nodeOf_109 (by decide) ?_
                refine lv_goto (tgt := 24) hx hb dM_nodeOf_194 (by decide) ?_
                simp only [if_pos c_23] at hL24
                exact ih24 z_22 ((nn + (-1)) + 1) lf _ _ ls hL24 hP hD hS (lv_sub hl [0, 3, 4] rfl)
              · skip
                refine lv_aload_n hx hb dM_nodeOf_98 rfl (lv_at hl 4 rfl) ?_
                refine va_get (D := g.1) (ci := 6) (v := .ref (b 36)) (C := "NodeMakerModel") (T := Fd_M) (N := 37) hx hb ht i_M hown hK.1 hP 0 rfl rfl 36 (by decide) (ht _ q_561) (fun _ h9 => h9) rfl dM_nodeOf_99 ?_
                refine lv_iload_n hx hb dM_nodeOf_102 rfl (lv_at hl 0 rfl) ?_
                refine lv_iload hx hb dM_nodeOf_103 (lv_at hl 1 rfl) ?_
                have h_24 : vpin ((nn + (-1)) + 1) 8600 := Decidable.byContradiction (fun h9 => by simp only [if_neg c_23, if_neg h9] at hL24; cases hL24)
                refine va_iast hx hb hK.1 hP hD hS 24 0 rfl rfl (vp_in_iff.mpr h_24) dM_nodeOf_105 (fun H locs hP hD hS => ?_)
                have hP : va_P g.1 vwCl (mX g aM b (mI 36 ((nn + (-1)) + 1) ((zs.2.1 23) (((zs.2.1 36) ((nn + (-1)).toNatClampNeg)).toNatClampNeg)) z_22)) H := hP
                have hD : va_D A (mX g aM b (mI 36 ((nn + (-1)) + 1) ((zs.2.1 23) (((zs.2.1 36) ((nn + (-1)).toNatClampNeg)).toNatClampNeg)) z_22)) := hD
                simp only [if_neg c_23, if_pos h_24] at hL24
                obtain ⟨z_25, ez_25⟩ : ∃ x9, x9 = mI 36 ((nn + (-1)) + 1) ((zs.2.1 23) (((zs.2.1 36) ((nn + (-1)).toNatClampNeg)).toNatClampNeg)) z_22 := ⟨_, rfl⟩
                rw [← ez_25] at hP hD hL24
                refine lv_iinc (v := ((nn + (-1)) + 1) + 1) (lv' := [(2, .int (((nn + (-1)) + 1) + 1)), (5, .int ((zs.2.1 23) (((zs.2.1 36) ((nn + (-1)).toNatClampNeg)).toNatClampNeg))), (4, .int ((zs.2.1 36) ((nn + (-1)).toNatClampNeg))), (3, .int lf), (0, .ref aM)]) hx hb dM_nodeOf_106 hl (k := 0) rfl rfl (by decide) rfl (fun ls hl => ?_)
                refine lv_goto (tgt := 194) hx hb dM_nodeOf_109 (by decide) ?_
                refine lv_goto (tgt := 24) hx hb dM_nodeOf_194 (by decide) ?_
                exact ih24 z_25 (((nn + (-1)) + 1) + 1) lf _ _ ls hL24 hP hD hS (lv_sub hl [0, 3, 4] rfl)
            · skip
              refine lv_aload_n hx hb dM_nodeOf_61 rfl (lv_at hl 3 rfl) ?_
              refine va_get (D := g.1) (ci := 6) (v := .ref (b 22)) (C := "NodeMakerModel") (T := Fd_M) (N := 37) hx hb ht i_M hown hK.1 hP 0 rfl rfl 22 (by decide) (ht _ q_547) (fun _ h9 => h9) rfl dM_nodeOf_62 ?_
              refine lv_iload hx hb dM_nodeOf_65 (lv_at hl 0 rfl) ?_
              have h_26 : vpin ((zs.2.1 36) ((nn + (-1)).toNatClampNeg)) 4200 := Decidable.byContradiction (fun h9 => by simp only [sNoL, if_neg c_4, if_pos h_5, if_neg c_6, hc_18, if_neg c_19, if_neg h9] at hL24; cases hL24)
              refine va_iald hx hb hK.1 hP 17 0 rfl rfl (vp_in_iff.mpr h_26) dM_nodeOf_67 ?_
              refine lv_goto (tgt := 78) hx hb dM_nodeOf_68 (by decide) ?_
              refine lv_istore (lv' := [(5, .int ((zs.2.1 22) (((zs.2.1 36) ((nn + (-1)).toNatClampNeg)).toNatClampNeg))), (4, .int ((zs.2.1 36) ((nn + (-1)).toNatClampNeg))), (2, .int (nn + (-1))), (3, .int lf), (0, .ref aM)]) hx hb dM_nodeOf_78 hl (by decide) rfl (fun ls hl => ?_)
              refine lv_aload_n hx hb dM_nodeOf_80 rfl (lv_at hl 4 rfl) ?_
              refine va_get (D := g.1) (ci := 6) (v := .ref (b 36)) (C := "NodeMakerModel") (T := Fd_M) (N := 37) hx hb ht i_M hown hK.1 hP 0 rfl rfl 36 (by decide) (ht _ q_561) (fun _ h9 => h9) rfl dM_nodeOf_81 ?_
              refine lv_iload_n hx hb dM_nodeOf_84 rfl (lv_at hl 2 rfl) ?_
              refine lv_iconst (v := -1) hx hb dM_nodeOf_85 (by decide) ?_
              refine lv_iload hx hb dM_nodeOf_86 (lv_at hl 1 rfl) ?_
              refine lv_isub hx hb dM_nodeOf_88 ?_
              refine lv_topi (fun x_27 ex_27 => ?_)
              obtain rfl : x_27 = m1s ((zs.2.1 36) ((nn + (-1)).toNatClampNeg)) := ex_27.trans (m1s_eq _).symm
              refine va_iast hx hb hK.1 hP hD hS 24 0 rfl rfl (vp_in_iff.mpr h_5) dM_nodeOf_89 (fun H locs hP hD hS => ?_)
              have hP : va_P g.1 vwCl (mX g aM b (mI 36 (nn + (-1)) (m1s ((zs.2.1 36) ((nn + (-1)).toNatClampNeg))) zs)) H := hP
              have hD : va_D A (mX g aM b (mI 36 (nn + (-1)) (m1s ((zs.2.1 36) ((nn + (-1)).toNatClampNeg))) zs)) := hD
              simp only [sNoL, if_neg c_4, if_pos h_5, if_neg c_6, hc_18, if_neg c_19, if_pos h_26] at hL24
              obtain ⟨z_28, ez_28⟩ : ∃ x9, x9 = mI 36 (nn + (-1)) (m1s ((zs.2.1 36) ((nn + (-1)).toNatClampNeg))) zs := ⟨_, rfl⟩
              rw [← ez_28] at hP hD hL24
              refine lv_iinc (v := (nn + (-1)) + 1) (lv' := [(2, .int ((nn + (-1)) + 1)), (5, .int ((zs.2.1 22) (((zs.2.1 36) ((nn + (-1)).toNatClampNeg)).toNatClampNeg))), (4, .int ((zs.2.1 36) ((nn + (-1)).toNatClampNeg))), (3, .int lf), (0, .ref aM)]) hx hb dM_nodeOf_90 hl (k := 2) rfl rfl (by decide) rfl (fun ls hl => ?_)
              refine lv_iload hx hb dM_nodeOf_93 (lv_at hl 1 rfl) ?_
              refine lv_if_lt (tgt := 109) hx hb dM_nodeOf_95 (by decide) (fun c_29 => ?_) (fun c_29 => ?_)
              · skip
                refine lv_goto (tgt := 194) hx hb dM_nodeOf_109 (by decide) ?_
                refine lv_goto (tgt := 24) hx hb dM_nodeOf_194 (by decide) ?_
                simp only [if_pos c_29] at hL24
                exact ih24 z_28 ((nn + (-1)) + 1) lf _ _ ls hL24 hP hD hS (lv_sub hl [0, 3, 4] rfl)
              · skip
                refine lv_aload_n hx hb dM_nodeOf_98 rfl (lv_at hl 4 rfl) ?_
                refine va_get (D := g.1) (ci := 6) (v := .ref (b 36)) (C := "NodeMakerModel") (T := Fd_M) (N := 37) hx hb ht i_M hown hK.1 hP 0 rfl rfl 36 (by decide) (ht _ q_561) (fun _ h9 => h9) rfl dM_nodeOf_99 ?_
                refine lv_iload_n hx hb dM_nodeOf_102 rfl (lv_at hl 0 rfl) ?_
                refine lv_iload hx hb dM_nodeOf_103 (lv_at hl 1 rfl) ?_
                have h_30 : vpin ((nn + (-1)) + 1) 8600 := Decidable.byContradiction (fun h9 => by simp only [if_neg c_29, if_neg h9] at hL24; cases hL24)
                refine va_iast hx hb hK.1 hP hD hS 24 0 rfl rfl (vp_in_iff.mpr h_30) dM_nodeOf_105 (fun H locs hP hD hS => ?_)
                have hP : va_P g.1 vwCl (mX g aM b (mI 36 ((nn + (-1)) + 1) ((zs.2.1 22) (((zs.2.1 36) ((nn + (-1)).toNatClampNeg)).toNatClampNeg)) z_28)) H := hP
                have hD : va_D A (mX g aM b (mI 36 ((nn + (-1)) + 1) ((zs.2.1 22) (((zs.2.1 36) ((nn + (-1)).toNatClampNeg)).toNatClampNeg)) z_28)) := hD
                simp only [if_neg c_29, if_pos h_30] at hL24
                obtain ⟨z_31, ez_31⟩ : ∃ x9, x9 = mI 36 ((nn + (-1)) + 1) ((zs.2.1 22) (((zs.2.1 36) ((nn + (-1)).toNatClampNeg)).toNatClampNeg)) z_28 := ⟨_, rfl⟩
                rw [← ez_31] at hP hD hL24
                refine lv_iinc (v := ((nn + (-1)) + 1) + 1) (lv' := [(2, .int (((nn + (-1)) + 1) + 1)), (5, .int ((zs.2.1 22) (((zs.2.1 36) ((nn + (-1)).toNatClampNeg)).toNatClampNeg))), (4, .int ((zs.2.1 36) ((nn + (-1)).toNatClampNeg))), (3, .int lf), (0, .ref aM)]) hx hb dM_nodeOf_106 hl (k := 0) rfl rfl (by decide) rfl (fun ls hl => ?_)
                refine lv_goto (tgt := 194) hx hb dM_nodeOf_109 (by decide) ?_
                refine lv_goto (tgt := 24) hx hb dM_nodeOf_194 (by decide) ?_
                exact ih24 z_31 (((nn + (-1)) + 1) + 1) lf _ _ ls hL24 hP hD hS (lv_sub hl [0, 3, 4] rfl)
    exact loop24 N9 z_2 0 i _ _ ls hok hP hD hS (lv_sub hl [0, 1, 2] rfl)
  · skip
    refine lv_iconst (v := 1) hx hb dM_nodeOf_18 (by decide) ?_
    refine lv_goto (tgt := 23) hx hb dM_nodeOf_19 (by decide) ?_
    refine lv_istore_n (lv' := [(2, .int 1), (3, .int i), (0, .ref aM), (1, .int i)]) hx hb dM_nodeOf_23 rfl hl (by decide) rfl (fun ls hl => ?_)
    simp only [if_neg c_3] at hok
    have loop24 : ∀ (n : Nat) (zs : MSt) (nn : Int32) (lf : Int32) (H : Heap) (locs : List Loc) (ls : Array Slot), sNoL m1s n zs nn lf = some r0 → va_P g.1 vwCl (mX g aM b zs) H → va_D A (mX g aM b zs) → va_S A s.heap H locs → lv_has ls 7 [(2, .int nn), (3, .int lf), (0, .ref aM)] → W p l e (headSpec (wm yM_nodeOf kM_nodeOf 7 (some .int)) ({ frames := 3, cells := 0, slots := 0, locals := 75 })).room s m ([.ref aM, .int i] : List Value).toArray below meth c H locs (0) (0) (MQ below (va_Qi (fun (r : Int32) (_u : Unit) => r = r0.2) (rB g A (fun _u => (mX g aM b r0.1))) A) ([.ref aM, .int i] : List Value).toArray s 0 0 A) (F0 m 24 ls []) := by
      intro n24
      induction n24 with
      | zero => intro zs nn lf H locs ls hL24 hP hD hS hl; cases hL24
      | succ n24 ih24 =>
        intro zs nn lf H locs ls hL24 hP hD hS hl
        refine lv_iload_n hx hb dM_nodeOf_24 rfl (lv_at hl 0 rfl) ?_
        refine lv_if_le (tgt := 197) hx hb dM_nodeOf_25 (by decide) (fun c_32 => ?_) (fun c_32 => ?_)
        · skip
          refine lv_iconst (v := -1) hx hb dM_nodeOf_197 (by decide) ?_
          simp only [sNoL, if_pos c_32] at hL24
          have hF := Option.some.inj hL24
          subst hF
          exact W.iret hx hb hr (fun t ht9 hW => ⟨⟨_, (), rfl, rfl, by rw [ht9]; exact hP, hD⟩, hS.F ht9⟩) hS.2.2 dM_nodeOf_198
        · skip
          refine lv_iinc (v := nn + (-1)) (lv' := [(2, .int (nn + (-1))), (3, .int lf), (0, .ref aM)]) hx hb dM_nodeOf_28 hl (k := 0) rfl rfl (by decide) rfl (fun ls hl => ?_)
          refine lv_aload_n hx hb dM_nodeOf_31 rfl (lv_at hl 2 rfl) ?_
          refine va_get (D := g.1) (ci := 6) (v := .ref (b 36)) (C := "NodeMakerModel") (T := Fd_M) (N := 37) hx hb ht i_M hown hK.1 hP 0 rfl rfl 36 (by decide) (ht _ q_561) (fun _ h9 => h9) rfl dM_nodeOf_32 ?_
          refine lv_iload_n hx hb dM_nodeOf_35 rfl (lv_at hl 0 rfl) ?_
          have h_33 : vpin (nn + (-1)) 8600 := Decidable.byContradiction (fun h9 => by simp only [sNoL, if_neg c_32, if_neg h9] at hL24; cases hL24)
          refine va_iald hx hb hK.1 hP 24 0 rfl rfl (vp_in_iff.mpr h_33) dM_nodeOf_36 ?_
          refine lv_istore (lv' := [(4, .int ((zs.2.1 36) ((nn + (-1)).toNatClampNeg))), (2, .int (nn + (-1))), (3, .int lf), (0, .ref aM)]) hx hb dM_nodeOf_37 hl (by decide) rfl (fun ls hl => ?_)
          refine lv_iload hx hb dM_nodeOf_39 (lv_at hl 0 rfl) ?_
          refine lv_if_lt (tgt := 112) hx hb dM_nodeOf_41 (by decide) (fun c_34 => ?_) (fun c_34 => ?_)
          · skip
            refine lv_iconst (v := -1) hx hb dM_nodeOf_112 (by decide) ?_
            refine lv_iload hx hb dM_nodeOf_113 (lv_at hl 0 rfl) ?_
            refine lv_isub hx hb dM_nodeOf_115 ?_
            refine lv_topi (fun x_35 ex_35 => ?_)
            obtain rfl : x_35 = m1s ((zs.2.1 36) ((nn + (-1)).toNatClampNeg)) := ex_35.trans (m1s_eq _).symm
            refine lv_istore (lv' := [(5, .int (m1s ((zs.2.1 36) ((nn + (-1)).toNatClampNeg)))), (4, .int ((zs.2.1 36) ((nn + (-1)).toNatClampNeg))), (2, .int (nn + (-1))), (3, .int lf), (0, .ref aM)]) hx hb dM_nodeOf_116 hl (by decide) rfl (fun ls hl => ?_)
            refine lv_iload_n hx hb dM_nodeOf_118 rfl (lv_at hl 3 rfl) ?_
            refine lv_aload_n hx hb dM_nodeOf_119 rfl (lv_at hl 4 rfl) ?_
            refine va_get (D := g.1) (ci := 6) (v := .ref (b 26)) (C := "NodeMakerModel") (T := Fd_M) (N := 37) hx hb ht i_M hown hK.1 hP 0 rfl rfl 26 (by decide) (ht _ q_551) (fun _ h9 => h9) rfl dM_nodeOf_120 ?_
            refine lv_iload hx hb dM_nodeOf_123 (lv_at hl 0 rfl) ?_
            have h_36 : vpin (m1s ((zs.2.1 36) ((nn + (-1)).toNatClampNeg))) 4200 := Decidable.byContradiction (fun h9 => by simp only [sNoL, if_neg c_32, if_pos h_33, if_pos c_34, if_neg h9] at hL24; cases hL24)
            refine va_iald hx hb hK.1 hP 21 0 rfl rfl (vp_in_iff.mpr h_36) dM_nodeOf_125 ?_
            refine lv_icmp_ge (tgt := 132) hx hb dM_nodeOf_126 (by decide) (fun c_37 => ?_) (fun c_37 => ?_)
            · skip
              refine lv_iload_n hx hb dM_nodeOf_132 rfl (lv_at hl 3 rfl) ?_
              refine lv_aload_n hx hb dM_nodeOf_133 rfl (lv_at hl 4 rfl) ?_
              refine va_get (D := g.1) (ci := 6) (v := .ref (b 26)) (C := "NodeMakerModel") (T := Fd_M) (N := 37) hx hb ht i_M hown hK.1 hP 0 rfl rfl 26 (by decide) (ht _ q_551) (fun _ h9 => h9) rfl dM_nodeOf_134 ?_
              refine lv_iload hx hb dM_nodeOf_137 (lv_at hl 0 rfl) ?_
              refine va_iald hx hb hK.1 hP 21 0 rfl rfl (vp_in_iff.mpr h_36) dM_nodeOf_139 ?_
              refine lv_isub hx hb dM_nodeOf_140 ?_
              refine lv_istore_n (lv' := [(3, .int (lf - ((zs.2.1 26) ((m1s ((zs.2.1 36) ((nn + (-1)).toNatClampNeg))).toNatClampNeg)))), (5, .int (m1s ((zs.2.1 36) ((nn + (-1)).toNatClampNeg)))), (4, .int ((zs.2.1 36) ((nn + (-1)).toNatClampNeg))), (2, .int (nn + (-1))), (0, .ref aM)]) hx hb dM_nodeOf_141 rfl hl (by decide) rfl (fun ls hl => ?_)
              refine lv_aload_n hx hb dM_nodeOf_142 rfl (lv_at hl 4 rfl) ?_
              refine lv_iload hx hb dM_nodeOf_143 (lv_at hl 1 rfl) ?_
              refine lv_aload_n hx hb dM_nodeOf_145 rfl (lv_at hl 4 rfl) ?_
              refine va_get (D := g.1) (ci := 6) (v := .int (zs.1 34)) (C := "NodeMakerModel") (T := Fd_M) (N := 37) hx hb ht i_M hown hK.1 hP 0 rfl rfl 34 (by decide) (ht _ q_559) (fun _ h9 => h9) rfl dM_nodeOf_146 ?_
              refine lv_aload_n hx hb dM_nodeOf_149 rfl (lv_at hl 4 rfl) ?_
              refine va_get (D := g.1) (ci := 6) (v := .int (zs.1 35)) (C := "NodeMakerModel") (T := Fd_M) (N := 37) hx hb ht i_M hown hK.1 hP 0 rfl rfl 35 (by decide) (ht _ q_560) (fun _ h9 => h9) rfl dM_nodeOf_150 ?_
              obtain ⟨r_38, hc_39⟩ : ∃ r9, sM_isLeft zs (m1s ((zs.2.1 36) ((nn + (-1)).toNatClampNeg))) (zs.1 34) (zs.1 35) = some r9 := by
                cases hc9 : sM_isLeft zs (m1s ((zs.2.1 36) ((nn + (-1)).toNatClampNeg))) (zs.1 34) (zs.1 35) with
                | some r9 => exact ⟨r9, rfl⟩
                | none => exfalso; simp only [sNoL, if_neg c_32, if_pos h_33, if_pos c_34, if_pos h_36, if_pos c_37, hc9] at hL24; cases hL24
              refine ro_Vi (v := r_38) (As := [.int (m1s ((zs.2.1 36) ((nn + (-1)).toNatClampNeg))), .int (zs.1 34), .int (zs.1 35)]) (rest := []) ⟨hx, hb, hml, hown, ht⟩ (cM_isLeft l g aM b zs (m1s ((zs.2.1 36) ((nn + (-1)).toNatClampNeg))) (zs.1 34) (zs.1 35) r_38 hc_39) (cwV 3 ht (g_V q_765 q_767 q_30 q_39 q_768) rfl rfl rfl hd_M_isLeft ⟨Nat.le_of_ble_eq_true rfl, Nat.le_of_ble_eq_true rfl⟩) hK (hP) (va_recv hK.1 hP (ci := 6) (q0 := 0) rfl rfl) rfl hl.1 rfl (Nat.le_of_ble_eq_true rfl) dM_nodeOf_153 ⟨Nat.zero_le _, Nat.zero_le _⟩ ?_
              refine lv_if_eq (tgt := 169) hx hb dM_nodeOf_156 (by decide) (fun c_40 => ?_) (fun c_40 => ?_)
              · skip
                refine lv_aload_n hx hb dM_nodeOf_169 rfl (lv_at hl 4 rfl) ?_
                refine va_get (D := g.1) (ci := 6) (v := .ref (b 22)) (C := "NodeMakerModel") (T := Fd_M) (N := 37) hx hb ht i_M hown hK.1 hP 0 rfl rfl 22 (by decide) (ht _ q_547) (fun _ h9 => h9) rfl dM_nodeOf_170 ?_
                refine lv_iload hx hb dM_nodeOf_173 (lv_at hl 1 rfl) ?_
                refine va_iald hx hb hK.1 hP 17 0 rfl rfl (vp_in_iff.mpr h_36) dM_nodeOf_175 ?_
                refine lv_istore (lv' := [(6, .int ((zs.2.1 22) ((m1s ((zs.2.1 36) ((nn + (-1)).toNatClampNeg))).toNatClampNeg))), (3, .int (lf - ((zs.2.1 26) ((m1s ((zs.2.1 36) ((nn + (-1)).toNatClampNeg))).toNatClampNeg)))), (5, .int (m1s ((zs.2.1 36) ((nn + (-1)).toNatClampNeg)))), (4, .int ((zs.2.1 36) ((nn + (-1)).toNatClampNeg))), (2, .int (nn + (-1))), (0, .ref aM)]) hx hb dM_nodeOf_176 hl (by decide) rfl (fun ls hl => ?_)
                refine lv_iload hx hb dM_nodeOf_178 (lv_at hl 0 rfl) ?_
                refine lv_if_lt (tgt := 194) hx hb dM_nodeOf_180 (by decide) (fun c_41 => ?_) (fun c_41 => ?_)
                · skip
                  refine lv_goto (tgt := 24) hx hb dM_nodeOf_194 (by decide) ?_
                  simp only [sNoL, if_neg c_32, if_pos h_33, if_pos c_34, if_pos h_36, if_pos c_37, hc_39, if_pos c_40, if_pos c_41] at hL24
                  exact ih24 zs (nn + (-1)) (lf - ((zs.2.1 26) ((m1s ((zs.2.1 36) ((nn + (-1)).toNatClampNeg))).toNatClampNeg))) _ _ ls hL24 hP hD hS (lv_sub hl [4, 1, 5] rfl)
                · skip
                  refine lv_aload_n hx hb dM_nodeOf_183 rfl (lv_at hl 5 rfl) ?_
                  refine va_get (D := g.1) (ci := 6) (v := .ref (b 36)) (C := "NodeMakerModel") (T := Fd_M) (N := 37) hx hb ht i_M hown hK.1 hP 0 rfl rfl 36 (by decide) (ht _ q_561) (fun _ h9 => h9) rfl dM_nodeOf_184 ?_
                  refine lv_iload_n hx hb dM_nodeOf_187 rfl (lv_at hl 4 rfl) ?_
                  refine lv_iload hx hb dM_nodeOf_188 (lv_at hl 0 rfl) ?_
                  refine va_iast hx hb hK.1 hP hD hS 24 0 rfl rfl (vp_in_iff.mpr h_33) dM_nodeOf_190 (fun H locs hP hD hS => ?_)
                  have hP : va_P g.1 vwCl (mX g aM b (mI 36 (nn + (-1)) ((zs.2.1 22) ((m1s ((zs.2.1 36) ((nn + (-1)).toNatClampNeg))).toNatClampNeg)) zs)) H := hP
                  have hD : va_D A (mX g aM b (mI 36 (nn + (-1)) ((zs.2.1 22) ((m1s ((zs.2.1 36) ((nn + (-1)).toNatClampNeg))).toNatClampNeg)) zs)) := hD
                  simp only [sNoL, if_neg c_32, if_pos h_33, if_pos c_34, if_pos h_36, if_pos c_37, hc_39, if_pos c_40, if_neg c_41] at hL24
                  obtain ⟨z_42, ez_42⟩ : ∃ x9, x9 = mI 36 (nn + (-1)) ((zs.2.1 22) ((m1s ((zs.2.1 36) ((nn + (-1)).toNatClampNeg))).toNatClampNeg)) zs := ⟨_, rfl⟩
                  rw [← ez_42] at hP hD hL24
                  refine lv_iinc (v := (nn + (-1)) + 1) (lv' := [(2, .int ((nn + (-1)) + 1)), (6, .int ((zs.2.1 22) ((m1s ((zs.2.1 36) ((nn + (-1)).toNatClampNeg))).toNatClampNeg))), (3, .int (lf - ((zs.2.1 26) ((m1s ((zs.2.1 36) ((nn + (-1)).toNatClampNeg))).toNatClampNeg)))), (5, .int (m1s ((zs.2.1 36) ((nn + (-1)).toNatClampNeg)))), (4, .int ((zs.2.1 36) ((nn + (-1)).toNatClampNeg))), (0, .ref aM)]) hx hb dM_nodeOf_191 hl (k := 4) rfl rfl (by decide) rfl (fun ls hl => ?_)
                  refine lv_goto (tgt := 24) hx hb dM_nodeOf_194 (by decide) ?_
                  exact ih24 z_42 ((nn + (-1)) + 1) (lf - ((zs.2.1 26) ((m1s ((zs.2.1 36) ((nn + (-1)).toNatClampNeg))).toNatClampNeg))) _ _ ls hL24 hP hD hS (lv_sub hl [0, 2, 5] rfl)
              · skip
                refine lv_aload_n hx hb dM_nodeOf_159 rfl (lv_at hl 4 rfl) ?_
                refine va_get (D := g.1) (ci := 6) (v := .ref (b 23)) (C := "NodeMakerModel") (T := Fd_M) (N := 37) hx hb ht i_M hown hK.1 hP 0 rfl rfl 23 (by decide) (ht _ q_548) (fun _ h9 => h9) rfl dM_nodeOf_160 ?_
                refine lv_iload hx hb dM_nodeOf_163 (lv_at hl 1 rfl) ?_
                refine va_iald hx hb hK.1 hP 18 0 rfl rfl (vp_in_iff.mpr h_36) dM_nodeOf_165 ?_
                refine lv_goto (tgt := 176) hx hb dM_nodeOf_166 (by decide) ?_
                refine lv_istore (lv' := [(6, .int ((zs.2.1 23) ((m1s ((zs.2.1 36) ((nn + (-1)).toNatClampNeg))).toNatClampNeg))), (3, .int (lf - ((zs.2.1 26) ((m1s ((zs.2.1 36) ((nn + (-1)).toNatClampNeg))).toNatClampNeg)))), (5, .int (m1s ((zs.2.1 36) ((nn + (-1)).toNatClampNeg)))), (4, .int ((zs.2.1 36) ((nn + (-1)).toNatClampNeg))), (2, .int (nn + (-1))), (0, .ref aM)]) hx hb dM_nodeOf_176 hl (by decide) rfl (fun ls hl => ?_)
                refine lv_iload hx hb dM_nodeOf_178 (lv_at hl 0 rfl) ?_
                refine lv_if_lt (tgt := 194) hx hb dM_nodeOf_180 (by decide) (fun c_43 => ?_) (fun c_43 => ?_)
                · skip
                  refine lv_goto (tgt := 24) hx hb dM_nodeOf_194 (by decide) ?_
                  simp only [sNoL, if_neg c_32, if_pos h_33, if_pos c_34, if_pos h_36, if_pos c_37, hc_39, if_neg c_40, if_pos c_43] at hL24
                  exact ih24 zs (nn + (-1)) (lf - ((zs.2.1 26) ((m1s ((zs.2.1 36) ((nn + (-1)).toNatClampNeg))).toNatClampNeg))) _ _ ls hL24 hP hD hS (lv_sub hl [4, 1, 5] rfl)
                · skip
                  refine lv_aload_n hx hb dM_nodeOf_183 rfl (lv_at hl 5 rfl) ?_
                  refine va_get (D := g.1) (ci := 6) (v := .ref (b 36)) (C := "NodeMakerModel") (T := Fd_M) (N := 37) hx hb ht i_M hown hK.1 hP 0 rfl rfl 36 (by decide) (ht _ q_561) (fun _ h9 => h9) rfl dM_nodeOf_184 ?_
                  refine lv_iload_n hx hb dM_nodeOf_187 rfl (lv_at hl 4 rfl) ?_
                  refine lv_iload hx hb dM_nodeOf_188 (lv_at hl 0 rfl) ?_
                  refine va_iast hx hb hK.1 hP hD hS 24 0 rfl rfl (vp_in_iff.mpr h_33) dM_nodeOf_190 (fun H locs hP hD hS => ?_)
                  have hP : va_P g.1 vwCl (mX g aM b (mI 36 (nn + (-1)) ((zs.2.1 23) ((m1s ((zs.2.1 36) ((nn + (-1)).toNatClampNeg))).toNatClampNeg)) zs)) H := hP
                  have hD : va_D A (mX g aM b (mI 36 (nn + (-1)) ((zs.2.1 23) ((m1s ((zs.2.1 36) ((nn + (-1)).toNatClampNeg))).toNatClampNeg)) zs)) := hD
                  simp only [sNoL, if_neg c_32, if_pos h_33, if_pos c_34, if_pos h_36, if_pos c_37, hc_39, if_neg c_40, if_neg c_43] at hL24
                  obtain ⟨z_44, ez_44⟩ : ∃ x9, x9 = mI 36 (nn + (-1)) ((zs.2.1 23) ((m1s ((zs.2.1 36) ((nn + (-1)).toNatClampNeg))).toNatClampNeg)) zs := ⟨_, rfl⟩
                  rw [← ez_44] at hP hD hL24
                  refine lv_iinc (v := (nn + (-1)) + 1) (lv' := [(2, .int ((nn + (-1)) + 1)), (6, .int ((zs.2.1 23) ((m1s ((zs.2.1 36) ((nn + (-1)).toNatClampNeg))).toNatClampNeg))), (3, .int (lf - ((zs.2.1 26) ((m1s ((zs.2.1 36) ((nn + (-1)).toNatClampNeg))).toNatClampNeg)))), (5, .int (m1s ((zs.2.1 36) ((nn + (-1)).toNatClampNeg)))), (4, .int ((zs.2.1 36) ((nn + (-1)).toNatClampNeg))), (0, .ref aM)]) hx hb dM_nodeOf_191 hl (k := 4) rfl rfl (by decide) rfl (fun ls hl => ?_)
                  refine lv_goto (tgt := 24) hx hb dM_nodeOf_194 (by decide) ?_
                  exact ih24 z_44 ((nn + (-1)) + 1) (lf - ((zs.2.1 26) ((m1s ((zs.2.1 36) ((nn + (-1)).toNatClampNeg))).toNatClampNeg))) _ _ ls hL24 hP hD hS (lv_sub hl [0, 2, 5] rfl)
            · skip
              refine lv_iload hx hb dM_nodeOf_129 (lv_at hl 0 rfl) ?_
              simp only [sNoL, if_neg c_32, if_pos h_33, if_pos c_34, if_pos h_36, if_neg c_37] at hL24
              have hF := Option.some.inj hL24
              subst hF
              exact W.iret hx hb hr (fun t ht9 hW => ⟨⟨_, (), rfl, rfl, by rw [ht9]; exact hP, hD⟩, hS.F ht9⟩) hS.2.2 dM_nodeOf_131
          · skip
            refine lv_aload_n hx hb dM_nodeOf_44 rfl (lv_at hl 3 rfl) ?_
            refine lv_iload hx hb dM_nodeOf_45 (lv_at hl 0 rfl) ?_
            refine lv_aload_n hx hb dM_nodeOf_47 rfl (lv_at hl 3 rfl) ?_
            refine va_get (D := g.1) (ci := 6) (v := .int (zs.1 34)) (C := "NodeMakerModel") (T := Fd_M) (N := 37) hx hb ht i_M hown hK.1 hP 0 rfl rfl 34 (by decide) (ht _ q_559) (fun _ h9 => h9) rfl dM_nodeOf_48 ?_
            refine lv_aload_n hx hb dM_nodeOf_51 rfl (lv_at hl 3 rfl) ?_
            refine va_get (D := g.1) (ci := 6) (v := .int (zs.1 35)) (C := "NodeMakerModel") (T := Fd_M) (N := 37) hx hb ht i_M hown hK.1 hP 0 rfl rfl 35 (by decide) (ht _ q_560) (fun _ h9 => h9) rfl dM_nodeOf_52 ?_
            obtain ⟨r_45, hc_46⟩ : ∃ r9, sM_isLeft zs ((zs.2.1 36) ((nn + (-1)).toNatClampNeg)) (zs.1 34) (zs.1 35) = some r9 := by
              cases hc9 : sM_isLeft zs ((zs.2.1 36) ((nn + (-1)).toNatClampNeg)) (zs.1 34) (zs.1 35) with
              | some r9 => exact ⟨r9, rfl⟩
              | none => exfalso; simp only [sNoL, if_neg c_32, if_pos h_33, if_neg c_34, hc9] at hL24; cases hL24
            refine ro_Vi (v := r_45) (As := [.int ((zs.2.1 36) ((nn + (-1)).toNatClampNeg)), .int (zs.1 34), .int (zs.1 35)]) (rest := []) ⟨hx, hb, hml, hown, ht⟩ (cM_isLeft l g aM b zs ((zs.2.1 36) ((nn + (-1)).toNatClampNeg)) (zs.1 34) (zs.1 35) r_45 hc_46) (cwV 3 ht (g_V q_765 q_767 q_30 q_39 q_768) rfl rfl rfl hd_M_isLeft ⟨Nat.le_of_ble_eq_true rfl, Nat.le_of_ble_eq_true rfl⟩) hK (hP) (va_recv hK.1 hP (ci := 6) (q0 := 0) rfl rfl) rfl hl.1 rfl (Nat.le_of_ble_eq_true rfl) dM_nodeOf_55 ⟨Nat.zero_le _, Nat.zero_le _⟩ ?_
            refine lv_if_eq (tgt := 71) hx hb dM_nodeOf_58 (by decide) (fun c_47 => ?_) (fun c_47 => ?_)
            · skip
              refine lv_aload_n hx hb dM_nodeOf_71 rfl (lv_at hl 3 rfl) ?_
              refine va_get (D := g.1) (ci := 6) (v := .ref (b 23)) (C := "NodeMakerModel") (T := Fd_M) (N := 37) hx hb ht i_M hown hK.1 hP 0 rfl rfl 23 (by decide) (ht _ q_548) (fun _ h9 => h9) rfl dM_nodeOf_72 ?_
              refine lv_iload hx hb dM_nodeOf_75 (lv_at hl 0 rfl) ?_
              have h_48 : vpin ((zs.2.1 36) ((nn + (-1)).toNatClampNeg)) 4200 := Decidable.byContradiction (fun h9 => by simp only [sNoL, if_neg c_32, if_pos h_33, if_neg c_34, hc_46, if_pos c_47, if_neg h9] at hL24; cases hL24)
              refine va_iald hx hb hK.1 hP 18 0 rfl rfl (vp_in_iff.mpr h_48) dM_nodeOf_77 ?_
              refine lv_istore (lv' := [(5, .int ((zs.2.1 23) (((zs.2.1 36) ((nn + (-1)).toNatClampNeg)).toNatClampNeg))), (4, .int ((zs.2.1 36) ((nn + (-1)).toNatClampNeg))), (2, .int (nn + (-1))), (3, .int lf), (0, .ref aM)]) hx hb dM_nodeOf_78 hl (by decide) rfl (fun ls hl => ?_)
              refine lv_aload_n hx hb dM_nodeOf_80 rfl (lv_at hl 4 rfl) ?_
              refine va_get (D := g.1) (ci := 6) (v := .ref (b 36)) (C := "NodeMakerModel") (T := Fd_M) (N := 37) hx hb ht i_M hown hK.1 hP 0 rfl rfl 36 (by decide) (ht _ q_561) (fun _ h9 => h9) rfl dM_nodeOf_81 ?_
              refine lv_iload_n hx hb dM_nodeOf_84 rfl (lv_at hl 2 rfl) ?_
              refine lv_iconst (v := -1) hx hb dM_nodeOf_85 (by decide) ?_
              refine lv_iload hx hb dM_nodeOf_86 (lv_at hl 1 rfl) ?_
              refine lv_isub hx hb dM_nodeOf_88 ?_
              refine lv_topi (fun x_49 ex_49 => ?_)
              obtain rfl : x_49 = m1s ((zs.2.1 36) ((nn + (-1)).toNatClampNeg)) := ex_49.trans (m1s_eq _).symm
              refine va_iast hx hb hK.1 hP hD hS 24 0 rfl rfl (vp_in_iff.mpr h_33) dM_nodeOf_89 (fun H locs hP hD hS => ?_)
              have hP : va_P g.1 vwCl (mX g aM b (mI 36 (nn + (-1)) (m1s ((zs.2.1 36) ((nn + (-1)).toNatClampNeg))) zs)) H := hP
              have hD : va_D A (mX g aM b (mI 36 (nn + (-1)) (m1s ((zs.2.1 36) ((nn + (-1)).toNatClampNeg))) zs)) := hD
              simp only [sNoL, if_neg c_32, if_pos h_33, if_neg c_34, hc_46, if_pos c_47, if_pos h_48] at hL24
              obtain ⟨z_50, ez_50⟩ : ∃ x9, x9 = mI 36 (nn + (-1)) (m1s ((zs.2.1 36) ((nn + (-1)).toNatClampNeg))) zs := ⟨_, rfl⟩
              rw [← ez_50] at hP hD hL24
              refine lv_iinc (v := (nn + (-1)) + 1) (lv' := [(2, .int ((nn + (-1)) + 1)), (5, .int ((zs.2.1 23) (((zs.2.1 36) ((nn + (-1)).toNatClampNeg)).toNatClampNeg))), (4, .int ((zs.2.1 36) ((nn + (-1)).toNatClampNeg))), (3, .int lf), (0, .ref aM)]) hx hb dM_nodeOf_90 hl (k := 2) rfl rfl (by decide) rfl (fun ls hl => ?_)
              refine lv_iload hx hb dM_nodeOf_93 (lv_at hl 1 rfl) ?_
              refine lv_if_lt (tgt := 109) hx hb dM_nodeOf_95 (by decide) (fun c_51 => ?_) (fun c_51 => ?_)
              · skip
                refine lv_goto (tgt := 194) hx hb dM_nodeOf_109 (by decide) ?_
                refine lv_goto (tgt := 24) hx hb dM_nodeOf_194 (by decide) ?_
                simp only [if_pos c_51] at hL24
                exact ih24 z_50 ((nn + (-1)) + 1) lf _ _ ls hL24 hP hD hS (lv_sub hl [0, 3, 4] rfl)
              · skip
                refine lv_aload_n hx hb dM_nodeOf_98 rfl (lv_at hl 4 rfl) ?_
                refine va_get (D := g.1) (ci := 6) (v := .ref (b 36)) (C := "NodeMakerModel") (T := Fd_M) (N := 37) hx hb ht i_M hown hK.1 hP 0 rfl rfl 36 (by decide) (ht _ q_561) (fun _ h9 => h9) rfl dM_nodeOf_99 ?_
                refine lv_iload_n hx hb dM_nodeOf_102 rfl (lv_at hl 0 rfl) ?_
                refine lv_iload hx hb dM_nodeOf_103 (lv_at hl 1 rfl) ?_
                have h_52 : vpin ((nn + (-1)) + 1) 8600 := Decidable.byContradiction (fun h9 => by simp only [if_neg c_51, if_neg h9] at hL24; cases hL24)
                refine va_iast hx hb hK.1 hP hD hS 24 0 rfl rfl (vp_in_iff.mpr h_52) dM_nodeOf_105 (fun H locs hP hD hS => ?_)
                have hP : va_P g.1 vwCl (mX g aM b (mI 36 ((nn + (-1)) + 1) ((zs.2.1 23) (((zs.2.1 36) ((nn + (-1)).toNatClampNeg)).toNatClampNeg)) z_50)) H := hP
                have hD : va_D A (mX g aM b (mI 36 ((nn + (-1)) + 1) ((zs.2.1 23) (((zs.2.1 36) ((nn + (-1)).toNatClampNeg)).toNatClampNeg)) z_50)) := hD
                simp only [if_neg c_51, if_pos h_52] at hL24
                obtain ⟨z_53, ez_53⟩ : ∃ x9, x9 = mI 36 ((nn + (-1)) + 1) ((zs.2.1 23) (((zs.2.1 36) ((nn + (-1)).toNatClampNeg)).toNatClampNeg)) z_50 := ⟨_, rfl⟩
                rw [← ez_53] at hP hD hL24
                refine lv_iinc (v := ((nn + (-1)) + 1) + 1) (lv' := [(2, .int (((nn + (-1)) + 1) + 1)), (5, .int ((zs.2.1 23) (((zs.2.1 36) ((nn + (-1)).toNatClampNeg)).toNatClampNeg))), (4, .int ((zs.2.1 36) ((nn + (-1)).toNatClampNeg))), (3, .int lf), (0, .ref aM)]) hx hb dM_nodeOf_106 hl (k := 0) rfl rfl (by decide) rfl (fun ls hl => ?_)
                refine lv_goto (tgt := 194) hx hb dM_nodeOf_109 (by decide) ?_
                refine lv_goto (tgt := 24) hx hb dM_nodeOf_194 (by decide) ?_
                exact ih24 z_53 (((nn + (-1)) + 1) + 1) lf _ _ ls hL24 hP hD hS (lv_sub hl [0, 3, 4] rfl)
            · skip
              refine lv_aload_n hx hb dM_nodeOf_61 rfl (lv_at hl 3 rfl) ?_
              refine va_get (D := g.1) (ci := 6) (v := .ref (b 22)) (C := "NodeMakerModel") (T := Fd_M) (N := 37) hx hb ht i_M hown hK.1 hP 0 rfl rfl 22 (by decide) (ht _ q_547) (fun _ h9 => h9) rfl dM_nodeOf_62 ?_
              refine lv_iload hx hb dM_nodeOf_65 (lv_at hl 0 rfl) ?_
              have h_54 : vpin ((zs.2.1 36) ((nn + (-1)).toNatClampNeg)) 4200 := Decidable.byContradiction (fun h9 => by simp only [sNoL, if_neg c_32, if_pos h_33, if_neg c_34, hc_46, if_neg c_47, if_neg h9] at hL24; cases hL24)
              refine va_iald hx hb hK.1 hP 17 0 rfl rfl (vp_in_iff.mpr h_54) dM_nodeOf_67 ?_
              refine lv_goto (tgt := 78) hx hb dM_nodeOf_68 (by decide) ?_
              refine lv_istore (lv' := [(5, .int ((zs.2.1 22) (((zs.2.1 36) ((nn + (-1)).toNatClampNeg)).toNatClampNeg))), (4, .int ((zs.2.1 36) ((nn + (-1)).toNatClampNeg))), (2, .int (nn + (-1))), (3, .int lf), (0, .ref aM)]) hx hb dM_nodeOf_78 hl (by decide) rfl (fun ls hl => ?_)
              refine lv_aload_n hx hb dM_nodeOf_80 rfl (lv_at hl 4 rfl) ?_
              refine va_get (D := g.1) (ci := 6) (v := .ref (b 36)) (C := "NodeMakerModel") (T := Fd_M) (N := 37) hx hb ht i_M hown hK.1 hP 0 rfl rfl 36 (by decide) (ht _ q_561) (fun _ h9 => h9) rfl dM_nodeOf_81 ?_
              refine lv_iload_n hx hb dM_nodeOf_84 rfl (lv_at hl 2 rfl) ?_
              refine lv_iconst (v := -1) hx hb dM_nodeOf_85 (by decide) ?_
              refine lv_iload hx hb dM_nodeOf_86 (lv_at hl 1 rfl) ?_
              refine lv_isub hx hb dM_nodeOf_88 ?_
              refine lv_topi (fun x_55 ex_55 => ?_)
              obtain rfl : x_55 = m1s ((zs.2.1 36) ((nn + (-1)).toNatClampNeg)) := ex_55.trans (m1s_eq _).symm
              refine va_iast hx hb hK.1 hP hD hS 24 0 rfl rfl (vp_in_iff.mpr h_33) dM_nodeOf_89 (fun H locs hP hD hS => ?_)
              have hP : va_P g.1 vwCl (mX g aM b (mI 36 (nn + (-1)) (m1s ((zs.2.1 36) ((nn + (-1)).toNatClampNeg))) zs)) H := hP
              have hD : va_D A (mX g aM b (mI 36 (nn + (-1)) (m1s ((zs.2.1 36) ((nn + (-1)).toNatClampNeg))) zs)) := hD
              simp only [sNoL, if_neg c_32, if_pos h_33, if_neg c_34, hc_46, if_neg c_47, if_pos h_54] at hL24
              obtain ⟨z_56, ez_56⟩ : ∃ x9, x9 = mI 36 (nn + (-1)) (m1s ((zs.2.1 36) ((nn + (-1)).toNatClampNeg))) zs := ⟨_, rfl⟩
              rw [← ez_56] at hP hD hL24
              refine lv_iinc (v := (nn + (-1)) + 1) (lv' := [(2, .int ((nn + (-1)) + 1)), (5, .int ((zs.2.1 22) (((zs.2.1 36) ((nn + (-1)).toNatClampNeg)).toNatClampNeg))), (4, .int ((zs.2.1 36) ((nn + (-1)).toNatClampNeg))), (3, .int lf), (0, .ref aM)]) hx hb dM_nodeOf_90 hl (k := 2) rfl rfl (by decide) rfl (fun ls hl => ?_)
              refine lv_iload hx hb dM_nodeOf_93 (lv_at hl 1 rfl) ?_
              refine lv_if_lt (tgt := 109) hx hb dM_nodeOf_95 (by decide) (fun c_57 => ?_) (fun c_57 => ?_)
              · skip
                refine lv_goto (tgt := 194) hx hb dM_nodeOf_109 (by decide) ?_
                refine lv_goto (tgt := 24) hx hb dM_nodeOf_194 (by decide) ?_
                simp only [if_pos c_57] at hL24
                exact ih24 z_56 ((nn + (-1)) + 1) lf _ _ ls hL24 hP hD hS (lv_sub hl [0, 3, 4] rfl)
              · skip
                refine lv_aload_n hx hb dM_nodeOf_98 rfl (lv_at hl 4 rfl) ?_
                refine va_get (D := g.1) (ci := 6) (v := .ref (b 36)) (C := "NodeMakerModel") (T := Fd_M) (N := 37) hx hb ht i_M hown hK.1 hP 0 rfl rfl 36 (by decide) (ht _ q_561) (fun _ h9 => h9) rfl dM_nodeOf_99 ?_
                refine lv_iload_n hx hb dM_nodeOf_102 rfl (lv_at hl 0 rfl) ?_
                refine lv_iload hx hb dM_nodeOf_103 (lv_at hl 1 rfl) ?_
                have h_58 : vpin ((nn + (-1)) + 1) 8600 := Decidable.byContradiction (fun h9 => by simp only [if_neg c_57, if_neg h9] at hL24; cases hL24)
                refine va_iast hx hb hK.1 hP hD hS 24 0 rfl rfl (vp_in_iff.mpr h_58) dM_nodeOf_105 (fun H locs hP hD hS => ?_)
                have hP : va_P g.1 vwCl (mX g aM b (mI 36 ((nn + (-1)) + 1) ((zs.2.1 22) (((zs.2.1 36) ((nn + (-1)).toNatClampNeg)).toNatClampNeg)) z_56)) H := hP
                have hD : va_D A (mX g aM b (mI 36 ((nn + (-1)) + 1) ((zs.2.1 22) (((zs.2.1 36) ((nn + (-1)).toNatClampNeg)).toNatClampNeg)) z_56)) := hD
                simp only [if_neg c_57, if_pos h_58] at hL24
                obtain ⟨z_59, ez_59⟩ : ∃ x9, x9 = mI 36 ((nn + (-1)) + 1) ((zs.2.1 22) (((zs.2.1 36) ((nn + (-1)).toNatClampNeg)).toNatClampNeg)) z_56 := ⟨_, rfl⟩
                rw [← ez_59] at hP hD hL24
                refine lv_iinc (v := ((nn + (-1)) + 1) + 1) (lv' := [(2, .int (((nn + (-1)) + 1) + 1)), (5, .int ((zs.2.1 22) (((zs.2.1 36) ((nn + (-1)).toNatClampNeg)).toNatClampNeg))), (4, .int ((zs.2.1 36) ((nn + (-1)).toNatClampNeg))), (3, .int lf), (0, .ref aM)]) hx hb dM_nodeOf_106 hl (k := 0) rfl rfl (by decide) rfl (fun ls hl => ?_)
                refine lv_goto (tgt := 194) hx hb dM_nodeOf_109 (by decide) ?_
                refine lv_goto (tgt := 24) hx hb dM_nodeOf_194 (by decide) ?_
                exact ih24 z_59 (((nn + (-1)) + 1) + 1) lf _ _ ls hL24 hP hD hS (lv_sub hl [0, 3, 4] rfl)
    exact loop24 N9 z_2 1 i _ _ ls hok hP hD hS (lv_sub hl [0, 1, 2] rfl)
def sAhL (m1s : Int32 → Int32) (nd : Int32) (N9 : Nat) : Nat → MSt → Int32 → Option (MSt × Int32)
  | 0, _, _ => none
  | n + 1, zs, i => (match sM_nodeOf m1s zs i N9 with
    | none => none
    | some r_62 => if r_62.2 = nd then
        some ((r_62.1), i)
      else
        sAhL m1s nd N9 n r_62.1 (i + 1))
def sM_aheadOf (m1s : Int32 → Int32) (mz : MSt) (nd : Int32) (N9 : Nat) : Option (MSt × Int32) :=
  (match sAhL m1s nd N9 N9 mz 0 with
  | none => none
  | some T_60 => some (T_60.1, T_60.2))

set_option maxHeartbeats 4000000 in
set_option maxRecDepth 100000 in
theorem cM_aheadOf (m1s : Int32 → Int32) (m1s_eq : ∀ x, m1s x = -1 - x) (l : Launch) (g : CX) (sz : Nat) (aM : Nat) (b : Nat → Nat) (mz : MSt) (nd : Int32) (N9 : Nat) (r0 : MSt × Int32) (hok : sM_aheadOf m1s mz nd N9 = some r0) : Met l yM_aheadOf (wm yM_aheadOf kM_aheadOf 3 (some .int)) ({ frames := 4, cells := 0, slots := 0, locals := 101 }) (rw g [.ref aM, .int nd] (mX g aM b mz) sz) (va_Qi (fun (r : Int32) (_u : Unit) => r = r0.2) (rB g (va_A (mX g aM b mz) sz) (fun _u => (mX g aM b r0.1))) (va_A (mX g aM b mz) sz)) 0 0 (va_A (mX g aM b mz) sz) := by
  refine Met.ofW (cc := kM_aheadOf) (maxL := 3) (ret := (some .int)) (by decide) rfl ?_
  intro p e s m args below meth c s₁ B hml hv
  obtain ⟨rfl, hsz, hK, hP, hD0⟩ := hv
  have hx := B.exec
  have hb := B.bytes
  have hr := B.returns
  have ht : ∀ w ∈ wT, w.before _ s = true := fun w h => atoms_spec (ws := wm yM_aheadOf kM_aheadOf 3 (some .int)) B.pre w (List.mem_cons_of_mem _ h)
  have hown : s.vm.findClass "NodeMakerModel" = some m.cls := findClass_of_methodNamed B.named
  have hlocks := B.notSynchronized
  subst hsz
  have hD := hD0.self (sz := s.heap.size)
  generalize hAe : va_A (mX g aM b mz) s.heap.size = A at hD ⊢
  have hA : ∀ q : Nat, s.heap.size ≤ q → A q := fun q h => by rw [← hAe]; exact Or.inr h
  have hS : va_S A s.heap s.heap [] := va_S.rf
  have hl := lv_entry ([.ref aM, .int nd]) (n := 3) (Nat.le_of_ble_eq_true rfl)
  rw [lg_entry_eq]
  generalize (lg_sl ([.ref aM, .int nd]) ++ List.replicate (3 - (lg_sl ([.ref aM, .int nd])).length) Slot.unset).toArray = ls at hl ⊢
  have hl : lv_has ls 3 [(0, .ref aM), (1, .int nd)] := hl
  refine lv_iconst (v := 0) hx hb dM_aheadOf_0 (by decide) ?_
  refine lv_istore_n (lv' := [(2, .int 0), (0, .ref aM), (1, .int nd)]) hx hb dM_aheadOf_1 rfl hl (by decide) rfl (fun ls hl => ?_)
  obtain ⟨T_60, hT_61⟩ : ∃ t9, sAhL m1s nd N9 N9 mz 0 = some t9 := by
    cases hc9 : sAhL m1s nd N9 N9 mz 0 with
    | some t9 => exact ⟨t9, rfl⟩
    | none => exfalso; simp only [sM_aheadOf, hc9] at hok; cases hok
  have loop2 : ∀ (n : Nat) (zs : MSt) (i : Int32) (H : Heap) (locs : List Loc) (ls : Array Slot), sAhL m1s nd N9 n zs i = some T_60 → va_P g.1 vwCl (mX g aM b zs) H → va_D A (mX g aM b zs) → va_S A s.heap H locs → lv_has ls 3 [(2, .int i), (0, .ref aM), (1, .int nd)] → W p l e (headSpec (wm yM_aheadOf kM_aheadOf 3 (some .int)) ({ frames := 4, cells := 0, slots := 0, locals := 101 })).room s m ([.ref aM, .int nd] : List Value).toArray below meth c H locs (0) (0) (MQ below (va_Qi (fun (r : Int32) (_u : Unit) => r = r0.2) (rB g A (fun _u => (mX g aM b r0.1))) A) ([.ref aM, .int nd] : List Value).toArray s 0 0 A) (F0 m 2 ls []) := by
    intro n2
    induction n2 with
    | zero => intro zs i H locs ls hL2 hP hD hS hl; cases hL2
    | succ n2 ih2 =>
      intro zs i H locs ls hL2 hP hD hS hl
      refine lv_aload_n hx hb dM_aheadOf_2 rfl (lv_at hl 1 rfl) ?_
      refine lv_iload_n hx hb dM_aheadOf_3 rfl (lv_at hl 0 rfl) ?_
      obtain ⟨r_62, hc_63⟩ : ∃ r9, sM_nodeOf m1s zs i N9 = some r9 := by
        cases hc9 : sM_nodeOf m1s zs i N9 with
        | some r9 => exact ⟨r9, rfl⟩
        | none => exfalso; simp only [sAhL, hc9] at hL2; cases hL2
      refine rw_iA (va_runV (As := [.int i]) (rest := []) ⟨hx, hb, hml, hown, ht⟩ (cM_nodeOf m1s m1s_eq l g H.size aM b zs i N9 r_62 hc_63) (cwV 1 ht (g_V q_777 q_779 q_31 q_39 q_780) rfl rfl rfl hd_M_nodeOf ⟨Nat.le_of_ble_eq_true rfl, Nat.le_of_ble_eq_true rfl⟩) (rw_V hK hP hD (va_recv hK.1 hP (ci := 6) (q0 := 0) rfl rfl)) rfl rfl hl.1 rfl (lv_room (Nat.le_of_ble_eq_true rfl)) dM_aheadOf_4 ⟨Nat.zero_le _, Nat.zero_le _⟩) hD hS hA (fun rr _ H locs hw hP hD hS => ?_)
      subst hw
      have hP : va_P g.1 vwCl (mX g aM b (r_62.1)) H := hP
      have hD : va_D A (mX g aM b (r_62.1)) := hD
      refine lv_iload_n hx hb dM_aheadOf_7 rfl (lv_at hl 2 rfl) ?_
      refine lv_icmp_eq (tgt := 17) hx hb dM_aheadOf_8 (by decide) (fun c_64 => ?_) (fun c_64 => ?_)
      · skip
        simp only [sAhL, hc_63, if_pos c_64] at hL2
        obtain ⟨z_65, ez_65⟩ : ∃ x9, x9 = r_62.1 := ⟨_, rfl⟩
        rw [← ez_65] at hP hD hL2
        have hex : (z_65, i) = T_60 := Option.some.inj hL2
        have e_z_65 : z_65 = T_60.1 := by rw [← hex]
        have e_i : i = T_60.2 := by rw [← hex]
        subst e_z_65
        subst e_i
        refine lv_iload_n hx hb dM_aheadOf_17 rfl (lv_at hl 0 rfl) ?_
        simp only [sM_aheadOf, hT_61] at hok
        have hF := Option.some.inj hok
        subst hF
        exact W.iret hx hb hr (fun t ht9 hW => ⟨⟨_, (), rfl, rfl, by rw [ht9]; exact hP, hD⟩, hS.F ht9⟩) hS.2.2 dM_aheadOf_18
      · skip
        refine lv_iinc (v := i + 1) (lv' := [(2, .int (i + 1)), (0, .ref aM), (1, .int nd)]) hx hb dM_aheadOf_11 hl (k := 0) rfl rfl (by decide) rfl (fun ls hl => ?_)
        refine lv_goto (tgt := 2) hx hb dM_aheadOf_14 (by decide) ?_
        simp only [sAhL, hc_63, if_neg c_64] at hL2
        exact ih2 r_62.1 (i + 1) H locs ls hL2 hP hD hS (lv_sub hl [0, 1, 2] rfl)
  exact loop2 N9 mz 0 _ _ ls hT_61 hP hD hS (lv_sub hl [0, 1, 2] rfl)

def sM_step (m1s : Int32 → Int32) (mz : MSt) (i : Int32) (what : Int32) (N9 : Nat) (N2 : Nat) : Option (MSt × Int32) :=
  (match sM_know (mV 0 0 mz)  N9 N2 with
  | none => none
  | some r_67 => if (r_67.1 33) = 0 then
      some (r_67, (-1))
    else
      if i < 0 then
        some (r_67, (-1))
      else
        if (r_67.1 30) ≤ i then
          some (r_67, (-1))
        else
          if what < 0 then
            some (r_67, (-1))
          else
            if what ≤ 2 then
              (match sM_nodeOf m1s r_67 i N9 with
              | none => none
              | some r_74 => if what = 1 then
                  some (r_74.1, r_74.2)
                else
                  (match sM_aheadOf m1s r_74.1 r_74.2 N9 with
                  | none => none
                  | some r_77 => if what = 2 then
                      some (r_77.1, (i - r_77.2))
                    else
                      if vpin r_74.2 4200 then
                        if vpin (((r_77.1.2.1 25) r_74.2.toNatClampNeg) + (i - r_77.2)) 8300 then
                          if vpin ((r_77.1.2.1 27) ((((r_77.1.2.1 25) r_74.2.toNatClampNeg) + (i - r_77.2)).toNatClampNeg)) 8300 then
                            some (r_77.1, ((r_77.1.2.1 8) (((r_77.1.2.1 27) ((((r_77.1.2.1 25) r_74.2.toNatClampNeg) + (i - r_77.2)).toNatClampNeg)).toNatClampNeg)))
                          else
                            none
                        else
                          none
                      else
                        none))
            else
              some (r_67, (-1)))

set_option maxHeartbeats 4000000 in
set_option maxRecDepth 100000 in
theorem cM_step (m1s : Int32 → Int32) (m1s_eq : ∀ x, m1s x = -1 - x) (l : Launch) (g : CX) (sz : Nat) (aM : Nat) (b : Nat → Nat) (mz : MSt) (i : Int32) (what : Int32) (N9 : Nat) (N2 : Nat) (r0 : MSt × Int32) (hok : sM_step m1s mz i what N9 N2 = some r0) : Met l yM_step (wm yM_step kM_step 5 (some .int)) ({ frames := 8, cells := 0, slots := 0, locals := 235 }) (rw g [.ref aM, .int i, .int what] (mX g aM b mz) sz) (va_Qi (fun (r : Int32) (_u : Unit) => r = r0.2) (rB g (va_A (mX g aM b mz) sz) (fun _u => (mX g aM b r0.1))) (va_A (mX g aM b mz) sz)) 0 0 (va_A (mX g aM b mz) sz) := by
  refine Met.ofW (cc := kM_step) (maxL := 5) (ret := (some .int)) (by decide) rfl ?_
  intro p e s m args below meth c s₁ B hml hv
  obtain ⟨rfl, hsz, hK, hP, hD0⟩ := hv
  have hx := B.exec
  have hb := B.bytes
  have hr := B.returns
  have ht : ∀ w ∈ wT, w.before _ s = true := fun w h => atoms_spec (ws := wm yM_step kM_step 5 (some .int)) B.pre w (List.mem_cons_of_mem _ h)
  have hown : s.vm.findClass "NodeMakerModel" = some m.cls := findClass_of_methodNamed B.named
  have hlocks := B.notSynchronized
  subst hsz
  have hD := hD0.self (sz := s.heap.size)
  generalize hAe : va_A (mX g aM b mz) s.heap.size = A at hD ⊢
  have hA : ∀ q : Nat, s.heap.size ≤ q → A q := fun q h => by rw [← hAe]; exact Or.inr h
  have hS : va_S A s.heap s.heap [] := va_S.rf
  have hl := lv_entry ([.ref aM, .int i, .int what]) (n := 5) (Nat.le_of_ble_eq_true rfl)
  rw [lg_entry_eq]
  generalize (lg_sl ([.ref aM, .int i, .int what]) ++ List.replicate (5 - (lg_sl ([.ref aM, .int i, .int what])).length) Slot.unset).toArray = ls at hl ⊢
  have hl : lv_has ls 5 [(0, .ref aM), (1, .int i), (2, .int what)] := hl
  refine lv_aload_n hx hb dM_step_0 rfl (lv_at hl 0 rfl) ?_
  refine lv_iconst (v := 0) hx hb dM_step_1 (by decide) ?_
  refine va_put (D := g.1) (ci := 6) (v := .int 0) (ty := .int) (C := "NodeMakerModel") (T := Fd_M) (N := 37) hx hb ht i_M ty_M ty_M_ok nm_M hown hK.1 hP hD hS 0 rfl rfl 0 (by decide) (ht _ q_525) (fun _ h9 => h9) rfl (by decide +kernel) rfl rfl (Nat.le_of_ble_eq_true rfl) dM_step_2 (fun H locs hP hD hS => ?_)
  have hP : va_P g.1 vwCl (mX g aM b (mV 0 0 mz)) H := hP
  have hD : va_D A (mX g aM b (mV 0 0 mz)) := hD
  simp only [sM_step] at hok
  obtain ⟨z_66, ez_66⟩ : ∃ x9, x9 = mV 0 0 mz := ⟨_, rfl⟩
  rw [← ez_66] at hP hD hok
  refine lv_aload_n hx hb dM_step_5 rfl (lv_at hl 0 rfl) ?_
  obtain ⟨r_67, hc_68⟩ : ∃ r9, sM_know z_66  N9 N2 = some r9 := by
    cases hc9 : sM_know z_66  N9 N2 with
    | some r9 => exact ⟨r9, rfl⟩
    | none => exfalso; simp only [hc9] at hok; cases hok
  refine rw_vA (va_runV (As := []) (rest := []) ⟨hx, hb, hml, hown, ht⟩ (cM_know l g H.size aM b z_66  N9 N2 r_67 hc_68) (cwV 0 ht (g_V q_692 q_694 q_18 q_39 q_695) rfl rfl rfl hd_M_know ⟨Nat.le_of_ble_eq_true rfl, Nat.le_of_ble_eq_true rfl⟩) (rw_V hK hP hD (va_recv hK.1 hP (ci := 6) (q0 := 0) rfl rfl)) rfl rfl hl.1 rfl (lv_room (Nat.le_of_ble_eq_true rfl)) dM_step_6 ⟨Nat.zero_le _, Nat.zero_le _⟩) hD hS hA (fun _ H locs _ hP hD hS => ?_)
  have hP : va_P g.1 vwCl (mX g aM b (r_67)) H := hP
  have hD : va_D A (mX g aM b (r_67)) := hD
  refine lv_aload_n hx hb dM_step_9 rfl (lv_at hl 0 rfl) ?_
  refine va_get (D := g.1) (ci := 6) (v := .int (r_67.1 33)) (C := "NodeMakerModel") (T := Fd_M) (N := 37) hx hb ht i_M hown hK.1 hP 0 rfl rfl 33 (by decide) (ht _ q_558) (fun _ h9 => h9) rfl dM_step_10 ?_
  refine lv_if_eq (tgt := 37) hx hb dM_step_13 (by decide) (fun c_69 => ?_) (fun c_69 => ?_)
  · skip
    refine lv_iconst (v := -1) hx hb dM_step_37 (by decide) ?_
    simp only [hc_68, if_pos c_69] at hok
    have hF := Option.some.inj hok
    subst hF
    exact W.iret hx hb hr (fun t ht9 hW => ⟨⟨_, (), rfl, rfl, by rw [ht9]; exact hP, hD⟩, hS.F ht9⟩) hS.2.2 dM_step_38
  · skip
    refine lv_iload_n hx hb dM_step_16 rfl (lv_at hl 1 rfl) ?_
    refine lv_if_lt (tgt := 37) hx hb dM_step_17 (by decide) (fun c_70 => ?_) (fun c_70 => ?_)
    · skip
      refine lv_iconst (v := -1) hx hb dM_step_37 (by decide) ?_
      simp only [hc_68, if_neg c_69, if_pos c_70] at hok
      have hF := Option.some.inj hok
      subst hF
      exact W.iret hx hb hr (fun t ht9 hW => ⟨⟨_, (), rfl, rfl, by rw [ht9]; exact hP, hD⟩, hS.F ht9⟩) hS.2.2 dM_step_38
    · skip
      refine lv_iload_n hx hb dM_step_20 rfl (lv_at hl 1 rfl) ?_
      refine lv_aload_n hx hb dM_step_21 rfl (lv_at hl 0 rfl) ?_
      refine va_get (D := g.1) (ci := 6) (v := .int (r_67.1 30)) (C := "NodeMakerModel") (T := Fd_M) (N := 37) hx hb ht i_M hown hK.1 hP 0 rfl rfl 30 (by decide) (ht _ q_555) (fun _ h9 => h9) rfl dM_step_22 ?_
      refine lv_icmp_ge (tgt := 37) hx hb dM_step_25 (by decide) (fun c_71 => ?_) (fun c_71 => ?_)
      · skip
        refine lv_iconst (v := -1) hx hb dM_step_37 (by decide) ?_
        simp only [hc_68, if_neg c_69, if_neg c_70, if_pos c_71] at hok
        have hF := Option.some.inj hok
        subst hF
        exact W.iret hx hb hr (fun t ht9 hW => ⟨⟨_, (), rfl, rfl, by rw [ht9]; exact hP, hD⟩, hS.F ht9⟩) hS.2.2 dM_step_38
      · skip
        refine lv_iload_n hx hb dM_step_28 rfl (lv_at hl 2 rfl) ?_
        refine lv_if_lt (tgt := 37) hx hb dM_step_29 (by decide) (fun c_72 => ?_) (fun c_72 => ?_)
        · skip
          refine lv_iconst (v := -1) hx hb dM_step_37 (by decide) ?_
          simp only [hc_68, if_neg c_69, if_neg c_70, if_neg c_71, if_pos c_72] at hok
          have hF := Option.some.inj hok
          subst hF
          exact W.iret hx hb hr (fun t ht9 hW => ⟨⟨_, (), rfl, rfl, by rw [ht9]; exact hP, hD⟩, hS.F ht9⟩) hS.2.2 dM_step_38
        · skip
          refine lv_iload_n hx hb dM_step_32 rfl (lv_at hl 2 rfl) ?_
          refine lv_iconst (v := 2) hx hb dM_step_33 (by decide) ?_
          refine lv_icmp_le (tgt := 39) hx hb dM_step_34 (by decide) (fun c_73 => ?_) (fun c_73 => ?_)
          · skip
            refine lv_aload_n hx hb dM_step_39 rfl (lv_at hl 0 rfl) ?_
            refine lv_iload_n hx hb dM_step_40 rfl (lv_at hl 1 rfl) ?_
            obtain ⟨r_74, hc_75⟩ : ∃ r9, sM_nodeOf m1s r_67 i N9 = some r9 := by
              cases hc9 : sM_nodeOf m1s r_67 i N9 with
              | some r9 => exact ⟨r9, rfl⟩
              | none => exfalso; simp only [hc_68, if_neg c_69, if_neg c_70, if_neg c_71, if_neg c_72, if_pos c_73, hc9] at hok; cases hok
            refine rw_iA (va_runV (As := [.int i]) (rest := []) ⟨hx, hb, hml, hown, ht⟩ (cM_nodeOf m1s m1s_eq l g H.size aM b r_67 i N9 r_74 hc_75) (cwV 1 ht (g_V q_777 q_779 q_31 q_39 q_780) rfl rfl rfl hd_M_nodeOf ⟨Nat.le_of_ble_eq_true rfl, Nat.le_of_ble_eq_true rfl⟩) (rw_V hK hP hD (va_recv hK.1 hP (ci := 6) (q0 := 0) rfl rfl)) rfl rfl hl.1 rfl (lv_room (Nat.le_of_ble_eq_true rfl)) dM_step_41 ⟨Nat.zero_le _, Nat.zero_le _⟩) hD hS hA (fun rr _ H locs hw hP hD hS => ?_)
            subst hw
            have hP : va_P g.1 vwCl (mX g aM b (r_74.1)) H := hP
            have hD : va_D A (mX g aM b (r_74.1)) := hD
            refine lv_istore_n (lv' := [(3, .int r_74.2), (0, .ref aM), (1, .int i), (2, .int what)]) hx hb dM_step_44 rfl hl (by decide) rfl (fun ls hl => ?_)
            refine lv_iload_n hx hb dM_step_45 rfl (lv_at hl 3 rfl) ?_
            refine lv_iconst (v := 1) hx hb dM_step_46 (by decide) ?_
            refine lv_icmp_ne (tgt := 52) hx hb dM_step_47 (by decide) (fun c_76 => ?_) (fun c_76 => ?_)
            · skip
              refine lv_iload_n hx hb dM_step_52 rfl (lv_at hl 2 rfl) ?_
              refine lv_aload_n hx hb dM_step_53 rfl (lv_at hl 1 rfl) ?_
              refine lv_iload_n hx hb dM_step_54 rfl (lv_at hl 0 rfl) ?_
              obtain ⟨r_77, hc_78⟩ : ∃ r9, sM_aheadOf m1s r_74.1 r_74.2 N9 = some r9 := by
                cases hc9 : sM_aheadOf m1s r_74.1 r_74.2 N9 with
                | some r9 => exact ⟨r9, rfl⟩
                | none => exfalso; simp only [hc_68, if_neg c_69, if_neg c_70, if_neg c_71, if_neg c_72, if_pos c_73, hc_75, if_neg c_76, hc9] at hok; cases hok
              refine rw_iA (va_runV (As := [.int r_74.2]) (rest := [.int i]) ⟨hx, hb, hml, hown, ht⟩ (cM_aheadOf m1s m1s_eq l g H.size aM b r_74.1 r_74.2 N9 r_77 hc_78) (cwV 1 ht (g_V q_781 q_783 q_32 q_39 q_784) rfl rfl rfl hd_M_aheadOf ⟨Nat.le_of_ble_eq_true rfl, Nat.le_of_ble_eq_true rfl⟩) (rw_V hK hP hD (va_recv hK.1 hP (ci := 6) (q0 := 0) rfl rfl)) rfl rfl hl.1 rfl (lv_room (Nat.le_of_ble_eq_true rfl)) dM_step_55 ⟨Nat.zero_le _, Nat.zero_le _⟩) hD hS hA (fun rr _ H locs hw hP hD hS => ?_)
              subst hw
              have hP : va_P g.1 vwCl (mX g aM b (r_77.1)) H := hP
              have hD : va_D A (mX g aM b (r_77.1)) := hD
              refine lv_isub hx hb dM_step_58 ?_
              refine lv_istore (lv' := [(4, .int (i - r_77.2)), (3, .int r_74.2), (0, .ref aM), (1, .int i), (2, .int what)]) hx hb dM_step_59 hl (by decide) rfl (fun ls hl => ?_)
              refine lv_iload_n hx hb dM_step_61 rfl (lv_at hl 4 rfl) ?_
              refine lv_iconst (v := 2) hx hb dM_step_62 (by decide) ?_
              refine lv_icmp_ne (tgt := 71) hx hb dM_step_63 (by decide) (fun c_79 => ?_) (fun c_79 => ?_)
              · skip
                refine lv_aload_n hx hb dM_step_71 rfl (lv_at hl 2 rfl) ?_
                refine va_get (D := g.1) (ci := 6) (v := .ref (b 8)) (C := "NodeMakerModel") (T := Fd_M) (N := 37) hx hb ht i_M hown hK.1 hP 0 rfl rfl 8 (by decide) (ht _ q_533) (fun _ h9 => h9) rfl dM_step_72 ?_
                refine lv_aload_n hx hb dM_step_75 rfl (lv_at hl 2 rfl) ?_
                refine va_get (D := g.1) (ci := 6) (v := .ref (b 27)) (C := "NodeMakerModel") (T := Fd_M) (N := 37) hx hb ht i_M hown hK.1 hP 0 rfl rfl 27 (by decide) (ht _ q_552) (fun _ h9 => h9) rfl dM_step_76 ?_
                refine lv_aload_n hx hb dM_step_79 rfl (lv_at hl 2 rfl) ?_
                refine va_get (D := g.1) (ci := 6) (v := .ref (b 25)) (C := "NodeMakerModel") (T := Fd_M) (N := 37) hx hb ht i_M hown hK.1 hP 0 rfl rfl 25 (by decide) (ht _ q_550) (fun _ h9 => h9) rfl dM_step_80 ?_
                refine lv_iload_n hx hb dM_step_83 rfl (lv_at hl 1 rfl) ?_
                have h_80 : vpin r_74.2 4200 := Decidable.byContradiction (fun h9 => by simp only [hc_68, if_neg c_69, if_neg c_70, if_neg c_71, if_neg c_72, if_pos c_73, hc_75, if_neg c_76, hc_78, if_neg c_79, if_neg h9] at hok; cases hok)
                refine va_iald hx hb hK.1 hP 20 0 rfl rfl (vp_in_iff.mpr h_80) dM_step_84 ?_
                refine lv_iload hx hb dM_step_85 (lv_at hl 0 rfl) ?_
                refine lv_iadd hx hb dM_step_87 ?_
                have h_81 : vpin (((r_77.1.2.1 25) r_74.2.toNatClampNeg) + (i - r_77.2)) 8300 := Decidable.byContradiction (fun h9 => by simp only [hc_68, if_neg c_69, if_neg c_70, if_neg c_71, if_neg c_72, if_pos c_73, hc_75, if_neg c_76, hc_78, if_neg c_79, if_pos h_80, if_neg h9] at hok; cases hok)
                refine va_iald hx hb hK.1 hP 22 0 rfl rfl (vp_in_iff.mpr h_81) dM_step_88 ?_
                have h_82 : vpin ((r_77.1.2.1 27) ((((r_77.1.2.1 25) r_74.2.toNatClampNeg) + (i - r_77.2)).toNatClampNeg)) 8300 := Decidable.byContradiction (fun h9 => by simp only [hc_68, if_neg c_69, if_neg c_70, if_neg c_71, if_neg c_72, if_pos c_73, hc_75, if_neg c_76, hc_78, if_neg c_79, if_pos h_80, if_pos h_81, if_neg h9] at hok; cases hok)
                refine va_iald hx hb hK.1 hP 6 0 rfl rfl (vp_in_iff.mpr h_82) dM_step_89 ?_
                simp only [hc_68, if_neg c_69, if_neg c_70, if_neg c_71, if_neg c_72, if_pos c_73, hc_75, if_neg c_76, hc_78, if_neg c_79, if_pos h_80, if_pos h_81, if_pos h_82] at hok
                have hF := Option.some.inj hok
                subst hF
                exact W.iret hx hb hr (fun t ht9 hW => ⟨⟨_, (), rfl, rfl, by rw [ht9]; exact hP, hD⟩, hS.F ht9⟩) hS.2.2 dM_step_90
              · skip
                refine lv_iload hx hb dM_step_66 (lv_at hl 0 rfl) ?_
                refine lv_goto (tgt := 90) hx hb dM_step_68 (by decide) ?_
                simp only [hc_68, if_neg c_69, if_neg c_70, if_neg c_71, if_neg c_72, if_pos c_73, hc_75, if_neg c_76, hc_78, if_pos c_79] at hok
                have hF := Option.some.inj hok
                subst hF
                exact W.iret hx hb hr (fun t ht9 hW => ⟨⟨_, (), rfl, rfl, by rw [ht9]; exact hP, hD⟩, hS.F ht9⟩) hS.2.2 dM_step_90
            · skip
              refine lv_iload_n hx hb dM_step_50 rfl (lv_at hl 0 rfl) ?_
              simp only [hc_68, if_neg c_69, if_neg c_70, if_neg c_71, if_neg c_72, if_pos c_73, hc_75, if_pos c_76] at hok
              have hF := Option.some.inj hok
              subst hF
              exact W.iret hx hb hr (fun t ht9 hW => ⟨⟨_, (), rfl, rfl, by rw [ht9]; exact hP, hD⟩, hS.F ht9⟩) hS.2.2 dM_step_51
          · skip
            refine lv_iconst (v := -1) hx hb dM_step_37 (by decide) ?_
            simp only [hc_68, if_neg c_69, if_neg c_70, if_neg c_71, if_neg c_72, if_neg c_73] at hok
            have hF := Option.some.inj hok
            subst hF
            exact W.iret hx hb hr (fun t ht9 hW => ⟨⟨_, (), rfl, rfl, by rw [ht9]; exact hP, hD⟩, hS.F ht9⟩) hS.2.2 dM_step_38
