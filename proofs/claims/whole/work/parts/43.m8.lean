def sMakM (N9 N2 : Nat) : Nat → MSt → Option (MSt)
  | 0, _ => none
  | n + 1, zs => if (zs.1 20) ≤ 0 then
      some (zs)
    else
      if vpin ((mV 20 ((zs.1 20) - 1) zs).1 20) 140 then
        (match sM_divide (mV 20 ((zs.1 20) - 1) zs) (((mV 20 ((zs.1 20) - 1) zs).2.1 16) (((mV 20 ((zs.1 20) - 1) zs).1 20).toNatClampNeg)) (((mV 20 ((zs.1 20) - 1) zs).2.1 17) (((mV 20 ((zs.1 20) - 1) zs).1 20).toNatClampNeg)) (((mV 20 ((zs.1 20) - 1) zs).2.1 18) (((mV 20 ((zs.1 20) - 1) zs).1 20).toNatClampNeg)) (((mV 20 ((zs.1 20) - 1) zs).2.1 19) (((mV 20 ((zs.1 20) - 1) zs).1 20).toNatClampNeg)) N9 N2 with
        | none => none
        | some r_18 => sMakM N9 N2 n r_18)
      else
        none
def sMakL  : Nat → MSt → Int32 → Int32 → Option (MSt × Int32 × Int32)
  | 0, _, _, _ => none
  | n + 1, zs, nn, wi => if 64 ≤ wi then
      some (zs, nn, wi)
    else
      if vpin wi 64 then
        if (((mI 32 wi 0 zs).2.1 1) wi.toNatClampNeg) = 0 then
          sMakL  n (mI 32 wi 0 zs) nn (wi + 1)
        else
          (match sM_piece (mI 32 wi 0 zs) wi 0 1 1 1 with
          | none => none
          | some r_23 => if vpin nn 9000 then
              sMakL  n (mI 15 nn r_23.2 r_23.1) (nn + 1) (wi + 1)
            else
              none)
      else
        none
def sM_make (mz : MSt) (N9 : Nat) (N2 : Nat) : Option (MSt) :=
  (match sMakL  N9 (mV 20 0 (mV 31 0 (mV 30 0 (mV 29 0 (mV 28 0 (mV 14 0 (mV 13 0 mz))))))) 0 0 with
  | none => none
  | some T_8 => (match sM_push T_8.1 0 T_8.2.1 (-1) 0 with
    | none => none
    | some r_11 => (match sMakM N9 N2 N9 r_11  with
      | none => none
      | some T_13 => some T_13)))

set_option maxHeartbeats 4000000 in
set_option maxRecDepth 100000 in
theorem cM_make (l : Launch) (g : CX) (sz : Nat) (aM : Nat) (b : Nat → Nat) (mz : MSt) (N9 : Nat) (N2 : Nat) (r0 : MSt) (hok : sM_make mz N9 N2 = some r0) : Met l yM_make (wm yM_make kM_make 3 none) ({ frames := 6, cells := 0, slots := 0, locals := 193 }) (rw g [.ref aM] (mX g aM b mz) sz) (va_Qv (fun (_u : Unit) => True) (rB g (va_A (mX g aM b mz) sz) (fun _u => (mX g aM b r0))) (va_A (mX g aM b mz) sz)) 0 0 (va_A (mX g aM b mz) sz) := by
  refine Met.ofW (cc := kM_make) (maxL := 3) (ret := none) (by decide) rfl ?_
  intro p e s m args below meth c s₁ B hml hv
  obtain ⟨rfl, hsz, hK, hP, hD0⟩ := hv
  have hx := B.exec
  have hb := B.bytes
  have hr := B.returns
  have ht : ∀ w ∈ wT, w.before _ s = true := fun w h => atoms_spec (ws := wm yM_make kM_make 3 none) B.pre w (List.mem_cons_of_mem _ h)
  have hown : s.vm.findClass "NodeMakerModel" = some m.cls := findClass_of_methodNamed B.named
  have hlocks := B.notSynchronized
  subst hsz
  have hD := hD0.self (sz := s.heap.size)
  generalize hAe : va_A (mX g aM b mz) s.heap.size = A at hD ⊢
  have hA : ∀ q : Nat, s.heap.size ≤ q → A q := fun q h => by rw [← hAe]; exact Or.inr h
  have hS : va_S A s.heap s.heap [] := va_S.rf
  have hl := lv_entry ([.ref aM]) (n := 3) (Nat.le_of_ble_eq_true rfl)
  rw [lg_entry_eq]
  generalize (lg_sl ([.ref aM]) ++ List.replicate (3 - (lg_sl ([.ref aM])).length) Slot.unset).toArray = ls at hl ⊢
  have hl : lv_has ls 3 [(0, .ref aM)] := hl
  refine lv_aload_n hx hb dM_make_0 rfl (lv_at hl 0 rfl) ?_
  refine lv_iconst (v := 0) hx hb dM_make_1 (by decide) ?_
  refine va_put (D := g.1) (ci := 6) (v := .int 0) (ty := .int) (C := "NodeMakerModel") (T := Fd_M) (N := 37) hx hb ht i_M ty_M ty_M_ok nm_M hown hK.1 hP hD hS 0 rfl rfl 13 (by decide) (ht _ q_538) (fun _ h9 => h9) rfl (by decide +kernel) rfl rfl (Nat.le_of_ble_eq_true rfl) dM_make_2 (fun H locs hP hD hS => ?_)
  have hP : va_P g.1 vwCl (mX g aM b (mV 13 0 mz)) H := hP
  have hD : va_D A (mX g aM b (mV 13 0 mz)) := hD
  simp only [sM_make] at hok
  obtain ⟨z_1, ez_1⟩ : ∃ x, x = mV 13 0 mz := ⟨_, rfl⟩
  rw [← ez_1] at hP hD hok
  refine lv_aload_n hx hb dM_make_5 rfl (lv_at hl 0 rfl) ?_
  refine lv_iconst (v := 0) hx hb dM_make_6 (by decide) ?_
  refine va_put (D := g.1) (ci := 6) (v := .int 0) (ty := .int) (C := "NodeMakerModel") (T := Fd_M) (N := 37) hx hb ht i_M ty_M ty_M_ok nm_M hown hK.1 hP hD hS 0 rfl rfl 14 (by decide) (ht _ q_539) (fun _ h9 => h9) rfl (by decide +kernel) rfl rfl (Nat.le_of_ble_eq_true rfl) dM_make_7 (fun H locs hP hD hS => ?_)
  have hP : va_P g.1 vwCl (mX g aM b (mV 14 0 z_1)) H := hP
  have hD : va_D A (mX g aM b (mV 14 0 z_1)) := hD
  obtain ⟨z_2, ez_2⟩ : ∃ x, x = mV 14 0 z_1 := ⟨_, rfl⟩
  rw [← ez_2] at hP hD hok
  refine lv_aload_n hx hb dM_make_10 rfl (lv_at hl 0 rfl) ?_
  refine lv_iconst (v := 0) hx hb dM_make_11 (by decide) ?_
  refine va_put (D := g.1) (ci := 6) (v := .int 0) (ty := .int) (C := "NodeMakerModel") (T := Fd_M) (N := 37) hx hb ht i_M ty_M ty_M_ok nm_M hown hK.1 hP hD hS 0 rfl rfl 28 (by decide) (ht _ q_553) (fun _ h9 => h9) rfl (by decide +kernel) rfl rfl (Nat.le_of_ble_eq_true rfl) dM_make_12 (fun H locs hP hD hS => ?_)
  have hP : va_P g.1 vwCl (mX g aM b (mV 28 0 z_2)) H := hP
  have hD : va_D A (mX g aM b (mV 28 0 z_2)) := hD
  obtain ⟨z_3, ez_3⟩ : ∃ x, x = mV 28 0 z_2 := ⟨_, rfl⟩
  rw [← ez_3] at hP hD hok
  refine lv_aload_n hx hb dM_make_15 rfl (lv_at hl 0 rfl) ?_
  refine lv_iconst (v := 0) hx hb dM_make_16 (by decide) ?_
  refine va_put (D := g.1) (ci := 6) (v := .int 0) (ty := .int) (C := "NodeMakerModel") (T := Fd_M) (N := 37) hx hb ht i_M ty_M ty_M_ok nm_M hown hK.1 hP hD hS 0 rfl rfl 29 (by decide) (ht _ q_554) (fun _ h9 => h9) rfl (by decide +kernel) rfl rfl (Nat.le_of_ble_eq_true rfl) dM_make_17 (fun H locs hP hD hS => ?_)
  have hP : va_P g.1 vwCl (mX g aM b (mV 29 0 z_3)) H := hP
  have hD : va_D A (mX g aM b (mV 29 0 z_3)) := hD
  obtain ⟨z_4, ez_4⟩ : ∃ x, x = mV 29 0 z_3 := ⟨_, rfl⟩
  rw [← ez_4] at hP hD hok
  refine lv_aload_n hx hb dM_make_20 rfl (lv_at hl 0 rfl) ?_
  refine lv_iconst (v := 0) hx hb dM_make_21 (by decide) ?_
  refine va_put (D := g.1) (ci := 6) (v := .int 0) (ty := .int) (C := "NodeMakerModel") (T := Fd_M) (N := 37) hx hb ht i_M ty_M ty_M_ok nm_M hown hK.1 hP hD hS 0 rfl rfl 30 (by decide) (ht _ q_555) (fun _ h9 => h9) rfl (by decide +kernel) rfl rfl (Nat.le_of_ble_eq_true rfl) dM_make_22 (fun H locs hP hD hS => ?_)
  have hP : va_P g.1 vwCl (mX g aM b (mV 30 0 z_4)) H := hP
  have hD : va_D A (mX g aM b (mV 30 0 z_4)) := hD
  obtain ⟨z_5, ez_5⟩ : ∃ x, x = mV 30 0 z_4 := ⟨_, rfl⟩
  rw [← ez_5] at hP hD hok
  refine lv_aload_n hx hb dM_make_25 rfl (lv_at hl 0 rfl) ?_
  refine lv_iconst (v := 0) hx hb dM_make_26 (by decide) ?_
  refine va_put (D := g.1) (ci := 6) (v := .int 0) (ty := .int) (C := "NodeMakerModel") (T := Fd_M) (N := 37) hx hb ht i_M ty_M ty_M_ok nm_M hown hK.1 hP hD hS 0 rfl rfl 31 (by decide) (ht _ q_556) (fun _ h9 => h9) rfl (by decide +kernel) rfl rfl (Nat.le_of_ble_eq_true rfl) dM_make_27 (fun H locs hP hD hS => ?_)
  have hP : va_P g.1 vwCl (mX g aM b (mV 31 0 z_5)) H := hP
  have hD : va_D A (mX g aM b (mV 31 0 z_5)) := hD
  obtain ⟨z_6, ez_6⟩ : ∃ x, x = mV 31 0 z_5 := ⟨_, rfl⟩
  rw [← ez_6] at hP hD hok
  refine lv_aload_n hx hb dM_make_30 rfl (lv_at hl 0 rfl) ?_
  refine lv_iconst (v := 0) hx hb dM_make_31 (by decide) ?_
  refine va_put (D := g.1) (ci := 6) (v := .int 0) (ty := .int) (C := "NodeMakerModel") (T := Fd_M) (N := 37) hx hb ht i_M ty_M ty_M_ok nm_M hown hK.1 hP hD hS 0 rfl rfl 20 (by decide) (ht _ q_545) (fun _ h9 => h9) rfl (by decide +kernel) rfl rfl (Nat.le_of_ble_eq_true rfl) dM_make_32 (fun H locs hP hD hS => ?_)
  have hP : va_P g.1 vwCl (mX g aM b (mV 20 0 z_6)) H := hP
  have hD : va_D A (mX g aM b (mV 20 0 z_6)) := hD
  obtain ⟨z_7, ez_7⟩ : ∃ x, x = mV 20 0 z_6 := ⟨_, rfl⟩
  rw [← ez_7] at hP hD hok
  refine lv_iconst (v := 0) hx hb dM_make_35 (by decide) ?_
  refine lv_istore_n (lv' := [(1, .int 0), (0, .ref aM)]) hx hb dM_make_36 rfl hl (by decide) rfl (fun ls hl => ?_)
  refine lv_iconst (v := 0) hx hb dM_make_37 (by decide) ?_
  refine lv_istore_n (lv' := [(2, .int 0), (1, .int 0), (0, .ref aM)]) hx hb dM_make_38 rfl hl (by decide) rfl (fun ls hl => ?_)
  obtain ⟨T_8, hT_9⟩ : ∃ t9, sMakL  N9 z_7 0 0 = some t9 := by
    cases hc9 : sMakL  N9 z_7 0 0 with
    | some t9 => exact ⟨t9, rfl⟩
    | none => exfalso; simp only [hc9] at hok; cases hok
  have loop39 : ∀ (n : Nat) (zs : MSt) (nn : Int32) (wi : Int32) (H : Heap) (locs : List Loc) (ls : Array Slot), sMakL  n zs nn wi = some T_8 → va_P g.1 vwCl (mX g aM b zs) H → va_D A (mX g aM b zs) → va_S A s.heap H locs → lv_has ls 3 [(2, .int wi), (1, .int nn), (0, .ref aM)] → W p l e (headSpec (wm yM_make kM_make 3 none) ({ frames := 6, cells := 0, slots := 0, locals := 193 })).room s m ([.ref aM] : List Value).toArray below meth c H locs (0) (0) (MQ below (va_Qv (fun (_u : Unit) => True) (rB g A (fun _u => (mX g aM b r0))) A) ([.ref aM] : List Value).toArray s 0 0 A) (F0 m 39 ls []) := by
    intro n39
    induction n39 with
    | zero => intro zs nn wi H locs ls hL39 hP hD hS hl; cases hL39
    | succ n39 ih39 =>
      intro zs nn wi H locs ls hL39 hP hD hS hl
      refine lv_iload_n hx hb dM_make_39 rfl (lv_at hl 0 rfl) ?_
      refine lv_bipush (v := 64) hx hb dM_make_40 (by decide) ?_
      refine lv_icmp_ge (tgt := 85) hx hb dM_make_42 (by decide) (fun c_10 => ?_) (fun c_10 => ?_)
      · skip
        simp only [sMakL, if_pos c_10] at hL39
        have hex : (zs, nn, wi) = T_8 := Option.some.inj hL39
        have e_zs : zs = T_8.1 := by rw [← hex]
        have e_nn : nn = T_8.2.1 := by rw [← hex]
        have e_wi : wi = T_8.2.2 := by rw [← hex]
        subst e_zs
        subst e_nn
        subst e_wi
        refine lv_aload_n hx hb dM_make_85 rfl (lv_at hl 2 rfl) ?_
        refine lv_iconst (v := 0) hx hb dM_make_86 (by decide) ?_
        refine lv_iload_n hx hb dM_make_87 rfl (lv_at hl 1 rfl) ?_
        refine lv_iconst (v := -1) hx hb dM_make_88 (by decide) ?_
        refine lv_iconst (v := 0) hx hb dM_make_89 (by decide) ?_
        obtain ⟨r_11, hc_12⟩ : ∃ r9, sM_push T_8.1 0 T_8.2.1 (-1) 0 = some r9 := by
          cases hc9 : sM_push T_8.1 0 T_8.2.1 (-1) 0 with
          | some r9 => exact ⟨r9, rfl⟩
          | none => exfalso; simp only [hT_9, hc9] at hok; cases hok
        refine rw_vA (va_runV (As := [.int 0, .int T_8.2.1, .int (-1), .int 0]) (rest := []) ⟨hx, hb, hml, hown, ht⟩ (cM_push l g H.size aM b T_8.1 0 T_8.2.1 (-1) 0  r_11 hc_12) (cwV 4 ht (g_V q_704 q_706 q_21 q_39 q_707) rfl rfl rfl hd_M_push ⟨Nat.le_of_ble_eq_true rfl, Nat.le_of_ble_eq_true rfl⟩) (rw_V hK hP hD (va_recv hK.1 hP (ci := 6) (q0 := 0) rfl rfl)) rfl rfl hl.1 rfl (lv_room (Nat.le_of_ble_eq_true rfl)) dM_make_90 ⟨Nat.zero_le _, Nat.zero_le _⟩) hD hS hA (fun _ H locs _ hP hD hS => ?_)
        have hP : va_P g.1 vwCl (mX g aM b (r_11)) H := hP
        have hD : va_D A (mX g aM b (r_11)) := hD
        obtain ⟨T_13, hT_14⟩ : ∃ t9, sMakM N9 N2 N9 r_11  = some t9 := by
          cases hc9 : sMakM N9 N2 N9 r_11  with
          | some t9 => exact ⟨t9, rfl⟩
          | none => exfalso; simp only [hT_9, hc_12, hc9] at hok; cases hok
        have loop93 : ∀ (n : Nat) (zs : MSt) (H : Heap) (locs : List Loc) (ls : Array Slot), sMakM N9 N2 n zs = some T_13 → va_P g.1 vwCl (mX g aM b zs) H → va_D A (mX g aM b zs) → va_S A s.heap H locs → lv_has ls 3 [(0, .ref aM)] → W p l e (headSpec (wm yM_make kM_make 3 none) ({ frames := 6, cells := 0, slots := 0, locals := 193 })).room s m ([.ref aM] : List Value).toArray below meth c H locs (0) (0) (MQ below (va_Qv (fun (_u : Unit) => True) (rB g A (fun _u => (mX g aM b r0))) A) ([.ref aM] : List Value).toArray s 0 0 A) (F0 m 93 ls []) := by
          intro n93
          induction n93 with
          | zero => intro zs H locs ls hL93 hP hD hS hl; cases hL93
          | succ n93 ih93 =>
            intro zs H locs ls hL93 hP hD hS hl
            refine lv_aload_n hx hb dM_make_93 rfl (lv_at hl 0 rfl) ?_
            refine va_get (D := g.1) (ci := 6) (v := .int (zs.1 20)) (C := "NodeMakerModel") (T := Fd_M) (N := 37) hx hb ht i_M hown hK.1 hP 0 rfl rfl 20 (by decide) (ht _ q_545) (fun _ h9 => h9) rfl dM_make_94 ?_
            refine lv_if_le (tgt := 153) hx hb dM_make_97 (by decide) (fun c_15 => ?_) (fun c_15 => ?_)
            · skip
              simp only [sMakM, if_pos c_15] at hL93
              have hex : (zs) = T_13 := Option.some.inj hL93
              have e_zs : zs = T_13 := by rw [← hex]
              subst e_zs
              simp only [hT_9, hc_12, hT_14] at hok
              have hF := Option.some.inj hok
              subst hF
              exact W.vret hx hb hr (fun t ht9 hW => ⟨⟨(), rfl, trivial, by rw [ht9]; exact hP, hD⟩, hS.F ht9⟩) hS.2.2 dM_make_153
            · skip
              refine lv_aload_n hx hb dM_make_100 rfl (lv_at hl 0 rfl) ?_
              refine lv_dup hx hb dM_make_101 rfl ?_
              refine va_get (D := g.1) (ci := 6) (v := .int (zs.1 20)) (C := "NodeMakerModel") (T := Fd_M) (N := 37) hx hb ht i_M hown hK.1 hP 0 rfl rfl 20 (by decide) (ht _ q_545) (fun _ h9 => h9) rfl dM_make_102 ?_
              refine lv_iconst (v := 1) hx hb dM_make_105 (by decide) ?_
              refine lv_isub hx hb dM_make_106 ?_
              refine va_put (D := g.1) (ci := 6) (v := .int ((zs.1 20) - 1)) (ty := .int) (C := "NodeMakerModel") (T := Fd_M) (N := 37) hx hb ht i_M ty_M ty_M_ok nm_M hown hK.1 hP hD hS 0 rfl rfl 20 (by decide) (ht _ q_545) (fun _ h9 => h9) rfl (by decide +kernel) rfl rfl (Nat.le_of_ble_eq_true rfl) dM_make_107 (fun H locs hP hD hS => ?_)
              have hP : va_P g.1 vwCl (mX g aM b (mV 20 ((zs.1 20) - 1) zs)) H := hP
              have hD : va_D A (mX g aM b (mV 20 ((zs.1 20) - 1) zs)) := hD
              simp only [sMakM, if_neg c_15] at hL93
              obtain ⟨z_16, ez_16⟩ : ∃ x, x = mV 20 ((zs.1 20) - 1) zs := ⟨_, rfl⟩
              rw [← ez_16] at hP hD hL93
              refine lv_aload_n hx hb dM_make_110 rfl (lv_at hl 0 rfl) ?_
              refine lv_aload_n hx hb dM_make_111 rfl (lv_at hl 0 rfl) ?_
              refine va_get (D := g.1) (ci := 6) (v := .ref (b 16)) (C := "NodeMakerModel") (T := Fd_M) (N := 37) hx hb ht i_M hown hK.1 hP 0 rfl rfl 16 (by decide) (ht _ q_541) (fun _ h9 => h9) rfl dM_make_112 ?_
              refine lv_aload_n hx hb dM_make_115 rfl (lv_at hl 0 rfl) ?_
              refine va_get (D := g.1) (ci := 6) (v := .int (z_16.1 20)) (C := "NodeMakerModel") (T := Fd_M) (N := 37) hx hb ht i_M hown hK.1 hP 0 rfl rfl 20 (by decide) (ht _ q_545) (fun _ h9 => h9) rfl dM_make_116 ?_
              have h_17 : vpin (z_16.1 20) 140 := Decidable.byContradiction (fun h9 => by simp only [if_neg h9] at hL93; cases hL93)
              refine va_iald hx hb hK.1 hP 12 0 rfl rfl (vp_in_iff.mpr h_17) dM_make_119 ?_
              refine lv_aload_n hx hb dM_make_120 rfl (lv_at hl 0 rfl) ?_
              refine va_get (D := g.1) (ci := 6) (v := .ref (b 17)) (C := "NodeMakerModel") (T := Fd_M) (N := 37) hx hb ht i_M hown hK.1 hP 0 rfl rfl 17 (by decide) (ht _ q_542) (fun _ h9 => h9) rfl dM_make_121 ?_
              refine lv_aload_n hx hb dM_make_124 rfl (lv_at hl 0 rfl) ?_
              refine va_get (D := g.1) (ci := 6) (v := .int (z_16.1 20)) (C := "NodeMakerModel") (T := Fd_M) (N := 37) hx hb ht i_M hown hK.1 hP 0 rfl rfl 20 (by decide) (ht _ q_545) (fun _ h9 => h9) rfl dM_make_125 ?_
              refine va_iald hx hb hK.1 hP 13 0 rfl rfl (vp_in_iff.mpr h_17) dM_make_128 ?_
              refine lv_aload_n hx hb dM_make_129 rfl (lv_at hl 0 rfl) ?_
              refine va_get (D := g.1) (ci := 6) (v := .ref (b 18)) (C := "NodeMakerModel") (T := Fd_M) (N := 37) hx hb ht i_M hown hK.1 hP 0 rfl rfl 18 (by decide) (ht _ q_543) (fun _ h9 => h9) rfl dM_make_130 ?_
              refine lv_aload_n hx hb dM_make_133 rfl (lv_at hl 0 rfl) ?_
              refine va_get (D := g.1) (ci := 6) (v := .int (z_16.1 20)) (C := "NodeMakerModel") (T := Fd_M) (N := 37) hx hb ht i_M hown hK.1 hP 0 rfl rfl 20 (by decide) (ht _ q_545) (fun _ h9 => h9) rfl dM_make_134 ?_
              refine va_iald hx hb hK.1 hP 14 0 rfl rfl (vp_in_iff.mpr h_17) dM_make_137 ?_
              refine lv_aload_n hx hb dM_make_138 rfl (lv_at hl 0 rfl) ?_
              refine va_get (D := g.1) (ci := 6) (v := .ref (b 19)) (C := "NodeMakerModel") (T := Fd_M) (N := 37) hx hb ht i_M hown hK.1 hP 0 rfl rfl 19 (by decide) (ht _ q_544) (fun _ h9 => h9) rfl dM_make_139 ?_
              refine lv_aload_n hx hb dM_make_142 rfl (lv_at hl 0 rfl) ?_
              refine va_get (D := g.1) (ci := 6) (v := .int (z_16.1 20)) (C := "NodeMakerModel") (T := Fd_M) (N := 37) hx hb ht i_M hown hK.1 hP 0 rfl rfl 20 (by decide) (ht _ q_545) (fun _ h9 => h9) rfl dM_make_143 ?_
              refine va_iald hx hb hK.1 hP 15 0 rfl rfl (vp_in_iff.mpr h_17) dM_make_146 ?_
              obtain ⟨r_18, hc_19⟩ : ∃ r9, sM_divide z_16 ((z_16.2.1 16) ((z_16.1 20).toNatClampNeg)) ((z_16.2.1 17) ((z_16.1 20).toNatClampNeg)) ((z_16.2.1 18) ((z_16.1 20).toNatClampNeg)) ((z_16.2.1 19) ((z_16.1 20).toNatClampNeg)) N9 N2 = some r9 := by
                cases hc9 : sM_divide z_16 ((z_16.2.1 16) ((z_16.1 20).toNatClampNeg)) ((z_16.2.1 17) ((z_16.1 20).toNatClampNeg)) ((z_16.2.1 18) ((z_16.1 20).toNatClampNeg)) ((z_16.2.1 19) ((z_16.1 20).toNatClampNeg)) N9 N2 with
                | some r9 => exact ⟨r9, rfl⟩
                | none => exfalso; simp only [if_pos h_17, hc9] at hL93; cases hL93
              refine rw_vA (va_runV (As := [.int ((z_16.2.1 16) ((z_16.1 20).toNatClampNeg)), .int ((z_16.2.1 17) ((z_16.1 20).toNatClampNeg)), .int ((z_16.2.1 18) ((z_16.1 20).toNatClampNeg)), .int ((z_16.2.1 19) ((z_16.1 20).toNatClampNeg))]) (rest := []) ⟨hx, hb, hml, hown, ht⟩ (cM_divide l g H.size aM b z_16 ((z_16.2.1 16) ((z_16.1 20).toNatClampNeg)) ((z_16.2.1 17) ((z_16.1 20).toNatClampNeg)) ((z_16.2.1 18) ((z_16.1 20).toNatClampNeg)) ((z_16.2.1 19) ((z_16.1 20).toNatClampNeg)) N9 N2 r_18 hc_19) (cwV 4 ht (g_V q_708 q_710 q_22 q_39 q_711) rfl rfl rfl hd_M_divide ⟨Nat.le_of_ble_eq_true rfl, Nat.le_of_ble_eq_true rfl⟩) (rw_V hK hP hD (va_recv hK.1 hP (ci := 6) (q0 := 0) rfl rfl)) rfl rfl hl.1 rfl (lv_room (Nat.le_of_ble_eq_true rfl)) dM_make_147 ⟨Nat.zero_le _, Nat.zero_le _⟩) hD hS hA (fun _ H locs _ hP hD hS => ?_)
              have hP : va_P g.1 vwCl (mX g aM b (r_18)) H := hP
              have hD : va_D A (mX g aM b (r_18)) := hD
              refine lv_goto (tgt := 93) hx hb dM_make_150 (by decide) ?_
              simp only [if_pos h_17, hc_19] at hL93
              exact ih93 r_18 H locs ls hL93 hP hD hS (lv_sub hl [0] rfl)
        exact loop93 N9 r_11  _ _ ls hT_14 hP hD hS (lv_sub hl [2] rfl)
      · skip
        refine lv_aload_n hx hb dM_make_45 rfl (lv_at hl 2 rfl) ?_
        refine va_get (D := g.1) (ci := 6) (v := .ref (b 32)) (C := "NodeMakerModel") (T := Fd_M) (N := 37) hx hb ht i_M hown hK.1 hP 0 rfl rfl 32 (by decide) (ht _ q_557) (fun _ h9 => h9) rfl dM_make_46 ?_
        refine lv_iload_n hx hb dM_make_49 rfl (lv_at hl 0 rfl) ?_
        refine lv_iconst (v := 0) hx hb dM_make_50 (by decide) ?_
        have h_20 : vpin wi 64 := Decidable.byContradiction (fun h9 => by simp only [sMakL, if_neg c_10, if_neg h9] at hL39; cases hL39)
        refine va_iast hx hb hK.1 hP hD hS 23 0 rfl rfl (vp_in_iff.mpr h_20) dM_make_51 (fun H locs hP hD hS => ?_)
        have hP : va_P g.1 vwCl (mX g aM b (mI 32 wi 0 zs)) H := hP
        have hD : va_D A (mX g aM b (mI 32 wi 0 zs)) := hD
        simp only [sMakL, if_neg c_10, if_pos h_20] at hL39
        obtain ⟨z_21, ez_21⟩ : ∃ x, x = mI 32 wi 0 zs := ⟨_, rfl⟩
        rw [← ez_21] at hP hD hL39
        refine lv_aload_n hx hb dM_make_52 rfl (lv_at hl 2 rfl) ?_
        refine va_get (D := g.1) (ci := 6) (v := .ref (b 1)) (C := "NodeMakerModel") (T := Fd_M) (N := 37) hx hb ht i_M hown hK.1 hP 0 rfl rfl 1 (by decide) (ht _ q_526) (fun _ h9 => h9) rfl dM_make_53 ?_
        refine lv_iload_n hx hb dM_make_56 rfl (lv_at hl 0 rfl) ?_
        refine va_zald hx hb hK.1 hP 1 3 rfl rfl (vp_in_iff.mpr h_20) dM_make_57 ?_
        refine lv_if_eq (tgt := 79) hx hb dM_make_58 (by decide) (fun c_22 => ?_) (fun c_22 => ?_)
        · skip
          refine lv_iinc (v := wi + 1) (lv' := [(2, .int (wi + 1)), (1, .int nn), (0, .ref aM)]) hx hb dM_make_79 hl (k := 0) rfl rfl (by decide) rfl (fun ls hl => ?_)
          refine lv_goto (tgt := 39) hx hb dM_make_82 (by decide) ?_
          simp only [if_pos c_22] at hL39
          exact ih39 z_21 nn (wi + 1) H locs ls hL39 hP hD hS (lv_sub hl [0, 1, 2] rfl)
        · skip
          refine lv_aload_n hx hb dM_make_61 rfl (lv_at hl 2 rfl) ?_
          refine va_get (D := g.1) (ci := 6) (v := .ref (b 15)) (C := "NodeMakerModel") (T := Fd_M) (N := 37) hx hb ht i_M hown hK.1 hP 0 rfl rfl 15 (by decide) (ht _ q_540) (fun _ h9 => h9) rfl dM_make_62 ?_
          refine lv_iload_n hx hb dM_make_65 rfl (lv_at hl 1 rfl) ?_
          refine lv_aload_n hx hb dM_make_66 rfl (lv_at hl 2 rfl) ?_
          refine lv_iload_n hx hb dM_make_67 rfl (lv_at hl 0 rfl) ?_
          refine lv_lconst (v := 0) hx hb dM_make_68 (by decide) ?_
          refine lv_lconst (v := 1) hx hb dM_make_69 (by decide) ?_
          refine lv_lconst (v := 1) hx hb dM_make_70 (by decide) ?_
          refine lv_lconst (v := 1) hx hb dM_make_71 (by decide) ?_
          obtain ⟨r_23, hc_24⟩ : ∃ r9, sM_piece z_21 wi 0 1 1 1 = some r9 := by
            cases hc9 : sM_piece z_21 wi 0 1 1 1 with
            | some r9 => exact ⟨r9, rfl⟩
            | none => exfalso; simp only [if_neg c_22, hc9] at hL39; cases hL39
          refine rw_iA (va_runV (As := [.int wi, .long 0, .long 1, .long 1, .long 1]) (rest := [.int nn, .ref (b 15)]) ⟨hx, hb, hml, hown, ht⟩ (cM_piece l g H.size aM b z_21 wi 0 1 1 1  r_23 hc_24) (cwV 5 ht (g_V q_700 q_702 q_20 q_39 q_703) rfl rfl rfl hd_M_piece ⟨Nat.le_of_ble_eq_true rfl, Nat.le_of_ble_eq_true rfl⟩) (rw_V hK hP hD (va_recv hK.1 hP (ci := 6) (q0 := 0) rfl rfl)) rfl rfl hl.1 rfl (lv_room (Nat.le_of_ble_eq_true rfl)) dM_make_72 ⟨Nat.zero_le _, Nat.zero_le _⟩) hD hS hA (fun rr _ H locs hw hP hD hS => ?_)
          subst hw
          have hP : va_P g.1 vwCl (mX g aM b (r_23.1)) H := hP
          have hD : va_D A (mX g aM b (r_23.1)) := hD
          have h_25 : vpin nn 9000 := Decidable.byContradiction (fun h9 => by simp only [if_neg c_22, hc_24, if_neg h9] at hL39; cases hL39)
          refine va_iast hx hb hK.1 hP hD hS 11 0 rfl rfl (vp_in_iff.mpr h_25) dM_make_75 (fun H locs hP hD hS => ?_)
          have hP : va_P g.1 vwCl (mX g aM b (mI 15 nn r_23.2 r_23.1)) H := hP
          have hD : va_D A (mX g aM b (mI 15 nn r_23.2 r_23.1)) := hD
          simp only [if_neg c_22, hc_24, if_pos h_25] at hL39
          obtain ⟨z_26, ez_26⟩ : ∃ x, x = mI 15 nn r_23.2 r_23.1 := ⟨_, rfl⟩
          rw [← ez_26] at hP hD hL39
          refine lv_iinc (v := nn + 1) (lv' := [(1, .int (nn + 1)), (2, .int wi), (0, .ref aM)]) hx hb dM_make_76 hl (k := 1) rfl rfl (by decide) rfl (fun ls hl => ?_)
          refine lv_iinc (v := wi + 1) (lv' := [(2, .int (wi + 1)), (1, .int (nn + 1)), (0, .ref aM)]) hx hb dM_make_79 hl (k := 1) rfl rfl (by decide) rfl (fun ls hl => ?_)
          refine lv_goto (tgt := 39) hx hb dM_make_82 (by decide) ?_
          exact ih39 z_26 (nn + 1) (wi + 1) H locs ls hL39 hP hD hS (lv_sub hl [0, 1, 2] rfl)
  exact loop39 N9 z_7 0 0 _ _ ls hT_9 hP hD hS (lv_sub hl [0, 1, 2] rfl)

def sM_know (mz : MSt) (N9 : Nat) (N2 : Nat) : Option (MSt) :=
  if (mz.1 7) = 0 then
    (match sM_make mz  N9 N2 with
    | none => none
    | some r_28 => some (mV 7 1 r_28))
  else
    some mz

set_option maxHeartbeats 4000000 in
set_option maxRecDepth 100000 in
theorem cM_know (l : Launch) (g : CX) (sz : Nat) (aM : Nat) (b : Nat → Nat) (mz : MSt) (N9 : Nat) (N2 : Nat) (r0 : MSt) (hok : sM_know mz N9 N2 = some r0) : Met l yM_know (wm yM_know kM_know 1 none) ({ frames := 7, cells := 0, slots := 0, locals := 215 }) (rw g [.ref aM] (mX g aM b mz) sz) (va_Qv (fun (_u : Unit) => True) (rB g (va_A (mX g aM b mz) sz) (fun _u => (mX g aM b r0))) (va_A (mX g aM b mz) sz)) 0 0 (va_A (mX g aM b mz) sz) := by
  refine Met.ofW (cc := kM_know) (maxL := 1) (ret := none) (by decide) rfl ?_
  intro p e s m args below meth c s₁ B hml hv
  obtain ⟨rfl, hsz, hK, hP, hD0⟩ := hv
  have hx := B.exec
  have hb := B.bytes
  have hr := B.returns
  have ht : ∀ w ∈ wT, w.before _ s = true := fun w h => atoms_spec (ws := wm yM_know kM_know 1 none) B.pre w (List.mem_cons_of_mem _ h)
  have hown : s.vm.findClass "NodeMakerModel" = some m.cls := findClass_of_methodNamed B.named
  have hlocks := B.notSynchronized
  subst hsz
  have hD := hD0.self (sz := s.heap.size)
  generalize hAe : va_A (mX g aM b mz) s.heap.size = A at hD ⊢
  have hA : ∀ q : Nat, s.heap.size ≤ q → A q := fun q h => by rw [← hAe]; exact Or.inr h
  have hS : va_S A s.heap s.heap [] := va_S.rf
  have hl := lv_entry ([.ref aM]) (n := 1) (Nat.le_of_ble_eq_true rfl)
  rw [lg_entry_eq]
  generalize (lg_sl ([.ref aM]) ++ List.replicate (1 - (lg_sl ([.ref aM])).length) Slot.unset).toArray = ls at hl ⊢
  have hl : lv_has ls 1 [(0, .ref aM)] := hl
  refine lv_aload_n hx hb dM_know_0 rfl (lv_at hl 0 rfl) ?_
  refine va_get (D := g.1) (ci := 6) (v := .int (mz.1 7)) (C := "NodeMakerModel") (T := Fd_M) (N := 37) hx hb ht i_M hown hK.1 hP 0 rfl rfl 7 (by decide) (ht _ q_532) (fun _ h9 => h9) rfl dM_know_1 ?_
  refine lv_if_ne (tgt := 16) hx hb dM_know_4 (by decide) (fun c_27 => ?_) (fun c_27 => ?_)
  · skip
    simp only [sM_know, if_neg c_27] at hok
    have hF := Option.some.inj hok
    subst hF
    exact W.vret hx hb hr (fun t ht9 hW => ⟨⟨(), rfl, trivial, by rw [ht9]; exact hP, hD⟩, hS.F ht9⟩) hS.2.2 dM_know_16
  · skip
    refine lv_aload_n hx hb dM_know_7 rfl (lv_at hl 0 rfl) ?_
    obtain ⟨r_28, hc_29⟩ : ∃ r9, sM_make mz  N9 N2 = some r9 := by
      cases hc9 : sM_make mz  N9 N2 with
      | some r9 => exact ⟨r9, rfl⟩
      | none => exfalso; simp only [sM_know, if_pos c_27, hc9] at hok; cases hok
    refine rw_vA (va_runV (As := []) (rest := []) ⟨hx, hb, hml, hown, ht⟩ (cM_make l g s.heap.size aM b mz  N9 N2 r_28 hc_29) (cwV 0 ht (g_V q_696 q_698 q_19 q_39 q_699) rfl rfl rfl hd_M_make ⟨Nat.le_of_ble_eq_true rfl, Nat.le_of_ble_eq_true rfl⟩) (rw_V hK hP hD (va_recv hK.1 hP (ci := 6) (q0 := 0) rfl rfl)) rfl rfl hl.1 rfl (lv_room (Nat.le_of_ble_eq_true rfl)) dM_know_8 ⟨Nat.zero_le _, Nat.zero_le _⟩) hD hS hA (fun _ H locs _ hP hD hS => ?_)
    have hP : va_P g.1 vwCl (mX g aM b (r_28)) H := hP
    have hD : va_D A (mX g aM b (r_28)) := hD
    refine lv_aload_n hx hb dM_know_11 rfl (lv_at hl 0 rfl) ?_
    refine lv_iconst (v := 1) hx hb dM_know_12 (by decide) ?_
    refine va_put (D := g.1) (ci := 6) (v := .int 1) (ty := .boolean) (C := "NodeMakerModel") (T := Fd_M) (N := 37) hx hb ht i_M ty_M ty_M_ok nm_M hown hK.1 hP hD hS 0 rfl rfl 7 (by decide) (ht _ q_532) (fun _ h9 => h9) rfl (by decide +kernel) rfl rfl (Nat.le_of_ble_eq_true rfl) dM_know_13 (fun H locs hP hD hS => ?_)
    have hP : va_P g.1 vwCl (mX g aM b (mV 7 1 r_28)) H := hP
    have hD : va_D A (mX g aM b (mV 7 1 r_28)) := hD
    simp only [sM_know, if_pos c_27, hc_29] at hok
    obtain ⟨z_30, ez_30⟩ : ∃ x, x = mV 7 1 r_28 := ⟨_, rfl⟩
    rw [← ez_30] at hP hD hok
    have hF := Option.some.inj hok
    subst hF
    exact W.vret hx hb hr (fun t ht9 hW => ⟨⟨(), rfl, trivial, by rw [ht9]; exact hP, hD⟩, hS.F ht9⟩) hS.2.2 dM_know_16
