/-- the object's cells: itself, its tree -/
abbrev nX (g : CX) (aN : Nat) (hw wx wy : Int32) (ad q cp : Nat → Nat) (f : Nat → Nat → Int32) (Rw : Nat → List Int32) (sl : Nat → Option Nat) (cnt h st : Int32) : va_W := (aN, .inr (5, [.ref (ad 0), .int hw, .int wx, .int wy])) :: treeX g ad q cp f Rw sl cnt h st
theorem sw_out3 {x : Int32} (h0 : ¬ x = 0) (h1 : ¬ x = 1) (h2 : ¬ x = 2) : x.toInt < 0 ∨ 2 < x.toInt := by
  have a0 : x.toInt ≠ 0 := fun h => h0 (Int32.toInt_inj.mp (by rw [h]; rfl))
  have a1 : x.toInt ≠ 1 := fun h => h1 (Int32.toInt_inj.mp (by rw [h]; rfl))
  have a2 : x.toInt ≠ 2 := fun h => h2 (Int32.toInt_inj.mp (by rw [h]; rfl))
  omega
theorem sw_out5 {x : Int32} (h0 : ¬ x = 0) (h1 : ¬ x = 1) (h2 : ¬ x = 2) (h3 : ¬ x = 3) (h4 : ¬ x = 4) : x.toInt < 0 ∨ 4 < x.toInt := by
  have a0 : x.toInt ≠ 0 := fun h => h0 (Int32.toInt_inj.mp (by rw [h]; rfl))
  have a1 : x.toInt ≠ 1 := fun h => h1 (Int32.toInt_inj.mp (by rw [h]; rfl))
  have a2 : x.toInt ≠ 2 := fun h => h2 (Int32.toInt_inj.mp (by rw [h]; rfl))
  have a3 : x.toInt ≠ 3 := fun h => h3 (Int32.toInt_inj.mp (by rw [h]; rfl))
  have a4 : x.toInt ≠ 4 := fun h => h4 (Int32.toInt_inj.mp (by rw [h]; rfl))
  omega
theorem sw_out6 {x : Int32} (h0 : ¬ x = 0) (h1 : ¬ x = 1) (h2 : ¬ x = 2) (h3 : ¬ x = 3) (h4 : ¬ x = 4) (h5 : ¬ x = 5) : x.toInt < 0 ∨ 5 < x.toInt := by
  have a0 : x.toInt ≠ 0 := fun h => h0 (Int32.toInt_inj.mp (by rw [h]; rfl))
  have a1 : x.toInt ≠ 1 := fun h => h1 (Int32.toInt_inj.mp (by rw [h]; rfl))
  have a2 : x.toInt ≠ 2 := fun h => h2 (Int32.toInt_inj.mp (by rw [h]; rfl))
  have a3 : x.toInt ≠ 3 := fun h => h3 (Int32.toInt_inj.mp (by rw [h]; rfl))
  have a4 : x.toInt ≠ 4 := fun h => h4 (Int32.toInt_inj.mp (by rw [h]; rfl))
  have a5 : x.toInt ≠ 5 := fun h => h5 (Int32.toInt_inj.mp (by rw [h]; rfl))
  omega
theorem hd_N_init : yN_init.cls ≠ "java/lang/invoke/MethodHandle" ∧ yN_init.cls ≠ "java/lang/invoke/VarHandle" ∧ (parseMethodDescriptor yN_init.desc).map (fun d => d.parameters.length) = some 0 := by decide +kernel
theorem hd_N_put : yN_put.cls = "NodeMaker" ∧ yN_put.cls ≠ "java/lang/invoke/MethodHandle" ∧ yN_put.cls ≠ "java/lang/invoke/VarHandle" ∧ (parseMethodDescriptor yN_put.desc).map (fun d => d.parameters.length) = some 4 := by decide +kernel
theorem hd_N_isPlace : yN_isPlace.cls = "NodeMaker" ∧ yN_isPlace.cls ≠ "java/lang/invoke/MethodHandle" ∧ yN_isPlace.cls ≠ "java/lang/invoke/VarHandle" ∧ (parseMethodDescriptor yN_isPlace.desc).map (fun d => d.parameters.length) = some 2 := by decide +kernel
theorem hd_N_take : yN_take.cls = "NodeMaker" ∧ yN_take.cls ≠ "java/lang/invoke/MethodHandle" ∧ yN_take.cls ≠ "java/lang/invoke/VarHandle" ∧ (parseMethodDescriptor yN_take.desc).map (fun d => d.parameters.length) = some 1 := by decide +kernel
theorem hd_N_clear : yN_clear.cls = "NodeMaker" ∧ yN_clear.cls ≠ "java/lang/invoke/MethodHandle" ∧ yN_clear.cls ≠ "java/lang/invoke/VarHandle" ∧ (parseMethodDescriptor yN_clear.desc).map (fun d => d.parameters.length) = some 0 := by decide +kernel
theorem hd_N_node : yN_node.cls = "NodeMaker" ∧ yN_node.cls ≠ "java/lang/invoke/MethodHandle" ∧ yN_node.cls ≠ "java/lang/invoke/VarHandle" ∧ (parseMethodDescriptor yN_node.desc).map (fun d => d.parameters.length) = some 2 := by decide +kernel
theorem hd_N_wall : yN_wall.cls = "NodeMaker" ∧ yN_wall.cls ≠ "java/lang/invoke/MethodHandle" ∧ yN_wall.cls ≠ "java/lang/invoke/VarHandle" ∧ (parseMethodDescriptor yN_wall.desc).map (fun d => d.parameters.length) = some 2 := by decide +kernel
theorem hd_N_quotient : yN_quotient.cls = "NodeMaker" ∧ yN_quotient.cls ≠ "java/lang/invoke/MethodHandle" ∧ yN_quotient.cls ≠ "java/lang/invoke/VarHandle" ∧ (parseMethodDescriptor yN_quotient.desc).map (fun d => d.parameters.length) = some 3 := by decide +kernel
theorem hd_N_leaf : yN_leaf.cls = "NodeMaker" ∧ yN_leaf.cls ≠ "java/lang/invoke/MethodHandle" ∧ yN_leaf.cls ≠ "java/lang/invoke/VarHandle" ∧ (parseMethodDescriptor yN_leaf.desc).map (fun d => d.parameters.length) = some 2 := by decide +kernel
theorem hd_N_way : yN_way.cls = "NodeMaker" ∧ yN_way.cls ≠ "java/lang/invoke/MethodHandle" ∧ yN_way.cls ≠ "java/lang/invoke/VarHandle" ∧ (parseMethodDescriptor yN_way.desc).map (fun d => d.parameters.length) = some 2 := by decide +kernel
theorem hd_N_step : yN_step.cls = "NodeMaker" ∧ yN_step.cls ≠ "java/lang/invoke/MethodHandle" ∧ yN_step.cls ≠ "java/lang/invoke/VarHandle" ∧ (parseMethodDescriptor yN_step.desc).map (fun d => d.parameters.length) = some 2 := by decide +kernel
theorem hd_N_of : yN_of.cls = "NodeMaker" ∧ yN_of.cls ≠ "java/lang/invoke/MethodHandle" ∧ yN_of.cls ≠ "java/lang/invoke/VarHandle" ∧ (parseMethodDescriptor yN_of.desc).map (fun d => d.parameters.length) = some 2 := by decide +kernel
theorem hd_N_look : yN_look.cls = "NodeMaker" ∧ yN_look.cls ≠ "java/lang/invoke/MethodHandle" ∧ yN_look.cls ≠ "java/lang/invoke/VarHandle" ∧ (parseMethodDescriptor yN_look.desc).map (fun d => d.parameters.length) = some 1 := by decide +kernel
theorem grow_mono (Wl : Nat → Option WV) (s : TSt) (h st : Int32) : mu s.1 ≤ mu (sT_grow Wl s h st).1.1 := by
  unfold sT_grow
  split
  · exact Nat.le_refl _
  · have h1 := grL_mono Wl 64 0 (sT_fell s)
    have h2 := grA_mono (grL Wl 64 0 (sT_fell s))
    have h3 : mu (grA (grL Wl 64 0 (sT_fell s))).1 ≤ mu (grP Wl s).1.1 := by
      unfold grP
      exact sGL_mono _ _ _ _
    have h0 : mu (sT_fell s).1 = mu s.1 := rfl
    show mu s.1 ≤ mu (csL Wl _ (grP Wl s).1).1
    rw [csL_mu]
    exact Nat.le_trans (Nat.le_trans (Nat.le_trans (Nat.le_of_eq h0.symm) h1) h2) h3
def sN_isPlace (x : Int32) (y : Int32) : Int32 :=
  if x < (-32768) then
    0
  else
    if 32767 < x then
      0
    else
      if y < (-32768) then
        0
      else
        if 32767 < y then
          0
        else
          1
set_option maxHeartbeats 4000000 in
set_option maxRecDepth 100000 in
theorem cN_isPlace (l : Launch) (g : CX) (x : Int32) (y : Int32) : Met l yN_isPlace (wm yN_isPlace kN_isPlace 2 (some .boolean)) ({ frames := 0, cells := 0, slots := 0, locals := 0 }) (ro g [.int x, .int y] (fun _ => True)) (vp_Si (fun r => r = sN_isPlace x y)) 0 0 (fun _ => False) := by
  refine Met.ofW (cc := kN_isPlace) (maxL := 2) (ret := (some .boolean)) (by decide) rfl ?_
  intro p e s m args below meth c s₁ B hml hv
  obtain ⟨rfl, hK, hP⟩ := hv
  have hx := B.exec
  have hb := B.bytes
  have hr := B.returns
  have ht : ∀ w ∈ wT, w.before _ s = true := fun w h => atoms_spec (ws := wm yN_isPlace kN_isPlace 2 (some .boolean)) B.pre w (List.mem_cons_of_mem _ h)
  have hown : s.vm.findClass "NodeMaker" = some m.cls := findClass_of_methodNamed B.named
  have hlocks := B.notSynchronized
  have hl := lv_entry ([.int x, .int y]) (n := 2) (Nat.le_of_ble_eq_true rfl)
  rw [lg_entry_eq]
  generalize (lg_sl ([.int x, .int y]) ++ List.replicate (2 - (lg_sl ([.int x, .int y])).length) Slot.unset).toArray = ls at hl ⊢
  have hl : lv_has ls 2 [(0, .int x), (1, .int y)] := hl
  refine lv_iload_n hx hb dN_isPlace_0 rfl (lv_at hl 0 rfl) ?_
  refine lv_sipush (v := -32768) hx hb dN_isPlace_1 (by decide) ?_
  refine lv_icmp_lt (tgt := 32) hx hb dN_isPlace_4 (by decide) (fun c_1 => ?_) (fun c_1 => ?_)
  · skip
    refine lv_iconst (v := 0) hx hb dN_isPlace_32 (by decide) ?_
    exact W.zret hx hb hr rfl (fun t ht9 hW => ⟨_, rfl, by rw [sN_isPlace, if_pos c_1], ht9⟩) (fun q h => by cases h) dN_isPlace_33
  · skip
    refine lv_iload_n hx hb dN_isPlace_7 rfl (lv_at hl 0 rfl) ?_
    refine lv_sipush (v := 32767) hx hb dN_isPlace_8 (by decide) ?_
    refine lv_icmp_gt (tgt := 32) hx hb dN_isPlace_11 (by decide) (fun c_2 => ?_) (fun c_2 => ?_)
    · skip
      refine lv_iconst (v := 0) hx hb dN_isPlace_32 (by decide) ?_
      exact W.zret hx hb hr rfl (fun t ht9 hW => ⟨_, rfl, by rw [sN_isPlace, if_neg c_1, if_pos c_2], ht9⟩) (fun q h => by cases h) dN_isPlace_33
    · skip
      refine lv_iload_n hx hb dN_isPlace_14 rfl (lv_at hl 1 rfl) ?_
      refine lv_sipush (v := -32768) hx hb dN_isPlace_15 (by decide) ?_
      refine lv_icmp_lt (tgt := 32) hx hb dN_isPlace_18 (by decide) (fun c_3 => ?_) (fun c_3 => ?_)
      · skip
        refine lv_iconst (v := 0) hx hb dN_isPlace_32 (by decide) ?_
        exact W.zret hx hb hr rfl (fun t ht9 hW => ⟨_, rfl, by rw [sN_isPlace, if_neg c_1, if_neg c_2, if_pos c_3], ht9⟩) (fun q h => by cases h) dN_isPlace_33
      · skip
        refine lv_iload_n hx hb dN_isPlace_21 rfl (lv_at hl 1 rfl) ?_
        refine lv_sipush (v := 32767) hx hb dN_isPlace_22 (by decide) ?_
        refine lv_icmp_gt (tgt := 32) hx hb dN_isPlace_25 (by decide) (fun c_4 => ?_) (fun c_4 => ?_)
        · skip
          refine lv_iconst (v := 0) hx hb dN_isPlace_32 (by decide) ?_
          exact W.zret hx hb hr rfl (fun t ht9 hW => ⟨_, rfl, by rw [sN_isPlace, if_neg c_1, if_neg c_2, if_neg c_3, if_pos c_4], ht9⟩) (fun q h => by cases h) dN_isPlace_33
        · skip
          refine lv_iconst (v := 1) hx hb dN_isPlace_28 (by decide) ?_
          refine lv_goto (tgt := 33) hx hb dN_isPlace_29 (by decide) ?_
          exact W.zret hx hb hr rfl (fun t ht9 hW => ⟨_, rfl, by rw [sN_isPlace, if_neg c_1, if_neg c_2, if_neg c_3, if_neg c_4], ht9⟩) (fun q h => by cases h) dN_isPlace_33
def sN_node (Wl : Nat → Option WV) (s0 : TSt) (h st cnt hw wx wy : Int32) (k : Int32) (what : Int32) : (TSt × Int32 × Int32) × Int32 :=
  if (sT_hasNode (sT_grow Wl s0 h st).1.2 Wl k) = 0 then
    (((sT_grow Wl s0 h st).1, (sT_grow Wl s0 h st).2.1, (sT_grow Wl s0 h st).2.2), (-1))
  else
    if what = 0 then
      (((sT_grow Wl s0 h st).1, (sT_grow Wl s0 h st).2.1, (sT_grow Wl s0 h st).2.2), (sT_lineOf (sT_grow Wl s0 h st).1.2 Wl k))
    else
      if what = 1 then
        (((sT_grow Wl s0 h st).1, (sT_grow Wl s0 h st).2.1, (sT_grow Wl s0 h st).2.2), (sT_leftOf (sT_grow Wl s0 h st).1.2 Wl k))
      else
        if what = 2 then
          (((sT_grow Wl s0 h st).1, (sT_grow Wl s0 h st).2.1, (sT_grow Wl s0 h st).2.2), (sT_rightOf (sT_grow Wl s0 h st).1.2 Wl k))
        else
          if what = 3 then
            (((sT_grow Wl s0 h st).1, (sT_grow Wl s0 h st).2.1, (sT_grow Wl s0 h st).2.2), (sT_ownPieces (sT_grow Wl s0 h st).1.2 Wl k))
          else
            if what = 4 then
              (((sT_grow Wl s0 h st).1, (sT_grow Wl s0 h st).2.1, (sT_grow Wl s0 h st).2.2), (sT_nodesIn (sT_grow Wl s0 h st).1.2 Wl k))
            else
              if what = 5 then
                (((sT_grow Wl s0 h st).1, (sT_grow Wl s0 h st).2.1, (sT_grow Wl s0 h st).2.2), (sT_depthOf (sT_grow Wl s0 h st).1.2 Wl k))
              else
                (((sT_grow Wl s0 h st).1, (sT_grow Wl s0 h st).2.1, (sT_grow Wl s0 h st).2.2), (-1))
set_option maxHeartbeats 4000000 in
set_option maxRecDepth 100000 in
theorem cN_node (l : Launch) (g : CX) (sz : Nat) (aN : Nat) (hw wx wy : Int32) (ad q : Nat → Nat) (f : Nat → Nat → Int32) (s0 : TSt) (sl : Nat → Option Nat) (cnt h st : Int32) (LW : List Nat) (wv : Nat → WV) (hz : rowsT s0.1 f s0.2) (hsl : slOK sl LW) (k : Int32) (what : Int32) : Met l yN_node (wm yN_node kN_node 3 (some .int)) ({ frames := 7, cells := (mu (sN_node (wOf sl wv) s0 h st cnt hw wx wy k what).1.1.1 - mu s0.1), slots := (mu (sN_node (wOf sl wv) s0 h st cnt hw wx wy k what).1.1.1 - mu s0.1), locals := 206 }) (rw g [.ref aN, .int k, .int what] (nX g aN hw wx wy ad q s0.1 f s0.2 sl cnt h st ++ plW LW wv) sz) (va_Qi (fun (r : Int32) (u : (Nat → Nat) × (Nat → Nat → Int32)) => r = (sN_node (wOf sl wv) s0 h st cnt hw wx wy k what).2 ∧ rowsT (sN_node (wOf sl wv) s0 h st cnt hw wx wy k what).1.1.1 u.2 (sN_node (wOf sl wv) s0 h st cnt hw wx wy k what).1.1.2) (rB g (va_A (nX g aN hw wx wy ad q s0.1 f s0.2 sl cnt h st ++ plW LW wv) sz) (fun u => (nX g aN hw wx wy ad u.1 (sN_node (wOf sl wv) s0 h st cnt hw wx wy k what).1.1.1 u.2 (sN_node (wOf sl wv) s0 h st cnt hw wx wy k what).1.1.2 sl cnt (sN_node (wOf sl wv) s0 h st cnt hw wx wy k what).1.2.1 (sN_node (wOf sl wv) s0 h st cnt hw wx wy k what).1.2.2 ++ plW LW wv))) (va_A (nX g aN hw wx wy ad q s0.1 f s0.2 sl cnt h st ++ plW LW wv) sz)) (mu (sN_node (wOf sl wv) s0 h st cnt hw wx wy k what).1.1.1 - mu s0.1) (mu (sN_node (wOf sl wv) s0 h st cnt hw wx wy k what).1.1.1 - mu s0.1) (va_A (nX g aN hw wx wy ad q s0.1 f s0.2 sl cnt h st ++ plW LW wv) sz) := by
  refine Met.ofW (cc := kN_node) (maxL := 3) (ret := (some .int)) (by decide) rfl ?_
  intro p e s m args below meth c s₁ B hml hv
  obtain ⟨rfl, hsz, hK, hP, hD0⟩ := hv
  have hx := B.exec
  have hb := B.bytes
  have hr := B.returns
  have ht : ∀ w ∈ wT, w.before _ s = true := fun w h => atoms_spec (ws := wm yN_node kN_node 3 (some .int)) B.pre w (List.mem_cons_of_mem _ h)
  have hown : s.vm.findClass "NodeMaker" = some m.cls := findClass_of_methodNamed B.named
  have hlocks := B.notSynchronized
  subst hsz
  have hD := hD0.self (sz := s.heap.size)
  generalize hAe : va_A (nX g aN hw wx wy ad q s0.1 f s0.2 sl cnt h st ++ plW LW wv) s.heap.size = A at hD ⊢
  have hA : ∀ q : Nat, s.heap.size ≤ q → A q := fun q h => by rw [← hAe]; exact Or.inr h
  have hS : va_S A s.heap s.heap [] := va_S.rf
  have hl := lv_entry ([.ref aN, .int k, .int what]) (n := 3) (Nat.le_of_ble_eq_true rfl)
  rw [lg_entry_eq]
  generalize (lg_sl ([.ref aN, .int k, .int what]) ++ List.replicate (3 - (lg_sl ([.ref aN, .int k, .int what])).length) Slot.unset).toArray = ls at hl ⊢
  have hl : lv_has ls 3 [(0, .ref aN), (1, .int k), (2, .int what)] := hl
  refine lv_aload_n hx hb dN_node_0 rfl (lv_at hl 0 rfl) ?_
  refine va_get (D := g.1) (ci := 5) (v := .ref (ad 0)) (C := "NodeMaker") (T := Fd_N) (N := 4) hx hb ht i_N hown hK.1 hP 0 rfl rfl 0 (by decide) (ht _ q_154) (fun _ h9 => h9) rfl dN_node_1 ?_
  have hPt : va_P g.1 vwCl (treeX g ad q s0.1 f s0.2 sl cnt h st ++ plW LW wv) s.heap := pl_P hP [1, 2, 3, 4, 5, 6, 7, 8, 9, 10, 11, 12, 13, 14, 15, 16, 17, 18, 19, 20, 21, 22, 23, 24, 25, 26, 27, 28, 29, 30, 31, 32, 33, 34, 35, 36, 37, 38, 39, 40, 41, 42, 43, 44] rfl
  have hDt : va_D A (treeX g ad q s0.1 f s0.2 sl cnt h st ++ plW LW wv) := pl_D hD [1, 2, 3, 4, 5, 6, 7, 8, 9, 10, 11, 12, 13, 14, 15, 16, 17, 18, 19, 20, 21, 22, 23, 24, 25, 26, 27, 28, 29, 30, 31, 32, 33, 34, 35, 36, 37, 38, 39, 40, 41, 42, 43, 44] (by decide) rfl
  have hFG : (sN_node (wOf sl wv) s0 h st cnt hw wx wy k what).1 = sT_grow (wOf sl wv) s0 h st := by rw [sN_node]; all_goals ((repeat' split) <;> rfl)
  have hFm : mu (sN_node (wOf sl wv) s0 h st cnt hw wx wy k what).1.1.1 = mu (sT_grow (wOf sl wv) s0 h st).1.1 := by rw [hFG]
  have hgm : mu s0.1 ≤ mu (sT_grow (wOf sl wv) s0 h st).1.1 := grow_mono _ _ _ _
  obtain ⟨gs, hgs⟩ : ∃ x, x = sT_grow (wOf sl wv) s0 h st := ⟨_, rfl⟩
  refine rw_vP (X := nX g aN hw wx wy ad q s0.1 f s0.2 sl cnt h st) (pl := plW LW wv) (cx := treeX g ad q s0.1 f s0.2 sl cnt h st) (rx := fun (u : (Nat → Nat) × (Nat → Nat → Int32)) => treeX g ad u.1 (sT_grow (wOf sl wv) s0 h st).1.1 u.2 (sT_grow (wOf sl wv) s0 h st).1.2 sl cnt (sT_grow (wOf sl wv) s0 h st).2.1 (sT_grow (wOf sl wv) s0 h st).2.2) (pl1 := fun _ => plW LW wv) (wr := [(aN, .inr (5, [.ref (ad 0), .int hw, .int wx, .int wy]))]) (va_runV (As := []) (rest := []) ⟨hx, hb, hml, hown, ht⟩ (cT_grow l g s.heap.size ad q f s0 sl cnt h st LW wv hz hsl) (cwV 0 ht (g_V q_267 q_268 q_269 q_35 q_270) rfl rfl rfl hd_T_grow ⟨Nat.le_of_ble_eq_true rfl, Nat.le_of_ble_eq_true rfl⟩) (rw_V hK hPt hDt (va_recv hK.1 hPt (ci := 4) (q0 := 0) rfl rfl)) rfl rfl hl.1 rfl (lv_room (Nat.le_of_ble_eq_true rfl)) dN_node_4 ⟨by show 0 + (mu (sT_grow (wOf sl wv) s0 h st).1.1 - mu s0.1) ≤ (mu (sN_node (wOf sl wv) s0 h st cnt hw wx wy k what).1.1.1 - mu s0.1); omega, by show 0 + (mu (sT_grow (wOf sl wv) s0 h st).1.1 - mu s0.1) ≤ (mu (sN_node (wOf sl wv) s0 h st cnt hw wx wy k what).1.1.1 - mu s0.1); omega⟩) hP hD hS hA [1, 2, 3, 4, 5, 6, 7, 8, 9, 10, 11, 12, 13, 14, 15, 16, 17, 18, 19, 20, 21, 22, 23, 24, 25, 26, 27, 28, 29, 30, 31, 32, 33, 34, 35, 36, 37, 38, 39, 40, 41, 42, 43, 44] [0] rfl rfl (by decide) (by decide) (fun u H locs hw9 hP hD hS => ?_)
  obtain ⟨q, f⟩ := u
  have hz : rowsT gs.1.1 f gs.1.2 := by rw [hgs]; exact hw9
  have hP : va_P g.1 vwCl (nX g aN hw wx wy ad q gs.1.1 f gs.1.2 sl cnt gs.2.1 gs.2.2 ++ plW LW wv) H := by rw [hgs]; exact hP
  have hD : va_D A (nX g aN hw wx wy ad q gs.1.1 f gs.1.2 sl cnt gs.2.1 gs.2.2 ++ plW LW wv) := by rw [hgs]; exact hD
  have hgu : mu (sT_grow (wOf sl wv) s0 h st).1.1 = mu gs.1.1 := by rw [hgs]
  have hgm : mu s0.1 ≤ mu gs.1.1 := by rw [hgs]; exact grow_mono _ _ _ _
  rw [← hgs] at hFG
  refine W.widen (k := mu gs.1.1 - mu s0.1) (n := mu gs.1.1 - mu s0.1) (by show 0 + (mu (sT_grow (wOf sl wv) s0 h st).1.1 - mu s0.1) ≤ _; omega) (by show 0 + (mu (sT_grow (wOf sl wv) s0 h st).1.1 - mu s0.1) ≤ _; omega) ?_
  refine lv_aload_n hx hb dN_node_7 rfl (lv_at hl 0 rfl) ?_
  refine va_get (D := g.1) (ci := 5) (v := .ref (ad 0)) (C := "NodeMaker") (T := Fd_N) (N := 4) hx hb ht i_N hown hK.1 hP 0 rfl rfl 0 (by decide) (ht _ q_154) (fun _ h9 => h9) rfl dN_node_8 ?_
  refine lv_iload_n hx hb dN_node_11 rfl (lv_at hl 1 rfl) ?_
  have hPt : va_P g.1 vwCl (treeX g ad q gs.1.1 f gs.1.2 sl cnt gs.2.1 gs.2.2 ++ plW LW wv) H := pl_P hP [1, 2, 3, 4, 5, 6, 7, 8, 9, 10, 11, 12, 13, 14, 15, 16, 17, 18, 19, 20, 21, 22, 23, 24, 25, 26, 27, 28, 29, 30, 31, 32, 33, 34, 35, 36, 37, 38, 39, 40, 41, 42, 43, 44] rfl
  refine ro_Vi (v := sT_hasNode gs.1.2 (wOf sl wv) k) (As := [.int k]) (rest := []) ⟨hx, hb, hml, hown, ht⟩ (cT_hasNode l g ad q gs.1.1 f gs.1.2 sl cnt gs.2.1 gs.2.2 LW wv hz hsl k) (cwV 1 ht (g_V q_394 q_334 q_335 q_35 q_336) rfl rfl rfl hd_T_hasNode ⟨Nat.le_of_ble_eq_true rfl, Nat.le_of_ble_eq_true rfl⟩) hK (hPt) (va_recv hK.1 hPt (ci := 4) (q0 := 0) rfl rfl) rfl hl.1 rfl (Nat.le_of_ble_eq_true rfl) dN_node_12 ⟨by show mu gs.1.1 - mu s0.1 ≤ (mu (sN_node (wOf sl wv) s0 h st cnt hw wx wy k what).1.1.1 - mu s0.1); omega, by show mu gs.1.1 - mu s0.1 ≤ (mu (sN_node (wOf sl wv) s0 h st cnt hw wx wy k what).1.1.1 - mu s0.1); omega⟩ ?_
  refine lv_if_ne (tgt := 20) hx hb dN_node_15 (by decide) (fun c_5 => ?_) (fun c_5 => ?_)
  · skip
    refine lv_iload_n hx hb dN_node_20 rfl (lv_at hl 2 rfl) ?_
    by_cases c_6 : what = 0
    · skip
      refine lv_tableIn (off := 39) (tgt := 60) hx hb dN_node_21 (by rw [c_6]; decide) (by rw [c_6]; decide) (by rw [c_6]; decide) (by decide) ?_
      refine lv_aload_n hx hb dN_node_60 rfl (lv_at hl 0 rfl) ?_
      refine va_get (D := g.1) (ci := 5) (v := .ref (ad 0)) (C := "NodeMaker") (T := Fd_N) (N := 4) hx hb ht i_N hown hK.1 hP 0 rfl rfl 0 (by decide) (ht _ q_154) (fun _ h9 => h9) rfl dN_node_61 ?_
      refine lv_iload_n hx hb dN_node_64 rfl (lv_at hl 1 rfl) ?_
      have hPt : va_P g.1 vwCl (treeX g ad q gs.1.1 f gs.1.2 sl cnt gs.2.1 gs.2.2 ++ plW LW wv) H := pl_P hP [1, 2, 3, 4, 5, 6, 7, 8, 9, 10, 11, 12, 13, 14, 15, 16, 17, 18, 19, 20, 21, 22, 23, 24, 25, 26, 27, 28, 29, 30, 31, 32, 33, 34, 35, 36, 37, 38, 39, 40, 41, 42, 43, 44] rfl
      refine ro_Vi (v := sT_lineOf gs.1.2 (wOf sl wv) k) (As := [.int k]) (rest := []) ⟨hx, hb, hml, hown, ht⟩ (cT_lineOf l g ad q gs.1.1 f gs.1.2 sl cnt gs.2.1 gs.2.2 LW wv hz hsl k) (cwV 1 ht (g_V q_395 q_396 q_397 q_35 q_398) rfl rfl rfl hd_T_lineOf ⟨Nat.le_of_ble_eq_true rfl, Nat.le_of_ble_eq_true rfl⟩) hK (hPt) (va_recv hK.1 hPt (ci := 4) (q0 := 0) rfl rfl) rfl hl.1 rfl (Nat.le_of_ble_eq_true rfl) dN_node_65 ⟨by show mu gs.1.1 - mu s0.1 ≤ (mu (sN_node (wOf sl wv) s0 h st cnt hw wx wy k what).1.1.1 - mu s0.1); omega, by show mu gs.1.1 - mu s0.1 ≤ (mu (sN_node (wOf sl wv) s0 h st cnt hw wx wy k what).1.1.1 - mu s0.1); omega⟩ ?_
      have hEF : (sN_node (wOf sl wv) s0 h st cnt hw wx wy k what) = ((gs.1, gs.2.1, gs.2.2), (sT_lineOf gs.1.2 (wOf sl wv) k)) := by subst hgs; rw [sN_node, if_neg c_5, if_pos c_6]
      have hz9 : rowsT (sN_node (wOf sl wv) s0 h st cnt hw wx wy k what).1.1.1 f (sN_node (wOf sl wv) s0 h st cnt hw wx wy k what).1.1.2 := by rw [hEF]; exact hz
      have hP9 : va_P g.1 vwCl (nX g aN hw wx wy ad q ((sN_node (wOf sl wv) s0 h st cnt hw wx wy k what).1.1).1 f ((sN_node (wOf sl wv) s0 h st cnt hw wx wy k what).1.1).2 sl cnt ((sN_node (wOf sl wv) s0 h st cnt hw wx wy k what).1.2.1) ((sN_node (wOf sl wv) s0 h st cnt hw wx wy k what).1.2.2) ++ plW LW wv) H := by rw [hEF]; exact hP
      have hD9 : va_D A (nX g aN hw wx wy ad q ((sN_node (wOf sl wv) s0 h st cnt hw wx wy k what).1.1).1 f ((sN_node (wOf sl wv) s0 h st cnt hw wx wy k what).1.1).2 sl cnt ((sN_node (wOf sl wv) s0 h st cnt hw wx wy k what).1.2.1) ((sN_node (wOf sl wv) s0 h st cnt hw wx wy k what).1.2.2) ++ plW LW wv) := by rw [hEF]; exact hD
      have hmF : mu (sN_node (wOf sl wv) s0 h st cnt hw wx wy k what).1.1.1 = mu gs.1.1 := by rw [hEF]
      refine W.widen (k := (mu (sN_node (wOf sl wv) s0 h st cnt hw wx wy k what).1.1.1 - mu s0.1)) (n := (mu (sN_node (wOf sl wv) s0 h st cnt hw wx wy k what).1.1.1 - mu s0.1)) (by omega) (by omega) ?_
      exact W.iret hx hb hr (fun t ht9 hW => ⟨⟨_, (q, f), rfl, ⟨by rw [hEF], hz9⟩, by rw [ht9]; exact hP9, hD9⟩, hS.F ht9⟩) hS.2.2 dN_node_68
    by_cases c_7 : what = 1
    · skip
      refine lv_tableIn (off := 48) (tgt := 69) hx hb dN_node_21 (by rw [c_7]; decide) (by rw [c_7]; decide) (by rw [c_7]; decide) (by decide) ?_
      refine lv_aload_n hx hb dN_node_69 rfl (lv_at hl 0 rfl) ?_
      refine va_get (D := g.1) (ci := 5) (v := .ref (ad 0)) (C := "NodeMaker") (T := Fd_N) (N := 4) hx hb ht i_N hown hK.1 hP 0 rfl rfl 0 (by decide) (ht _ q_154) (fun _ h9 => h9) rfl dN_node_70 ?_
      refine lv_iload_n hx hb dN_node_73 rfl (lv_at hl 1 rfl) ?_
      have hPt : va_P g.1 vwCl (treeX g ad q gs.1.1 f gs.1.2 sl cnt gs.2.1 gs.2.2 ++ plW LW wv) H := pl_P hP [1, 2, 3, 4, 5, 6, 7, 8, 9, 10, 11, 12, 13, 14, 15, 16, 17, 18, 19, 20, 21, 22, 23, 24, 25, 26, 27, 28, 29, 30, 31, 32, 33, 34, 35, 36, 37, 38, 39, 40, 41, 42, 43, 44] rfl
      refine ro_Vi (v := sT_leftOf gs.1.2 (wOf sl wv) k) (As := [.int k]) (rest := []) ⟨hx, hb, hml, hown, ht⟩ (cT_leftOf l g ad q gs.1.1 f gs.1.2 sl cnt gs.2.1 gs.2.2 LW wv hz hsl k) (cwV 1 ht (g_V q_399 q_400 q_401 q_35 q_402) rfl rfl rfl hd_T_leftOf ⟨Nat.le_of_ble_eq_true rfl, Nat.le_of_ble_eq_true rfl⟩) hK (hPt) (va_recv hK.1 hPt (ci := 4) (q0 := 0) rfl rfl) rfl hl.1 rfl (Nat.le_of_ble_eq_true rfl) dN_node_74 ⟨by show mu gs.1.1 - mu s0.1 ≤ (mu (sN_node (wOf sl wv) s0 h st cnt hw wx wy k what).1.1.1 - mu s0.1); omega, by show mu gs.1.1 - mu s0.1 ≤ (mu (sN_node (wOf sl wv) s0 h st cnt hw wx wy k what).1.1.1 - mu s0.1); omega⟩ ?_
      have hEF : (sN_node (wOf sl wv) s0 h st cnt hw wx wy k what) = ((gs.1, gs.2.1, gs.2.2), (sT_leftOf gs.1.2 (wOf sl wv) k)) := by subst hgs; rw [sN_node, if_neg c_5, if_neg c_6, if_pos c_7]
      have hz9 : rowsT (sN_node (wOf sl wv) s0 h st cnt hw wx wy k what).1.1.1 f (sN_node (wOf sl wv) s0 h st cnt hw wx wy k what).1.1.2 := by rw [hEF]; exact hz
      have hP9 : va_P g.1 vwCl (nX g aN hw wx wy ad q ((sN_node (wOf sl wv) s0 h st cnt hw wx wy k what).1.1).1 f ((sN_node (wOf sl wv) s0 h st cnt hw wx wy k what).1.1).2 sl cnt ((sN_node (wOf sl wv) s0 h st cnt hw wx wy k what).1.2.1) ((sN_node (wOf sl wv) s0 h st cnt hw wx wy k what).1.2.2) ++ plW LW wv) H := by rw [hEF]; exact hP
      have hD9 : va_D A (nX g aN hw wx wy ad q ((sN_node (wOf sl wv) s0 h st cnt hw wx wy k what).1.1).1 f ((sN_node (wOf sl wv) s0 h st cnt hw wx wy k what).1.1).2 sl cnt ((sN_node (wOf sl wv) s0 h st cnt hw wx wy k what).1.2.1) ((sN_node (wOf sl wv) s0 h st cnt hw wx wy k what).1.2.2) ++ plW LW wv) := by rw [hEF]; exact hD
      have hmF : mu (sN_node (wOf sl wv) s0 h st cnt hw wx wy k what).1.1.1 = mu gs.1.1 := by rw [hEF]
      refine W.widen (k := (mu (sN_node (wOf sl wv) s0 h st cnt hw wx wy k what).1.1.1 - mu s0.1)) (n := (mu (sN_node (wOf sl wv) s0 h st cnt hw wx wy k what).1.1.1 - mu s0.1)) (by omega) (by omega) ?_
      exact W.iret hx hb hr (fun t ht9 hW => ⟨⟨_, (q, f), rfl, ⟨by rw [hEF], hz9⟩, by rw [ht9]; exact hP9, hD9⟩, hS.F ht9⟩) hS.2.2 dN_node_77
    by_cases c_8 : what = 2
    · skip
      refine lv_tableIn (off := 57) (tgt := 78) hx hb dN_node_21 (by rw [c_8]; decide) (by rw [c_8]; decide) (by rw [c_8]; decide) (by decide) ?_
      refine lv_aload_n hx hb dN_node_78 rfl (lv_at hl 0 rfl) ?_
      refine va_get (D := g.1) (ci := 5) (v := .ref (ad 0)) (C := "NodeMaker") (T := Fd_N) (N := 4) hx hb ht i_N hown hK.1 hP 0 rfl rfl 0 (by decide) (ht _ q_154) (fun _ h9 => h9) rfl dN_node_79 ?_
      refine lv_iload_n hx hb dN_node_82 rfl (lv_at hl 1 rfl) ?_
      have hPt : va_P g.1 vwCl (treeX g ad q gs.1.1 f gs.1.2 sl cnt gs.2.1 gs.2.2 ++ plW LW wv) H := pl_P hP [1, 2, 3, 4, 5, 6, 7, 8, 9, 10, 11, 12, 13, 14, 15, 16, 17, 18, 19, 20, 21, 22, 23, 24, 25, 26, 27, 28, 29, 30, 31, 32, 33, 34, 35, 36, 37, 38, 39, 40, 41, 42, 43, 44] rfl
      refine ro_Vi (v := sT_rightOf gs.1.2 (wOf sl wv) k) (As := [.int k]) (rest := []) ⟨hx, hb, hml, hown, ht⟩ (cT_rightOf l g ad q gs.1.1 f gs.1.2 sl cnt gs.2.1 gs.2.2 LW wv hz hsl k) (cwV 1 ht (g_V q_403 q_404 q_405 q_35 q_406) rfl rfl rfl hd_T_rightOf ⟨Nat.le_of_ble_eq_true rfl, Nat.le_of_ble_eq_true rfl⟩) hK (hPt) (va_recv hK.1 hPt (ci := 4) (q0 := 0) rfl rfl) rfl hl.1 rfl (Nat.le_of_ble_eq_true rfl) dN_node_83 ⟨by show mu gs.1.1 - mu s0.1 ≤ (mu (sN_node (wOf sl wv) s0 h st cnt hw wx wy k what).1.1.1 - mu s0.1); omega, by show mu gs.1.1 - mu s0.1 ≤ (mu (sN_node (wOf sl wv) s0 h st cnt hw wx wy k what).1.1.1 - mu s0.1); omega⟩ ?_
      have hEF : (sN_node (wOf sl wv) s0 h st cnt hw wx wy k what) = ((gs.1, gs.2.1, gs.2.2), (sT_rightOf gs.1.2 (wOf sl wv) k)) := by subst hgs; rw [sN_node, if_neg c_5, if_neg c_6, if_neg c_7, if_pos c_8]
      have hz9 : rowsT (sN_node (wOf sl wv) s0 h st cnt hw wx wy k what).1.1.1 f (sN_node (wOf sl wv) s0 h st cnt hw wx wy k what).1.1.2 := by rw [hEF]; exact hz
      have hP9 : va_P g.1 vwCl (nX g aN hw wx wy ad q ((sN_node (wOf sl wv) s0 h st cnt hw wx wy k what).1.1).1 f ((sN_node (wOf sl wv) s0 h st cnt hw wx wy k what).1.1).2 sl cnt ((sN_node (wOf sl wv) s0 h st cnt hw wx wy k what).1.2.1) ((sN_node (wOf sl wv) s0 h st cnt hw wx wy k what).1.2.2) ++ plW LW wv) H := by rw [hEF]; exact hP
      have hD9 : va_D A (nX g aN hw wx wy ad q ((sN_node (wOf sl wv) s0 h st cnt hw wx wy k what).1.1).1 f ((sN_node (wOf sl wv) s0 h st cnt hw wx wy k what).1.1).2 sl cnt ((sN_node (wOf sl wv) s0 h st cnt hw wx wy k what).1.2.1) ((sN_node (wOf sl wv) s0 h st cnt hw wx wy k what).1.2.2) ++ plW LW wv) := by rw [hEF]; exact hD
      have hmF : mu (sN_node (wOf sl wv) s0 h st cnt hw wx wy k what).1.1.1 = mu gs.1.1 := by rw [hEF]
      refine W.widen (k := (mu (sN_node (wOf sl wv) s0 h st cnt hw wx wy k what).1.1.1 - mu s0.1)) (n := (mu (sN_node (wOf sl wv) s0 h st cnt hw wx wy k what).1.1.1 - mu s0.1)) (by omega) (by omega) ?_
      exact W.iret hx hb hr (fun t ht9 hW => ⟨⟨_, (q, f), rfl, ⟨by rw [hEF], hz9⟩, by rw [ht9]; exact hP9, hD9⟩, hS.F ht9⟩) hS.2.2 dN_node_86
    by_cases c_9 : what = 3
    · skip
      refine lv_tableIn (off := 66) (tgt := 87) hx hb dN_node_21 (by rw [c_9]; decide) (by rw [c_9]; decide) (by rw [c_9]; decide) (by decide) ?_
      refine lv_aload_n hx hb dN_node_87 rfl (lv_at hl 0 rfl) ?_
      refine va_get (D := g.1) (ci := 5) (v := .ref (ad 0)) (C := "NodeMaker") (T := Fd_N) (N := 4) hx hb ht i_N hown hK.1 hP 0 rfl rfl 0 (by decide) (ht _ q_154) (fun _ h9 => h9) rfl dN_node_88 ?_
      refine lv_iload_n hx hb dN_node_91 rfl (lv_at hl 1 rfl) ?_
      have hPt : va_P g.1 vwCl (treeX g ad q gs.1.1 f gs.1.2 sl cnt gs.2.1 gs.2.2 ++ plW LW wv) H := pl_P hP [1, 2, 3, 4, 5, 6, 7, 8, 9, 10, 11, 12, 13, 14, 15, 16, 17, 18, 19, 20, 21, 22, 23, 24, 25, 26, 27, 28, 29, 30, 31, 32, 33, 34, 35, 36, 37, 38, 39, 40, 41, 42, 43, 44] rfl
      refine ro_Vi (v := sT_ownPieces gs.1.2 (wOf sl wv) k) (As := [.int k]) (rest := []) ⟨hx, hb, hml, hown, ht⟩ (cT_ownPieces l g ad q gs.1.1 f gs.1.2 sl cnt gs.2.1 gs.2.2 LW wv hz hsl k) (cwV 1 ht (g_V q_407 q_408 q_409 q_35 q_410) rfl rfl rfl hd_T_ownPieces ⟨Nat.le_of_ble_eq_true rfl, Nat.le_of_ble_eq_true rfl⟩) hK (hPt) (va_recv hK.1 hPt (ci := 4) (q0 := 0) rfl rfl) rfl hl.1 rfl (Nat.le_of_ble_eq_true rfl) dN_node_92 ⟨by show mu gs.1.1 - mu s0.1 ≤ (mu (sN_node (wOf sl wv) s0 h st cnt hw wx wy k what).1.1.1 - mu s0.1); omega, by show mu gs.1.1 - mu s0.1 ≤ (mu (sN_node (wOf sl wv) s0 h st cnt hw wx wy k what).1.1.1 - mu s0.1); omega⟩ ?_
      have hEF : (sN_node (wOf sl wv) s0 h st cnt hw wx wy k what) = ((gs.1, gs.2.1, gs.2.2), (sT_ownPieces gs.1.2 (wOf sl wv) k)) := by subst hgs; rw [sN_node, if_neg c_5, if_neg c_6, if_neg c_7, if_neg c_8, if_pos c_9]
      have hz9 : rowsT (sN_node (wOf sl wv) s0 h st cnt hw wx wy k what).1.1.1 f (sN_node (wOf sl wv) s0 h st cnt hw wx wy k what).1.1.2 := by rw [hEF]; exact hz
      have hP9 : va_P g.1 vwCl (nX g aN hw wx wy ad q ((sN_node (wOf sl wv) s0 h st cnt hw wx wy k what).1.1).1 f ((sN_node (wOf sl wv) s0 h st cnt hw wx wy k what).1.1).2 sl cnt ((sN_node (wOf sl wv) s0 h st cnt hw wx wy k what).1.2.1) ((sN_node (wOf sl wv) s0 h st cnt hw wx wy k what).1.2.2) ++ plW LW wv) H := by rw [hEF]; exact hP
      have hD9 : va_D A (nX g aN hw wx wy ad q ((sN_node (wOf sl wv) s0 h st cnt hw wx wy k what).1.1).1 f ((sN_node (wOf sl wv) s0 h st cnt hw wx wy k what).1.1).2 sl cnt ((sN_node (wOf sl wv) s0 h st cnt hw wx wy k what).1.2.1) ((sN_node (wOf sl wv) s0 h st cnt hw wx wy k what).1.2.2) ++ plW LW wv) := by rw [hEF]; exact hD
      have hmF : mu (sN_node (wOf sl wv) s0 h st cnt hw wx wy k what).1.1.1 = mu gs.1.1 := by rw [hEF]
      refine W.widen (k := (mu (sN_node (wOf sl wv) s0 h st cnt hw wx wy k what).1.1.1 - mu s0.1)) (n := (mu (sN_node (wOf sl wv) s0 h st cnt hw wx wy k what).1.1.1 - mu s0.1)) (by omega) (by omega) ?_
      exact W.iret hx hb hr (fun t ht9 hW => ⟨⟨_, (q, f), rfl, ⟨by rw [hEF], hz9⟩, by rw [ht9]; exact hP9, hD9⟩, hS.F ht9⟩) hS.2.2 dN_node_95
    by_cases c_10 : what = 4
    · skip
      refine lv_tableIn (off := 75) (tgt := 96) hx hb dN_node_21 (by rw [c_10]; decide) (by rw [c_10]; decide) (by rw [c_10]; decide) (by decide) ?_
      refine lv_aload_n hx hb dN_node_96 rfl (lv_at hl 0 rfl) ?_
      refine va_get (D := g.1) (ci := 5) (v := .ref (ad 0)) (C := "NodeMaker") (T := Fd_N) (N := 4) hx hb ht i_N hown hK.1 hP 0 rfl rfl 0 (by decide) (ht _ q_154) (fun _ h9 => h9) rfl dN_node_97 ?_
      refine lv_iload_n hx hb dN_node_100 rfl (lv_at hl 1 rfl) ?_
      have hPt : va_P g.1 vwCl (treeX g ad q gs.1.1 f gs.1.2 sl cnt gs.2.1 gs.2.2 ++ plW LW wv) H := pl_P hP [1, 2, 3, 4, 5, 6, 7, 8, 9, 10, 11, 12, 13, 14, 15, 16, 17, 18, 19, 20, 21, 22, 23, 24, 25, 26, 27, 28, 29, 30, 31, 32, 33, 34, 35, 36, 37, 38, 39, 40, 41, 42, 43, 44] rfl
      refine ro_Vi (v := sT_nodesIn gs.1.2 (wOf sl wv) k) (As := [.int k]) (rest := []) ⟨hx, hb, hml, hown, ht⟩ (cT_nodesIn l g ad q gs.1.1 f gs.1.2 sl cnt gs.2.1 gs.2.2 LW wv hz hsl k) (cwV 1 ht (g_V q_415 q_391 q_392 q_35 q_393) rfl rfl rfl hd_T_nodesIn ⟨Nat.le_of_ble_eq_true rfl, Nat.le_of_ble_eq_true rfl⟩) hK (hPt) (va_recv hK.1 hPt (ci := 4) (q0 := 0) rfl rfl) rfl hl.1 rfl (Nat.le_of_ble_eq_true rfl) dN_node_101 ⟨by show mu gs.1.1 - mu s0.1 ≤ (mu (sN_node (wOf sl wv) s0 h st cnt hw wx wy k what).1.1.1 - mu s0.1); omega, by show mu gs.1.1 - mu s0.1 ≤ (mu (sN_node (wOf sl wv) s0 h st cnt hw wx wy k what).1.1.1 - mu s0.1); omega⟩ ?_
      have hEF : (sN_node (wOf sl wv) s0 h st cnt hw wx wy k what) = ((gs.1, gs.2.1, gs.2.2), (sT_nodesIn gs.1.2 (wOf sl wv) k)) := by subst hgs; rw [sN_node, if_neg c_5, if_neg c_6, if_neg c_7, if_neg c_8, if_neg c_9, if_pos c_10]
      have hz9 : rowsT (sN_node (wOf sl wv) s0 h st cnt hw wx wy k what).1.1.1 f (sN_node (wOf sl wv) s0 h st cnt hw wx wy k what).1.1.2 := by rw [hEF]; exact hz
      have hP9 : va_P g.1 vwCl (nX g aN hw wx wy ad q ((sN_node (wOf sl wv) s0 h st cnt hw wx wy k what).1.1).1 f ((sN_node (wOf sl wv) s0 h st cnt hw wx wy k what).1.1).2 sl cnt ((sN_node (wOf sl wv) s0 h st cnt hw wx wy k what).1.2.1) ((sN_node (wOf sl wv) s0 h st cnt hw wx wy k what).1.2.2) ++ plW LW wv) H := by rw [hEF]; exact hP
      have hD9 : va_D A (nX g aN hw wx wy ad q ((sN_node (wOf sl wv) s0 h st cnt hw wx wy k what).1.1).1 f ((sN_node (wOf sl wv) s0 h st cnt hw wx wy k what).1.1).2 sl cnt ((sN_node (wOf sl wv) s0 h st cnt hw wx wy k what).1.2.1) ((sN_node (wOf sl wv) s0 h st cnt hw wx wy k what).1.2.2) ++ plW LW wv) := by rw [hEF]; exact hD
      have hmF : mu (sN_node (wOf sl wv) s0 h st cnt hw wx wy k what).1.1.1 = mu gs.1.1 := by rw [hEF]
      refine W.widen (k := (mu (sN_node (wOf sl wv) s0 h st cnt hw wx wy k what).1.1.1 - mu s0.1)) (n := (mu (sN_node (wOf sl wv) s0 h st cnt hw wx wy k what).1.1.1 - mu s0.1)) (by omega) (by omega) ?_
      exact W.iret hx hb hr (fun t ht9 hW => ⟨⟨_, (q, f), rfl, ⟨by rw [hEF], hz9⟩, by rw [ht9]; exact hP9, hD9⟩, hS.F ht9⟩) hS.2.2 dN_node_104
    by_cases c_11 : what = 5
    · skip
      refine lv_tableIn (off := 84) (tgt := 105) hx hb dN_node_21 (by rw [c_11]; decide) (by rw [c_11]; decide) (by rw [c_11]; decide) (by decide) ?_
      refine lv_aload_n hx hb dN_node_105 rfl (lv_at hl 0 rfl) ?_
      refine va_get (D := g.1) (ci := 5) (v := .ref (ad 0)) (C := "NodeMaker") (T := Fd_N) (N := 4) hx hb ht i_N hown hK.1 hP 0 rfl rfl 0 (by decide) (ht _ q_154) (fun _ h9 => h9) rfl dN_node_106 ?_
      refine lv_iload_n hx hb dN_node_109 rfl (lv_at hl 1 rfl) ?_
      have hPt : va_P g.1 vwCl (treeX g ad q gs.1.1 f gs.1.2 sl cnt gs.2.1 gs.2.2 ++ plW LW wv) H := pl_P hP [1, 2, 3, 4, 5, 6, 7, 8, 9, 10, 11, 12, 13, 14, 15, 16, 17, 18, 19, 20, 21, 22, 23, 24, 25, 26, 27, 28, 29, 30, 31, 32, 33, 34, 35, 36, 37, 38, 39, 40, 41, 42, 43, 44] rfl
      refine ro_Vi (v := sT_depthOf gs.1.2 (wOf sl wv) k) (As := [.int k]) (rest := []) ⟨hx, hb, hml, hown, ht⟩ (cT_depthOf l g ad q gs.1.1 f gs.1.2 sl cnt gs.2.1 gs.2.2 LW wv hz hsl k) (cwV 1 ht (g_V q_416 q_417 q_418 q_35 q_419) rfl rfl rfl hd_T_depthOf ⟨Nat.le_of_ble_eq_true rfl, Nat.le_of_ble_eq_true rfl⟩) hK (hPt) (va_recv hK.1 hPt (ci := 4) (q0 := 0) rfl rfl) rfl hl.1 rfl (Nat.le_of_ble_eq_true rfl) dN_node_110 ⟨by show mu gs.1.1 - mu s0.1 ≤ (mu (sN_node (wOf sl wv) s0 h st cnt hw wx wy k what).1.1.1 - mu s0.1); omega, by show mu gs.1.1 - mu s0.1 ≤ (mu (sN_node (wOf sl wv) s0 h st cnt hw wx wy k what).1.1.1 - mu s0.1); omega⟩ ?_
      have hEF : (sN_node (wOf sl wv) s0 h st cnt hw wx wy k what) = ((gs.1, gs.2.1, gs.2.2), (sT_depthOf gs.1.2 (wOf sl wv) k)) := by subst hgs; rw [sN_node, if_neg c_5, if_neg c_6, if_neg c_7, if_neg c_8, if_neg c_9, if_neg c_10, if_pos c_11]
      have hz9 : rowsT (sN_node (wOf sl wv) s0 h st cnt hw wx wy k what).1.1.1 f (sN_node (wOf sl wv) s0 h st cnt hw wx wy k what).1.1.2 := by rw [hEF]; exact hz
      have hP9 : va_P g.1 vwCl (nX g aN hw wx wy ad q ((sN_node (wOf sl wv) s0 h st cnt hw wx wy k what).1.1).1 f ((sN_node (wOf sl wv) s0 h st cnt hw wx wy k what).1.1).2 sl cnt ((sN_node (wOf sl wv) s0 h st cnt hw wx wy k what).1.2.1) ((sN_node (wOf sl wv) s0 h st cnt hw wx wy k what).1.2.2) ++ plW LW wv) H := by rw [hEF]; exact hP
      have hD9 : va_D A (nX g aN hw wx wy ad q ((sN_node (wOf sl wv) s0 h st cnt hw wx wy k what).1.1).1 f ((sN_node (wOf sl wv) s0 h st cnt hw wx wy k what).1.1).2 sl cnt ((sN_node (wOf sl wv) s0 h st cnt hw wx wy k what).1.2.1) ((sN_node (wOf sl wv) s0 h st cnt hw wx wy k what).1.2.2) ++ plW LW wv) := by rw [hEF]; exact hD
      have hmF : mu (sN_node (wOf sl wv) s0 h st cnt hw wx wy k what).1.1.1 = mu gs.1.1 := by rw [hEF]
      refine W.widen (k := (mu (sN_node (wOf sl wv) s0 h st cnt hw wx wy k what).1.1.1 - mu s0.1)) (n := (mu (sN_node (wOf sl wv) s0 h st cnt hw wx wy k what).1.1.1 - mu s0.1)) (by omega) (by omega) ?_
      exact W.iret hx hb hr (fun t ht9 hW => ⟨⟨_, (q, f), rfl, ⟨by rw [hEF], hz9⟩, by rw [ht9]; exact hP9, hD9⟩, hS.F ht9⟩) hS.2.2 dN_node_113
    refine lv_tableOut (tgt := 114) hx hb dN_node_21 (sw_out6 c_6 c_7 c_8 c_9 c_10 c_11) (by decide) ?_
    refine lv_iconst (v := -1) hx hb dN_node_114 (by decide) ?_
    have hEF : (sN_node (wOf sl wv) s0 h st cnt hw wx wy k what) = ((gs.1, gs.2.1, gs.2.2), (-1)) := by subst hgs; rw [sN_node, if_neg c_5, if_neg c_6, if_neg c_7, if_neg c_8, if_neg c_9, if_neg c_10, if_neg c_11]
    have hz9 : rowsT (sN_node (wOf sl wv) s0 h st cnt hw wx wy k what).1.1.1 f (sN_node (wOf sl wv) s0 h st cnt hw wx wy k what).1.1.2 := by rw [hEF]; exact hz
    have hP9 : va_P g.1 vwCl (nX g aN hw wx wy ad q ((sN_node (wOf sl wv) s0 h st cnt hw wx wy k what).1.1).1 f ((sN_node (wOf sl wv) s0 h st cnt hw wx wy k what).1.1).2 sl cnt ((sN_node (wOf sl wv) s0 h st cnt hw wx wy k what).1.2.1) ((sN_node (wOf sl wv) s0 h st cnt hw wx wy k what).1.2.2) ++ plW LW wv) H := by rw [hEF]; exact hP
    have hD9 : va_D A (nX g aN hw wx wy ad q ((sN_node (wOf sl wv) s0 h st cnt hw wx wy k what).1.1).1 f ((sN_node (wOf sl wv) s0 h st cnt hw wx wy k what).1.1).2 sl cnt ((sN_node (wOf sl wv) s0 h st cnt hw wx wy k what).1.2.1) ((sN_node (wOf sl wv) s0 h st cnt hw wx wy k what).1.2.2) ++ plW LW wv) := by rw [hEF]; exact hD
    have hmF : mu (sN_node (wOf sl wv) s0 h st cnt hw wx wy k what).1.1.1 = mu gs.1.1 := by rw [hEF]
    refine W.widen (k := (mu (sN_node (wOf sl wv) s0 h st cnt hw wx wy k what).1.1.1 - mu s0.1)) (n := (mu (sN_node (wOf sl wv) s0 h st cnt hw wx wy k what).1.1.1 - mu s0.1)) (by omega) (by omega) ?_
    exact W.iret hx hb hr (fun t ht9 hW => ⟨⟨_, (q, f), rfl, ⟨by rw [hEF], hz9⟩, by rw [ht9]; exact hP9, hD9⟩, hS.F ht9⟩) hS.2.2 dN_node_115
  · skip
    refine lv_iconst (v := -1) hx hb dN_node_18 (by decide) ?_
    have hEF : (sN_node (wOf sl wv) s0 h st cnt hw wx wy k what) = ((gs.1, gs.2.1, gs.2.2), (-1)) := by subst hgs; rw [sN_node, if_pos c_5]
    have hz9 : rowsT (sN_node (wOf sl wv) s0 h st cnt hw wx wy k what).1.1.1 f (sN_node (wOf sl wv) s0 h st cnt hw wx wy k what).1.1.2 := by rw [hEF]; exact hz
    have hP9 : va_P g.1 vwCl (nX g aN hw wx wy ad q ((sN_node (wOf sl wv) s0 h st cnt hw wx wy k what).1.1).1 f ((sN_node (wOf sl wv) s0 h st cnt hw wx wy k what).1.1).2 sl cnt ((sN_node (wOf sl wv) s0 h st cnt hw wx wy k what).1.2.1) ((sN_node (wOf sl wv) s0 h st cnt hw wx wy k what).1.2.2) ++ plW LW wv) H := by rw [hEF]; exact hP
    have hD9 : va_D A (nX g aN hw wx wy ad q ((sN_node (wOf sl wv) s0 h st cnt hw wx wy k what).1.1).1 f ((sN_node (wOf sl wv) s0 h st cnt hw wx wy k what).1.1).2 sl cnt ((sN_node (wOf sl wv) s0 h st cnt hw wx wy k what).1.2.1) ((sN_node (wOf sl wv) s0 h st cnt hw wx wy k what).1.2.2) ++ plW LW wv) := by rw [hEF]; exact hD
    have hmF : mu (sN_node (wOf sl wv) s0 h st cnt hw wx wy k what).1.1.1 = mu gs.1.1 := by rw [hEF]
    refine W.widen (k := (mu (sN_node (wOf sl wv) s0 h st cnt hw wx wy k what).1.1.1 - mu s0.1)) (n := (mu (sN_node (wOf sl wv) s0 h st cnt hw wx wy k what).1.1.1 - mu s0.1)) (by omega) (by omega) ?_
    exact W.iret hx hb hr (fun t ht9 hW => ⟨⟨_, (q, f), rfl, ⟨by rw [hEF], hz9⟩, by rw [ht9]; exact hP9, hD9⟩, hS.F ht9⟩) hS.2.2 dN_node_19
def sN_wall (Wl : Nat → Option WV) (s0 : TSt) (h st cnt hw wx wy : Int32) (k : Int32) (i : Int32) : (TSt × Int32 × Int32) × Int32 :=
  (((sT_grow Wl s0 h st).1, (sT_grow Wl s0 h st).2.1, (sT_grow Wl s0 h st).2.2), (sT_wallOfPiece (sT_grow Wl s0 h st).1.2 Wl (sT_pieceAt (sT_grow Wl s0 h st).1.2 Wl k i)))
set_option maxHeartbeats 4000000 in
set_option maxRecDepth 100000 in
theorem cN_wall (l : Launch) (g : CX) (sz : Nat) (aN : Nat) (hw wx wy : Int32) (ad q : Nat → Nat) (f : Nat → Nat → Int32) (s0 : TSt) (sl : Nat → Option Nat) (cnt h st : Int32) (LW : List Nat) (wv : Nat → WV) (hz : rowsT s0.1 f s0.2) (hsl : slOK sl LW) (k : Int32) (i : Int32) : Met l yN_wall (wm yN_wall kN_wall 3 (some .int)) ({ frames := 7, cells := (mu (sN_wall (wOf sl wv) s0 h st cnt hw wx wy k i).1.1.1 - mu s0.1), slots := (mu (sN_wall (wOf sl wv) s0 h st cnt hw wx wy k i).1.1.1 - mu s0.1), locals := 206 }) (rw g [.ref aN, .int k, .int i] (nX g aN hw wx wy ad q s0.1 f s0.2 sl cnt h st ++ plW LW wv) sz) (va_Qi (fun (r : Int32) (u : (Nat → Nat) × (Nat → Nat → Int32)) => r = (sN_wall (wOf sl wv) s0 h st cnt hw wx wy k i).2 ∧ rowsT (sN_wall (wOf sl wv) s0 h st cnt hw wx wy k i).1.1.1 u.2 (sN_wall (wOf sl wv) s0 h st cnt hw wx wy k i).1.1.2) (rB g (va_A (nX g aN hw wx wy ad q s0.1 f s0.2 sl cnt h st ++ plW LW wv) sz) (fun u => (nX g aN hw wx wy ad u.1 (sN_wall (wOf sl wv) s0 h st cnt hw wx wy k i).1.1.1 u.2 (sN_wall (wOf sl wv) s0 h st cnt hw wx wy k i).1.1.2 sl cnt (sN_wall (wOf sl wv) s0 h st cnt hw wx wy k i).1.2.1 (sN_wall (wOf sl wv) s0 h st cnt hw wx wy k i).1.2.2 ++ plW LW wv))) (va_A (nX g aN hw wx wy ad q s0.1 f s0.2 sl cnt h st ++ plW LW wv) sz)) (mu (sN_wall (wOf sl wv) s0 h st cnt hw wx wy k i).1.1.1 - mu s0.1) (mu (sN_wall (wOf sl wv) s0 h st cnt hw wx wy k i).1.1.1 - mu s0.1) (va_A (nX g aN hw wx wy ad q s0.1 f s0.2 sl cnt h st ++ plW LW wv) sz) := by
  refine Met.ofW (cc := kN_wall) (maxL := 3) (ret := (some .int)) (by decide) rfl ?_
  intro p e s m args below meth c s₁ B hml hv
  obtain ⟨rfl, hsz, hK, hP, hD0⟩ := hv
  have hx := B.exec
  have hb := B.bytes
  have hr := B.returns
  have ht : ∀ w ∈ wT, w.before _ s = true := fun w h => atoms_spec (ws := wm yN_wall kN_wall 3 (some .int)) B.pre w (List.mem_cons_of_mem _ h)
  have hown : s.vm.findClass "NodeMaker" = some m.cls := findClass_of_methodNamed B.named
  have hlocks := B.notSynchronized
  subst hsz
  have hD := hD0.self (sz := s.heap.size)
  generalize hAe : va_A (nX g aN hw wx wy ad q s0.1 f s0.2 sl cnt h st ++ plW LW wv) s.heap.size = A at hD ⊢
  have hA : ∀ q : Nat, s.heap.size ≤ q → A q := fun q h => by rw [← hAe]; exact Or.inr h
  have hS : va_S A s.heap s.heap [] := va_S.rf
  have hl := lv_entry ([.ref aN, .int k, .int i]) (n := 3) (Nat.le_of_ble_eq_true rfl)
  rw [lg_entry_eq]
  generalize (lg_sl ([.ref aN, .int k, .int i]) ++ List.replicate (3 - (lg_sl ([.ref aN, .int k, .int i])).length) Slot.unset).toArray = ls at hl ⊢
  have hl : lv_has ls 3 [(0, .ref aN), (1, .int k), (2, .int i)] := hl
  refine lv_aload_n hx hb dN_wall_0 rfl (lv_at hl 0 rfl) ?_
  refine va_get (D := g.1) (ci := 5) (v := .ref (ad 0)) (C := "NodeMaker") (T := Fd_N) (N := 4) hx hb ht i_N hown hK.1 hP 0 rfl rfl 0 (by decide) (ht _ q_154) (fun _ h9 => h9) rfl dN_wall_1 ?_
  have hPt : va_P g.1 vwCl (treeX g ad q s0.1 f s0.2 sl cnt h st ++ plW LW wv) s.heap := pl_P hP [1, 2, 3, 4, 5, 6, 7, 8, 9, 10, 11, 12, 13, 14, 15, 16, 17, 18, 19, 20, 21, 22, 23, 24, 25, 26, 27, 28, 29, 30, 31, 32, 33, 34, 35, 36, 37, 38, 39, 40, 41, 42, 43, 44] rfl
  have hDt : va_D A (treeX g ad q s0.1 f s0.2 sl cnt h st ++ plW LW wv) := pl_D hD [1, 2, 3, 4, 5, 6, 7, 8, 9, 10, 11, 12, 13, 14, 15, 16, 17, 18, 19, 20, 21, 22, 23, 24, 25, 26, 27, 28, 29, 30, 31, 32, 33, 34, 35, 36, 37, 38, 39, 40, 41, 42, 43, 44] (by decide) rfl
  have hFG : (sN_wall (wOf sl wv) s0 h st cnt hw wx wy k i).1 = sT_grow (wOf sl wv) s0 h st := by rw [sN_wall]; all_goals ((repeat' split) <;> rfl)
  have hFm : mu (sN_wall (wOf sl wv) s0 h st cnt hw wx wy k i).1.1.1 = mu (sT_grow (wOf sl wv) s0 h st).1.1 := by rw [hFG]
  have hgm : mu s0.1 ≤ mu (sT_grow (wOf sl wv) s0 h st).1.1 := grow_mono _ _ _ _
  obtain ⟨gs, hgs⟩ : ∃ x, x = sT_grow (wOf sl wv) s0 h st := ⟨_, rfl⟩
  refine rw_vP (X := nX g aN hw wx wy ad q s0.1 f s0.2 sl cnt h st) (pl := plW LW wv) (cx := treeX g ad q s0.1 f s0.2 sl cnt h st) (rx := fun (u : (Nat → Nat) × (Nat → Nat → Int32)) => treeX g ad u.1 (sT_grow (wOf sl wv) s0 h st).1.1 u.2 (sT_grow (wOf sl wv) s0 h st).1.2 sl cnt (sT_grow (wOf sl wv) s0 h st).2.1 (sT_grow (wOf sl wv) s0 h st).2.2) (pl1 := fun _ => plW LW wv) (wr := [(aN, .inr (5, [.ref (ad 0), .int hw, .int wx, .int wy]))]) (va_runV (As := []) (rest := []) ⟨hx, hb, hml, hown, ht⟩ (cT_grow l g s.heap.size ad q f s0 sl cnt h st LW wv hz hsl) (cwV 0 ht (g_V q_267 q_268 q_269 q_35 q_270) rfl rfl rfl hd_T_grow ⟨Nat.le_of_ble_eq_true rfl, Nat.le_of_ble_eq_true rfl⟩) (rw_V hK hPt hDt (va_recv hK.1 hPt (ci := 4) (q0 := 0) rfl rfl)) rfl rfl hl.1 rfl (lv_room (Nat.le_of_ble_eq_true rfl)) dN_wall_4 ⟨by show 0 + (mu (sT_grow (wOf sl wv) s0 h st).1.1 - mu s0.1) ≤ (mu (sN_wall (wOf sl wv) s0 h st cnt hw wx wy k i).1.1.1 - mu s0.1); omega, by show 0 + (mu (sT_grow (wOf sl wv) s0 h st).1.1 - mu s0.1) ≤ (mu (sN_wall (wOf sl wv) s0 h st cnt hw wx wy k i).1.1.1 - mu s0.1); omega⟩) hP hD hS hA [1, 2, 3, 4, 5, 6, 7, 8, 9, 10, 11, 12, 13, 14, 15, 16, 17, 18, 19, 20, 21, 22, 23, 24, 25, 26, 27, 28, 29, 30, 31, 32, 33, 34, 35, 36, 37, 38, 39, 40, 41, 42, 43, 44] [0] rfl rfl (by decide) (by decide) (fun u H locs hw9 hP hD hS => ?_)
  obtain ⟨q, f⟩ := u
  have hz : rowsT gs.1.1 f gs.1.2 := by rw [hgs]; exact hw9
  have hP : va_P g.1 vwCl (nX g aN hw wx wy ad q gs.1.1 f gs.1.2 sl cnt gs.2.1 gs.2.2 ++ plW LW wv) H := by rw [hgs]; exact hP
  have hD : va_D A (nX g aN hw wx wy ad q gs.1.1 f gs.1.2 sl cnt gs.2.1 gs.2.2 ++ plW LW wv) := by rw [hgs]; exact hD
  have hgu : mu (sT_grow (wOf sl wv) s0 h st).1.1 = mu gs.1.1 := by rw [hgs]
  have hgm : mu s0.1 ≤ mu gs.1.1 := by rw [hgs]; exact grow_mono _ _ _ _
  rw [← hgs] at hFG
  refine W.widen (k := mu gs.1.1 - mu s0.1) (n := mu gs.1.1 - mu s0.1) (by show 0 + (mu (sT_grow (wOf sl wv) s0 h st).1.1 - mu s0.1) ≤ _; omega) (by show 0 + (mu (sT_grow (wOf sl wv) s0 h st).1.1 - mu s0.1) ≤ _; omega) ?_
  refine lv_aload_n hx hb dN_wall_7 rfl (lv_at hl 0 rfl) ?_
  refine va_get (D := g.1) (ci := 5) (v := .ref (ad 0)) (C := "NodeMaker") (T := Fd_N) (N := 4) hx hb ht i_N hown hK.1 hP 0 rfl rfl 0 (by decide) (ht _ q_154) (fun _ h9 => h9) rfl dN_wall_8 ?_
  refine lv_aload_n hx hb dN_wall_11 rfl (lv_at hl 0 rfl) ?_
  refine va_get (D := g.1) (ci := 5) (v := .ref (ad 0)) (C := "NodeMaker") (T := Fd_N) (N := 4) hx hb ht i_N hown hK.1 hP 0 rfl rfl 0 (by decide) (ht _ q_154) (fun _ h9 => h9) rfl dN_wall_12 ?_
  refine lv_iload_n hx hb dN_wall_15 rfl (lv_at hl 1 rfl) ?_
  refine lv_iload_n hx hb dN_wall_16 rfl (lv_at hl 2 rfl) ?_
  have hPt : va_P g.1 vwCl (treeX g ad q gs.1.1 f gs.1.2 sl cnt gs.2.1 gs.2.2 ++ plW LW wv) H := pl_P hP [1, 2, 3, 4, 5, 6, 7, 8, 9, 10, 11, 12, 13, 14, 15, 16, 17, 18, 19, 20, 21, 22, 23, 24, 25, 26, 27, 28, 29, 30, 31, 32, 33, 34, 35, 36, 37, 38, 39, 40, 41, 42, 43, 44] rfl
  refine ro_Vi (v := sT_pieceAt gs.1.2 (wOf sl wv) k i) (As := [.int k, .int i]) (rest := [.ref (ad 0)]) ⟨hx, hb, hml, hown, ht⟩ (cT_pieceAt l g ad q gs.1.1 f gs.1.2 sl cnt gs.2.1 gs.2.2 LW wv hz hsl k i) (cwV 2 ht (g_V q_424 q_425 q_426 q_35 q_427) rfl rfl rfl hd_T_pieceAt ⟨Nat.le_of_ble_eq_true rfl, Nat.le_of_ble_eq_true rfl⟩) hK (hPt) (va_recv hK.1 hPt (ci := 4) (q0 := 0) rfl rfl) rfl hl.1 rfl (Nat.le_of_ble_eq_true rfl) dN_wall_17 ⟨by show mu gs.1.1 - mu s0.1 ≤ (mu (sN_wall (wOf sl wv) s0 h st cnt hw wx wy k i).1.1.1 - mu s0.1); omega, by show mu gs.1.1 - mu s0.1 ≤ (mu (sN_wall (wOf sl wv) s0 h st cnt hw wx wy k i).1.1.1 - mu s0.1); omega⟩ ?_
  have hPt : va_P g.1 vwCl (treeX g ad q gs.1.1 f gs.1.2 sl cnt gs.2.1 gs.2.2 ++ plW LW wv) H := pl_P hP [1, 2, 3, 4, 5, 6, 7, 8, 9, 10, 11, 12, 13, 14, 15, 16, 17, 18, 19, 20, 21, 22, 23, 24, 25, 26, 27, 28, 29, 30, 31, 32, 33, 34, 35, 36, 37, 38, 39, 40, 41, 42, 43, 44] rfl
  refine ro_Vi (v := sT_wallOfPiece gs.1.2 (wOf sl wv) (sT_pieceAt gs.1.2 (wOf sl wv) k i)) (As := [.int (sT_pieceAt gs.1.2 (wOf sl wv) k i)]) (rest := []) ⟨hx, hb, hml, hown, ht⟩ (cT_wallOfPiece l g ad q gs.1.1 f gs.1.2 sl cnt gs.2.1 gs.2.2 LW wv hz hsl (sT_pieceAt gs.1.2 (wOf sl wv) k i)) (cwV 1 ht (g_V q_429 q_430 q_431 q_35 q_432) rfl rfl rfl hd_T_wallOfPiece ⟨Nat.le_of_ble_eq_true rfl, Nat.le_of_ble_eq_true rfl⟩) hK (hPt) (va_recv hK.1 hPt (ci := 4) (q0 := 0) rfl rfl) rfl hl.1 rfl (Nat.le_of_ble_eq_true rfl) dN_wall_20 ⟨by show mu gs.1.1 - mu s0.1 ≤ (mu (sN_wall (wOf sl wv) s0 h st cnt hw wx wy k i).1.1.1 - mu s0.1); omega, by show mu gs.1.1 - mu s0.1 ≤ (mu (sN_wall (wOf sl wv) s0 h st cnt hw wx wy k i).1.1.1 - mu s0.1); omega⟩ ?_
  have hEF : (sN_wall (wOf sl wv) s0 h st cnt hw wx wy k i) = ((gs.1, gs.2.1, gs.2.2), (sT_wallOfPiece gs.1.2 (wOf sl wv) (sT_pieceAt gs.1.2 (wOf sl wv) k i))) := by subst hgs; rw [sN_wall]
  have hz9 : rowsT (sN_wall (wOf sl wv) s0 h st cnt hw wx wy k i).1.1.1 f (sN_wall (wOf sl wv) s0 h st cnt hw wx wy k i).1.1.2 := by rw [hEF]; exact hz
  have hP9 : va_P g.1 vwCl (nX g aN hw wx wy ad q ((sN_wall (wOf sl wv) s0 h st cnt hw wx wy k i).1.1).1 f ((sN_wall (wOf sl wv) s0 h st cnt hw wx wy k i).1.1).2 sl cnt ((sN_wall (wOf sl wv) s0 h st cnt hw wx wy k i).1.2.1) ((sN_wall (wOf sl wv) s0 h st cnt hw wx wy k i).1.2.2) ++ plW LW wv) H := by rw [hEF]; exact hP
  have hD9 : va_D A (nX g aN hw wx wy ad q ((sN_wall (wOf sl wv) s0 h st cnt hw wx wy k i).1.1).1 f ((sN_wall (wOf sl wv) s0 h st cnt hw wx wy k i).1.1).2 sl cnt ((sN_wall (wOf sl wv) s0 h st cnt hw wx wy k i).1.2.1) ((sN_wall (wOf sl wv) s0 h st cnt hw wx wy k i).1.2.2) ++ plW LW wv) := by rw [hEF]; exact hD
  have hmF : mu (sN_wall (wOf sl wv) s0 h st cnt hw wx wy k i).1.1.1 = mu gs.1.1 := by rw [hEF]
  refine W.widen (k := (mu (sN_wall (wOf sl wv) s0 h st cnt hw wx wy k i).1.1.1 - mu s0.1)) (n := (mu (sN_wall (wOf sl wv) s0 h st cnt hw wx wy k i).1.1.1 - mu s0.1)) (by omega) (by omega) ?_
  exact W.iret hx hb hr (fun t ht9 hW => ⟨⟨_, (q, f), rfl, ⟨by rw [hEF], hz9⟩, by rw [ht9]; exact hP9, hD9⟩, hS.F ht9⟩) hS.2.2 dN_wall_23
def sN_leaf (Wl : Nat → Option WV) (s0 : TSt) (h st cnt hw wx wy : Int32) (x : Int32) (y : Int32) : (TSt × Int32 × Int32) × Int32 :=
  if (sN_isPlace x y) = 0 then
    ((s0, h, st), (-1))
  else
    (((sT_grow Wl s0 h st).1, (sT_grow Wl s0 h st).2.1, (sT_grow Wl s0 h st).2.2), (sT_leafAround (sT_grow Wl s0 h st).1.2 Wl x y))
set_option maxHeartbeats 4000000 in
set_option maxRecDepth 100000 in
theorem cN_leaf (l : Launch) (g : CX) (sz : Nat) (aN : Nat) (hw wx wy : Int32) (ad q : Nat → Nat) (f : Nat → Nat → Int32) (s0 : TSt) (sl : Nat → Option Nat) (cnt h st : Int32) (LW : List Nat) (wv : Nat → WV) (hz : rowsT s0.1 f s0.2) (hsl : slOK sl LW) (x : Int32) (y : Int32) : Met l yN_leaf (wm yN_leaf kN_leaf 3 (some .int)) ({ frames := 7, cells := (mu (sN_leaf (wOf sl wv) s0 h st cnt hw wx wy x y).1.1.1 - mu s0.1), slots := (mu (sN_leaf (wOf sl wv) s0 h st cnt hw wx wy x y).1.1.1 - mu s0.1), locals := 206 }) (rw g [.ref aN, .int x, .int y] (nX g aN hw wx wy ad q s0.1 f s0.2 sl cnt h st ++ plW LW wv) sz) (va_Qi (fun (r : Int32) (u : (Nat → Nat) × (Nat → Nat → Int32)) => r = (sN_leaf (wOf sl wv) s0 h st cnt hw wx wy x y).2 ∧ rowsT (sN_leaf (wOf sl wv) s0 h st cnt hw wx wy x y).1.1.1 u.2 (sN_leaf (wOf sl wv) s0 h st cnt hw wx wy x y).1.1.2) (rB g (va_A (nX g aN hw wx wy ad q s0.1 f s0.2 sl cnt h st ++ plW LW wv) sz) (fun u => (nX g aN hw wx wy ad u.1 (sN_leaf (wOf sl wv) s0 h st cnt hw wx wy x y).1.1.1 u.2 (sN_leaf (wOf sl wv) s0 h st cnt hw wx wy x y).1.1.2 sl cnt (sN_leaf (wOf sl wv) s0 h st cnt hw wx wy x y).1.2.1 (sN_leaf (wOf sl wv) s0 h st cnt hw wx wy x y).1.2.2 ++ plW LW wv))) (va_A (nX g aN hw wx wy ad q s0.1 f s0.2 sl cnt h st ++ plW LW wv) sz)) (mu (sN_leaf (wOf sl wv) s0 h st cnt hw wx wy x y).1.1.1 - mu s0.1) (mu (sN_leaf (wOf sl wv) s0 h st cnt hw wx wy x y).1.1.1 - mu s0.1) (va_A (nX g aN hw wx wy ad q s0.1 f s0.2 sl cnt h st ++ plW LW wv) sz) := by
  refine Met.ofW (cc := kN_leaf) (maxL := 3) (ret := (some .int)) (by decide) rfl ?_
  intro p e s m args below meth c s₁ B hml hv
  obtain ⟨rfl, hsz, hK, hP, hD0⟩ := hv
  have hx := B.exec
  have hb := B.bytes
  have hr := B.returns
  have ht : ∀ w ∈ wT, w.before _ s = true := fun w h => atoms_spec (ws := wm yN_leaf kN_leaf 3 (some .int)) B.pre w (List.mem_cons_of_mem _ h)
  have hown : s.vm.findClass "NodeMaker" = some m.cls := findClass_of_methodNamed B.named
  have hlocks := B.notSynchronized
  subst hsz
  have hD := hD0.self (sz := s.heap.size)
  generalize hAe : va_A (nX g aN hw wx wy ad q s0.1 f s0.2 sl cnt h st ++ plW LW wv) s.heap.size = A at hD ⊢
  have hA : ∀ q : Nat, s.heap.size ≤ q → A q := fun q h => by rw [← hAe]; exact Or.inr h
  have hS : va_S A s.heap s.heap [] := va_S.rf
  have hl := lv_entry ([.ref aN, .int x, .int y]) (n := 3) (Nat.le_of_ble_eq_true rfl)
  rw [lg_entry_eq]
  generalize (lg_sl ([.ref aN, .int x, .int y]) ++ List.replicate (3 - (lg_sl ([.ref aN, .int x, .int y])).length) Slot.unset).toArray = ls at hl ⊢
  have hl : lv_has ls 3 [(0, .ref aN), (1, .int x), (2, .int y)] := hl
  refine lv_iload_n hx hb dN_leaf_0 rfl (lv_at hl 1 rfl) ?_
  refine lv_iload_n hx hb dN_leaf_1 rfl (lv_at hl 2 rfl) ?_
  refine ro_Si (v := sN_isPlace x y) (As := [.int x, .int y]) (rest := []) ⟨hx, hb, hml, hown, ht⟩ (cN_isPlace l g x y) (cwS 2 ht (g_S q_171 q_172 q_34 q_173) rfl rfl rfl hd_N_isPlace ⟨Nat.le_of_ble_eq_true rfl, Nat.le_of_ble_eq_true rfl⟩) hK (trivial) rfl hl.1 rfl (Nat.le_of_ble_eq_true rfl) dN_leaf_2 ⟨by show 0 ≤ (mu (sN_leaf (wOf sl wv) s0 h st cnt hw wx wy x y).1.1.1 - mu s0.1); omega, by show 0 ≤ (mu (sN_leaf (wOf sl wv) s0 h st cnt hw wx wy x y).1.1.1 - mu s0.1); omega⟩ ?_
  refine lv_if_ne (tgt := 10) hx hb dN_leaf_5 (by decide) (fun c_12 => ?_) (fun c_12 => ?_)
  · skip
    refine lv_aload_n hx hb dN_leaf_10 rfl (lv_at hl 0 rfl) ?_
    refine va_get (D := g.1) (ci := 5) (v := .ref (ad 0)) (C := "NodeMaker") (T := Fd_N) (N := 4) hx hb ht i_N hown hK.1 hP 0 rfl rfl 0 (by decide) (ht _ q_154) (fun _ h9 => h9) rfl dN_leaf_11 ?_
    have hPt : va_P g.1 vwCl (treeX g ad q s0.1 f s0.2 sl cnt h st ++ plW LW wv) s.heap := pl_P hP [1, 2, 3, 4, 5, 6, 7, 8, 9, 10, 11, 12, 13, 14, 15, 16, 17, 18, 19, 20, 21, 22, 23, 24, 25, 26, 27, 28, 29, 30, 31, 32, 33, 34, 35, 36, 37, 38, 39, 40, 41, 42, 43, 44] rfl
    have hDt : va_D A (treeX g ad q s0.1 f s0.2 sl cnt h st ++ plW LW wv) := pl_D hD [1, 2, 3, 4, 5, 6, 7, 8, 9, 10, 11, 12, 13, 14, 15, 16, 17, 18, 19, 20, 21, 22, 23, 24, 25, 26, 27, 28, 29, 30, 31, 32, 33, 34, 35, 36, 37, 38, 39, 40, 41, 42, 43, 44] (by decide) rfl
    have hFG : (sN_leaf (wOf sl wv) s0 h st cnt hw wx wy x y).1 = sT_grow (wOf sl wv) s0 h st := by rw [sN_leaf, if_neg c_12]; all_goals ((repeat' split) <;> rfl)
    have hFm : mu (sN_leaf (wOf sl wv) s0 h st cnt hw wx wy x y).1.1.1 = mu (sT_grow (wOf sl wv) s0 h st).1.1 := by rw [hFG]
    have hgm : mu s0.1 ≤ mu (sT_grow (wOf sl wv) s0 h st).1.1 := grow_mono _ _ _ _
    obtain ⟨gs, hgs⟩ : ∃ x, x = sT_grow (wOf sl wv) s0 h st := ⟨_, rfl⟩
    refine rw_vP (X := nX g aN hw wx wy ad q s0.1 f s0.2 sl cnt h st) (pl := plW LW wv) (cx := treeX g ad q s0.1 f s0.2 sl cnt h st) (rx := fun (u : (Nat → Nat) × (Nat → Nat → Int32)) => treeX g ad u.1 (sT_grow (wOf sl wv) s0 h st).1.1 u.2 (sT_grow (wOf sl wv) s0 h st).1.2 sl cnt (sT_grow (wOf sl wv) s0 h st).2.1 (sT_grow (wOf sl wv) s0 h st).2.2) (pl1 := fun _ => plW LW wv) (wr := [(aN, .inr (5, [.ref (ad 0), .int hw, .int wx, .int wy]))]) (va_runV (As := []) (rest := []) ⟨hx, hb, hml, hown, ht⟩ (cT_grow l g s.heap.size ad q f s0 sl cnt h st LW wv hz hsl) (cwV 0 ht (g_V q_267 q_268 q_269 q_35 q_270) rfl rfl rfl hd_T_grow ⟨Nat.le_of_ble_eq_true rfl, Nat.le_of_ble_eq_true rfl⟩) (rw_V hK hPt hDt (va_recv hK.1 hPt (ci := 4) (q0 := 0) rfl rfl)) rfl rfl hl.1 rfl (lv_room (Nat.le_of_ble_eq_true rfl)) dN_leaf_14 ⟨by show 0 + (mu (sT_grow (wOf sl wv) s0 h st).1.1 - mu s0.1) ≤ (mu (sN_leaf (wOf sl wv) s0 h st cnt hw wx wy x y).1.1.1 - mu s0.1); omega, by show 0 + (mu (sT_grow (wOf sl wv) s0 h st).1.1 - mu s0.1) ≤ (mu (sN_leaf (wOf sl wv) s0 h st cnt hw wx wy x y).1.1.1 - mu s0.1); omega⟩) hP hD hS hA [1, 2, 3, 4, 5, 6, 7, 8, 9, 10, 11, 12, 13, 14, 15, 16, 17, 18, 19, 20, 21, 22, 23, 24, 25, 26, 27, 28, 29, 30, 31, 32, 33, 34, 35, 36, 37, 38, 39, 40, 41, 42, 43, 44] [0] rfl rfl (by decide) (by decide) (fun u H locs hw9 hP hD hS => ?_)
    obtain ⟨q, f⟩ := u
    have hz : rowsT gs.1.1 f gs.1.2 := by rw [hgs]; exact hw9
    have hP : va_P g.1 vwCl (nX g aN hw wx wy ad q gs.1.1 f gs.1.2 sl cnt gs.2.1 gs.2.2 ++ plW LW wv) H := by rw [hgs]; exact hP
    have hD : va_D A (nX g aN hw wx wy ad q gs.1.1 f gs.1.2 sl cnt gs.2.1 gs.2.2 ++ plW LW wv) := by rw [hgs]; exact hD
    have hgu : mu (sT_grow (wOf sl wv) s0 h st).1.1 = mu gs.1.1 := by rw [hgs]
    have hgm : mu s0.1 ≤ mu gs.1.1 := by rw [hgs]; exact grow_mono _ _ _ _
    rw [← hgs] at hFG
    refine W.widen (k := mu gs.1.1 - mu s0.1) (n := mu gs.1.1 - mu s0.1) (by show 0 + (mu (sT_grow (wOf sl wv) s0 h st).1.1 - mu s0.1) ≤ _; omega) (by show 0 + (mu (sT_grow (wOf sl wv) s0 h st).1.1 - mu s0.1) ≤ _; omega) ?_
    refine lv_aload_n hx hb dN_leaf_17 rfl (lv_at hl 0 rfl) ?_
    refine va_get (D := g.1) (ci := 5) (v := .ref (ad 0)) (C := "NodeMaker") (T := Fd_N) (N := 4) hx hb ht i_N hown hK.1 hP 0 rfl rfl 0 (by decide) (ht _ q_154) (fun _ h9 => h9) rfl dN_leaf_18 ?_
    refine lv_iload_n hx hb dN_leaf_21 rfl (lv_at hl 1 rfl) ?_
    refine lv_iload_n hx hb dN_leaf_22 rfl (lv_at hl 2 rfl) ?_
    have hPt : va_P g.1 vwCl (treeX g ad q gs.1.1 f gs.1.2 sl cnt gs.2.1 gs.2.2 ++ plW LW wv) H := pl_P hP [1, 2, 3, 4, 5, 6, 7, 8, 9, 10, 11, 12, 13, 14, 15, 16, 17, 18, 19, 20, 21, 22, 23, 24, 25, 26, 27, 28, 29, 30, 31, 32, 33, 34, 35, 36, 37, 38, 39, 40, 41, 42, 43, 44] rfl
    refine ro_Vi (v := sT_leafAround gs.1.2 (wOf sl wv) x y) (As := [.int x, .int y]) (rest := []) ⟨hx, hb, hml, hown, ht⟩ (cT_leafAround l g ad q gs.1.1 f gs.1.2 sl cnt gs.2.1 gs.2.2 LW wv hz hsl x y) (cwV 2 ht (g_V q_450 q_451 q_452 q_35 q_453) rfl rfl rfl hd_T_leafAround ⟨Nat.le_of_ble_eq_true rfl, Nat.le_of_ble_eq_true rfl⟩) hK (hPt) (va_recv hK.1 hPt (ci := 4) (q0 := 0) rfl rfl) rfl hl.1 rfl (Nat.le_of_ble_eq_true rfl) dN_leaf_23 ⟨by show mu gs.1.1 - mu s0.1 ≤ (mu (sN_leaf (wOf sl wv) s0 h st cnt hw wx wy x y).1.1.1 - mu s0.1); omega, by show mu gs.1.1 - mu s0.1 ≤ (mu (sN_leaf (wOf sl wv) s0 h st cnt hw wx wy x y).1.1.1 - mu s0.1); omega⟩ ?_
    have hEF : (sN_leaf (wOf sl wv) s0 h st cnt hw wx wy x y) = ((gs.1, gs.2.1, gs.2.2), (sT_leafAround gs.1.2 (wOf sl wv) x y)) := by subst hgs; rw [sN_leaf, if_neg c_12]
    have hz9 : rowsT (sN_leaf (wOf sl wv) s0 h st cnt hw wx wy x y).1.1.1 f (sN_leaf (wOf sl wv) s0 h st cnt hw wx wy x y).1.1.2 := by rw [hEF]; exact hz
    have hP9 : va_P g.1 vwCl (nX g aN hw wx wy ad q ((sN_leaf (wOf sl wv) s0 h st cnt hw wx wy x y).1.1).1 f ((sN_leaf (wOf sl wv) s0 h st cnt hw wx wy x y).1.1).2 sl cnt ((sN_leaf (wOf sl wv) s0 h st cnt hw wx wy x y).1.2.1) ((sN_leaf (wOf sl wv) s0 h st cnt hw wx wy x y).1.2.2) ++ plW LW wv) H := by rw [hEF]; exact hP
    have hD9 : va_D A (nX g aN hw wx wy ad q ((sN_leaf (wOf sl wv) s0 h st cnt hw wx wy x y).1.1).1 f ((sN_leaf (wOf sl wv) s0 h st cnt hw wx wy x y).1.1).2 sl cnt ((sN_leaf (wOf sl wv) s0 h st cnt hw wx wy x y).1.2.1) ((sN_leaf (wOf sl wv) s0 h st cnt hw wx wy x y).1.2.2) ++ plW LW wv) := by rw [hEF]; exact hD
    have hmF : mu (sN_leaf (wOf sl wv) s0 h st cnt hw wx wy x y).1.1.1 = mu gs.1.1 := by rw [hEF]
    refine W.widen (k := (mu (sN_leaf (wOf sl wv) s0 h st cnt hw wx wy x y).1.1.1 - mu s0.1)) (n := (mu (sN_leaf (wOf sl wv) s0 h st cnt hw wx wy x y).1.1.1 - mu s0.1)) (by omega) (by omega) ?_
    exact W.iret hx hb hr (fun t ht9 hW => ⟨⟨_, (q, f), rfl, ⟨by rw [hEF], hz9⟩, by rw [ht9]; exact hP9, hD9⟩, hS.F ht9⟩) hS.2.2 dN_leaf_26
  · skip
    refine lv_iconst (v := -1) hx hb dN_leaf_8 (by decide) ?_
    have hEF : (sN_leaf (wOf sl wv) s0 h st cnt hw wx wy x y) = ((s0, h, st), (-1)) := by rw [sN_leaf, if_pos c_12]
    have hz9 : rowsT (sN_leaf (wOf sl wv) s0 h st cnt hw wx wy x y).1.1.1 f (sN_leaf (wOf sl wv) s0 h st cnt hw wx wy x y).1.1.2 := by rw [hEF]; exact hz
    have hP9 : va_P g.1 vwCl (nX g aN hw wx wy ad q ((sN_leaf (wOf sl wv) s0 h st cnt hw wx wy x y).1.1).1 f ((sN_leaf (wOf sl wv) s0 h st cnt hw wx wy x y).1.1).2 sl cnt ((sN_leaf (wOf sl wv) s0 h st cnt hw wx wy x y).1.2.1) ((sN_leaf (wOf sl wv) s0 h st cnt hw wx wy x y).1.2.2) ++ plW LW wv) s.heap := by rw [hEF]; exact hP
    have hD9 : va_D A (nX g aN hw wx wy ad q ((sN_leaf (wOf sl wv) s0 h st cnt hw wx wy x y).1.1).1 f ((sN_leaf (wOf sl wv) s0 h st cnt hw wx wy x y).1.1).2 sl cnt ((sN_leaf (wOf sl wv) s0 h st cnt hw wx wy x y).1.2.1) ((sN_leaf (wOf sl wv) s0 h st cnt hw wx wy x y).1.2.2) ++ plW LW wv) := by rw [hEF]; exact hD
    have hmF : mu (sN_leaf (wOf sl wv) s0 h st cnt hw wx wy x y).1.1.1 = mu s0.1 := by rw [hEF]
    refine W.widen (k := (mu (sN_leaf (wOf sl wv) s0 h st cnt hw wx wy x y).1.1.1 - mu s0.1)) (n := (mu (sN_leaf (wOf sl wv) s0 h st cnt hw wx wy x y).1.1.1 - mu s0.1)) (by omega) (by omega) ?_
    exact W.iret hx hb hr (fun t ht9 hW => ⟨⟨_, (q, f), rfl, ⟨by rw [hEF], hz9⟩, by rw [ht9]; exact hP9, hD9⟩, hS.F ht9⟩) hS.2.2 dN_leaf_9
def sN_look (Wl : Nat → Option WV) (s0 : TSt) (h st cnt hw wx wy : Int32) (wh : Int32) : (TSt × Int32 × Int32) × Int32 :=
  if wh = 0 then
    (((sT_grow Wl s0 h st).1, (sT_grow Wl s0 h st).2.1, (sT_grow Wl s0 h st).2.2), cnt)
  else
    if wh = 1 then
      (((sT_grow Wl s0 h st).1, (sT_grow Wl s0 h st).2.1, (sT_grow Wl s0 h st).2.2), (sT_nodeCount (sT_grow Wl s0 h st).1.2 Wl))
    else
      if wh = 2 then
        (((sT_grow Wl s0 h st).1, (sT_grow Wl s0 h st).2.1, (sT_grow Wl s0 h st).2.2), ((sT_nodeCount (sT_grow Wl s0 h st).1.2 Wl) + 1))
      else
        if wh = 3 then
          (((sT_grow Wl s0 h st).1, (sT_grow Wl s0 h st).2.1, (sT_grow Wl s0 h st).2.2), (sT_pieceCount (sT_grow Wl s0 h st).1.2 Wl))
        else
          if wh = 4 then
            (((sT_grow Wl s0 h st).1, (sT_grow Wl s0 h st).2.1, (sT_grow Wl s0 h st).2.2), (sT_grow Wl s0 h st).2.1)
          else
            if wh = 5 then
              (((sT_grow Wl s0 h st).1, (sT_grow Wl s0 h st).2.1, (sT_grow Wl s0 h st).2.2), ((sT_pieceCount (sT_grow Wl s0 h st).1.2 Wl) - cnt))
            else
              (((sT_grow Wl s0 h st).1, (sT_grow Wl s0 h st).2.1, (sT_grow Wl s0 h st).2.2), (-1))
set_option maxHeartbeats 4000000 in
set_option maxRecDepth 100000 in
theorem cN_look (l : Launch) (g : CX) (sz : Nat) (aN : Nat) (hw wx wy : Int32) (ad q : Nat → Nat) (f : Nat → Nat → Int32) (s0 : TSt) (sl : Nat → Option Nat) (cnt h st : Int32) (LW : List Nat) (wv : Nat → WV) (hz : rowsT s0.1 f s0.2) (hsl : slOK sl LW) (wh : Int32) : Met l yN_look (wm yN_look kN_look 2 (some .int)) ({ frames := 7, cells := (mu (sN_look (wOf sl wv) s0 h st cnt hw wx wy wh).1.1.1 - mu s0.1), slots := (mu (sN_look (wOf sl wv) s0 h st cnt hw wx wy wh).1.1.1 - mu s0.1), locals := 206 }) (rw g [.ref aN, .int wh] (nX g aN hw wx wy ad q s0.1 f s0.2 sl cnt h st ++ plW LW wv) sz) (va_Qi (fun (r : Int32) (u : (Nat → Nat) × (Nat → Nat → Int32)) => r = (sN_look (wOf sl wv) s0 h st cnt hw wx wy wh).2 ∧ rowsT (sN_look (wOf sl wv) s0 h st cnt hw wx wy wh).1.1.1 u.2 (sN_look (wOf sl wv) s0 h st cnt hw wx wy wh).1.1.2) (rB g (va_A (nX g aN hw wx wy ad q s0.1 f s0.2 sl cnt h st ++ plW LW wv) sz) (fun u => (nX g aN hw wx wy ad u.1 (sN_look (wOf sl wv) s0 h st cnt hw wx wy wh).1.1.1 u.2 (sN_look (wOf sl wv) s0 h st cnt hw wx wy wh).1.1.2 sl cnt (sN_look (wOf sl wv) s0 h st cnt hw wx wy wh).1.2.1 (sN_look (wOf sl wv) s0 h st cnt hw wx wy wh).1.2.2 ++ plW LW wv))) (va_A (nX g aN hw wx wy ad q s0.1 f s0.2 sl cnt h st ++ plW LW wv) sz)) (mu (sN_look (wOf sl wv) s0 h st cnt hw wx wy wh).1.1.1 - mu s0.1) (mu (sN_look (wOf sl wv) s0 h st cnt hw wx wy wh).1.1.1 - mu s0.1) (va_A (nX g aN hw wx wy ad q s0.1 f s0.2 sl cnt h st ++ plW LW wv) sz) := by
  refine Met.ofW (cc := kN_look) (maxL := 2) (ret := (some .int)) (by decide) rfl ?_
  intro p e s m args below meth c s₁ B hml hv
  obtain ⟨rfl, hsz, hK, hP, hD0⟩ := hv
  have hx := B.exec
  have hb := B.bytes
  have hr := B.returns
  have ht : ∀ w ∈ wT, w.before _ s = true := fun w h => atoms_spec (ws := wm yN_look kN_look 2 (some .int)) B.pre w (List.mem_cons_of_mem _ h)
  have hown : s.vm.findClass "NodeMaker" = some m.cls := findClass_of_methodNamed B.named
  have hlocks := B.notSynchronized
  subst hsz
  have hD := hD0.self (sz := s.heap.size)
  generalize hAe : va_A (nX g aN hw wx wy ad q s0.1 f s0.2 sl cnt h st ++ plW LW wv) s.heap.size = A at hD ⊢
  have hA : ∀ q : Nat, s.heap.size ≤ q → A q := fun q h => by rw [← hAe]; exact Or.inr h
  have hS : va_S A s.heap s.heap [] := va_S.rf
  have hl := lv_entry ([.ref aN, .int wh]) (n := 2) (Nat.le_of_ble_eq_true rfl)
  rw [lg_entry_eq]
  generalize (lg_sl ([.ref aN, .int wh]) ++ List.replicate (2 - (lg_sl ([.ref aN, .int wh])).length) Slot.unset).toArray = ls at hl ⊢
  have hl : lv_has ls 2 [(0, .ref aN), (1, .int wh)] := hl
  refine lv_aload_n hx hb dN_look_0 rfl (lv_at hl 0 rfl) ?_
  refine va_get (D := g.1) (ci := 5) (v := .ref (ad 0)) (C := "NodeMaker") (T := Fd_N) (N := 4) hx hb ht i_N hown hK.1 hP 0 rfl rfl 0 (by decide) (ht _ q_154) (fun _ h9 => h9) rfl dN_look_1 ?_
  have hPt : va_P g.1 vwCl (treeX g ad q s0.1 f s0.2 sl cnt h st ++ plW LW wv) s.heap := pl_P hP [1, 2, 3, 4, 5, 6, 7, 8, 9, 10, 11, 12, 13, 14, 15, 16, 17, 18, 19, 20, 21, 22, 23, 24, 25, 26, 27, 28, 29, 30, 31, 32, 33, 34, 35, 36, 37, 38, 39, 40, 41, 42, 43, 44] rfl
  have hDt : va_D A (treeX g ad q s0.1 f s0.2 sl cnt h st ++ plW LW wv) := pl_D hD [1, 2, 3, 4, 5, 6, 7, 8, 9, 10, 11, 12, 13, 14, 15, 16, 17, 18, 19, 20, 21, 22, 23, 24, 25, 26, 27, 28, 29, 30, 31, 32, 33, 34, 35, 36, 37, 38, 39, 40, 41, 42, 43, 44] (by decide) rfl
  have hFG : (sN_look (wOf sl wv) s0 h st cnt hw wx wy wh).1 = sT_grow (wOf sl wv) s0 h st := by rw [sN_look]; all_goals ((repeat' split) <;> rfl)
  have hFm : mu (sN_look (wOf sl wv) s0 h st cnt hw wx wy wh).1.1.1 = mu (sT_grow (wOf sl wv) s0 h st).1.1 := by rw [hFG]
  have hgm : mu s0.1 ≤ mu (sT_grow (wOf sl wv) s0 h st).1.1 := grow_mono _ _ _ _
  obtain ⟨gs, hgs⟩ : ∃ x, x = sT_grow (wOf sl wv) s0 h st := ⟨_, rfl⟩
  refine rw_vP (X := nX g aN hw wx wy ad q s0.1 f s0.2 sl cnt h st) (pl := plW LW wv) (cx := treeX g ad q s0.1 f s0.2 sl cnt h st) (rx := fun (u : (Nat → Nat) × (Nat → Nat → Int32)) => treeX g ad u.1 (sT_grow (wOf sl wv) s0 h st).1.1 u.2 (sT_grow (wOf sl wv) s0 h st).1.2 sl cnt (sT_grow (wOf sl wv) s0 h st).2.1 (sT_grow (wOf sl wv) s0 h st).2.2) (pl1 := fun _ => plW LW wv) (wr := [(aN, .inr (5, [.ref (ad 0), .int hw, .int wx, .int wy]))]) (va_runV (As := []) (rest := []) ⟨hx, hb, hml, hown, ht⟩ (cT_grow l g s.heap.size ad q f s0 sl cnt h st LW wv hz hsl) (cwV 0 ht (g_V q_267 q_268 q_269 q_35 q_270) rfl rfl rfl hd_T_grow ⟨Nat.le_of_ble_eq_true rfl, Nat.le_of_ble_eq_true rfl⟩) (rw_V hK hPt hDt (va_recv hK.1 hPt (ci := 4) (q0 := 0) rfl rfl)) rfl rfl hl.1 rfl (lv_room (Nat.le_of_ble_eq_true rfl)) dN_look_4 ⟨by show 0 + (mu (sT_grow (wOf sl wv) s0 h st).1.1 - mu s0.1) ≤ (mu (sN_look (wOf sl wv) s0 h st cnt hw wx wy wh).1.1.1 - mu s0.1); omega, by show 0 + (mu (sT_grow (wOf sl wv) s0 h st).1.1 - mu s0.1) ≤ (mu (sN_look (wOf sl wv) s0 h st cnt hw wx wy wh).1.1.1 - mu s0.1); omega⟩) hP hD hS hA [1, 2, 3, 4, 5, 6, 7, 8, 9, 10, 11, 12, 13, 14, 15, 16, 17, 18, 19, 20, 21, 22, 23, 24, 25, 26, 27, 28, 29, 30, 31, 32, 33, 34, 35, 36, 37, 38, 39, 40, 41, 42, 43, 44] [0] rfl rfl (by decide) (by decide) (fun u H locs hw9 hP hD hS => ?_)
  obtain ⟨q, f⟩ := u
  have hz : rowsT gs.1.1 f gs.1.2 := by rw [hgs]; exact hw9
  have hP : va_P g.1 vwCl (nX g aN hw wx wy ad q gs.1.1 f gs.1.2 sl cnt gs.2.1 gs.2.2 ++ plW LW wv) H := by rw [hgs]; exact hP
  have hD : va_D A (nX g aN hw wx wy ad q gs.1.1 f gs.1.2 sl cnt gs.2.1 gs.2.2 ++ plW LW wv) := by rw [hgs]; exact hD
  have hgu : mu (sT_grow (wOf sl wv) s0 h st).1.1 = mu gs.1.1 := by rw [hgs]
  have hgm : mu s0.1 ≤ mu gs.1.1 := by rw [hgs]; exact grow_mono _ _ _ _
  rw [← hgs] at hFG
  refine W.widen (k := mu gs.1.1 - mu s0.1) (n := mu gs.1.1 - mu s0.1) (by show 0 + (mu (sT_grow (wOf sl wv) s0 h st).1.1 - mu s0.1) ≤ _; omega) (by show 0 + (mu (sT_grow (wOf sl wv) s0 h st).1.1 - mu s0.1) ≤ _; omega) ?_
  refine lv_iload_n hx hb dN_look_7 rfl (lv_at hl 1 rfl) ?_
  by_cases c_13 : wh = 0
  · skip
    refine lv_tableIn (off := 40) (tgt := 48) hx hb dN_look_8 (by rw [c_13]; decide) (by rw [c_13]; decide) (by rw [c_13]; decide) (by decide) ?_
    refine lv_aload_n hx hb dN_look_48 rfl (lv_at hl 0 rfl) ?_
    refine va_get (D := g.1) (ci := 5) (v := .ref (ad 0)) (C := "NodeMaker") (T := Fd_N) (N := 4) hx hb ht i_N hown hK.1 hP 0 rfl rfl 0 (by decide) (ht _ q_154) (fun _ h9 => h9) rfl dN_look_49 ?_
    have hPt : va_P g.1 vwCl (treeX g ad q gs.1.1 f gs.1.2 sl cnt gs.2.1 gs.2.2 ++ plW LW wv) H := pl_P hP [1, 2, 3, 4, 5, 6, 7, 8, 9, 10, 11, 12, 13, 14, 15, 16, 17, 18, 19, 20, 21, 22, 23, 24, 25, 26, 27, 28, 29, 30, 31, 32, 33, 34, 35, 36, 37, 38, 39, 40, 41, 42, 43, 44] rfl
    refine ro_Vi (v := cnt) (As := []) (rest := []) ⟨hx, hb, hml, hown, ht⟩ (cT_wallCount l g ad q gs.1.1 f gs.1.2 sl cnt gs.2.1 gs.2.2 LW wv hz hsl ) (cwV 0 ht (g_V q_503 q_504 q_505 q_35 q_506) rfl rfl rfl hd_T_wallCount ⟨Nat.le_of_ble_eq_true rfl, Nat.le_of_ble_eq_true rfl⟩) hK (hPt) (va_recv hK.1 hPt (ci := 4) (q0 := 0) rfl rfl) rfl hl.1 rfl (Nat.le_of_ble_eq_true rfl) dN_look_52 ⟨by show mu gs.1.1 - mu s0.1 ≤ (mu (sN_look (wOf sl wv) s0 h st cnt hw wx wy wh).1.1.1 - mu s0.1); omega, by show mu gs.1.1 - mu s0.1 ≤ (mu (sN_look (wOf sl wv) s0 h st cnt hw wx wy wh).1.1.1 - mu s0.1); omega⟩ ?_
    have hEF : (sN_look (wOf sl wv) s0 h st cnt hw wx wy wh) = ((gs.1, gs.2.1, gs.2.2), cnt) := by subst hgs; rw [sN_look, if_pos c_13]
    have hz9 : rowsT (sN_look (wOf sl wv) s0 h st cnt hw wx wy wh).1.1.1 f (sN_look (wOf sl wv) s0 h st cnt hw wx wy wh).1.1.2 := by rw [hEF]; exact hz
    have hP9 : va_P g.1 vwCl (nX g aN hw wx wy ad q ((sN_look (wOf sl wv) s0 h st cnt hw wx wy wh).1.1).1 f ((sN_look (wOf sl wv) s0 h st cnt hw wx wy wh).1.1).2 sl cnt ((sN_look (wOf sl wv) s0 h st cnt hw wx wy wh).1.2.1) ((sN_look (wOf sl wv) s0 h st cnt hw wx wy wh).1.2.2) ++ plW LW wv) H := by rw [hEF]; exact hP
    have hD9 : va_D A (nX g aN hw wx wy ad q ((sN_look (wOf sl wv) s0 h st cnt hw wx wy wh).1.1).1 f ((sN_look (wOf sl wv) s0 h st cnt hw wx wy wh).1.1).2 sl cnt ((sN_look (wOf sl wv) s0 h st cnt hw wx wy wh).1.2.1) ((sN_look (wOf sl wv) s0 h st cnt hw wx wy wh).1.2.2) ++ plW LW wv) := by rw [hEF]; exact hD
    have hmF : mu (sN_look (wOf sl wv) s0 h st cnt hw wx wy wh).1.1.1 = mu gs.1.1 := by rw [hEF]
    refine W.widen (k := (mu (sN_look (wOf sl wv) s0 h st cnt hw wx wy wh).1.1.1 - mu s0.1)) (n := (mu (sN_look (wOf sl wv) s0 h st cnt hw wx wy wh).1.1.1 - mu s0.1)) (by omega) (by omega) ?_
    exact W.iret hx hb hr (fun t ht9 hW => ⟨⟨_, (q, f), rfl, ⟨by rw [hEF], hz9⟩, by rw [ht9]; exact hP9, hD9⟩, hS.F ht9⟩) hS.2.2 dN_look_55
  by_cases c_14 : wh = 1
  · skip
    refine lv_tableIn (off := 48) (tgt := 56) hx hb dN_look_8 (by rw [c_14]; decide) (by rw [c_14]; decide) (by rw [c_14]; decide) (by decide) ?_
    refine lv_aload_n hx hb dN_look_56 rfl (lv_at hl 0 rfl) ?_
    refine va_get (D := g.1) (ci := 5) (v := .ref (ad 0)) (C := "NodeMaker") (T := Fd_N) (N := 4) hx hb ht i_N hown hK.1 hP 0 rfl rfl 0 (by decide) (ht _ q_154) (fun _ h9 => h9) rfl dN_look_57 ?_
    have hPt : va_P g.1 vwCl (treeX g ad q gs.1.1 f gs.1.2 sl cnt gs.2.1 gs.2.2 ++ plW LW wv) H := pl_P hP [1, 2, 3, 4, 5, 6, 7, 8, 9, 10, 11, 12, 13, 14, 15, 16, 17, 18, 19, 20, 21, 22, 23, 24, 25, 26, 27, 28, 29, 30, 31, 32, 33, 34, 35, 36, 37, 38, 39, 40, 41, 42, 43, 44] rfl
    refine ro_Vi (v := sT_nodeCount gs.1.2 (wOf sl wv) ) (As := []) (rest := []) ⟨hx, hb, hml, hown, ht⟩ (cT_nodeCount l g ad q gs.1.1 f gs.1.2 sl cnt gs.2.1 gs.2.2 LW wv hz hsl ) (cwV 0 ht (g_V q_511 q_512 q_513 q_35 q_514) rfl rfl rfl hd_T_nodeCount ⟨Nat.le_of_ble_eq_true rfl, Nat.le_of_ble_eq_true rfl⟩) hK (hPt) (va_recv hK.1 hPt (ci := 4) (q0 := 0) rfl rfl) rfl hl.1 rfl (Nat.le_of_ble_eq_true rfl) dN_look_60 ⟨by show mu gs.1.1 - mu s0.1 ≤ (mu (sN_look (wOf sl wv) s0 h st cnt hw wx wy wh).1.1.1 - mu s0.1); omega, by show mu gs.1.1 - mu s0.1 ≤ (mu (sN_look (wOf sl wv) s0 h st cnt hw wx wy wh).1.1.1 - mu s0.1); omega⟩ ?_
    have hEF : (sN_look (wOf sl wv) s0 h st cnt hw wx wy wh) = ((gs.1, gs.2.1, gs.2.2), (sT_nodeCount gs.1.2 (wOf sl wv))) := by subst hgs; rw [sN_look, if_neg c_13, if_pos c_14]
    have hz9 : rowsT (sN_look (wOf sl wv) s0 h st cnt hw wx wy wh).1.1.1 f (sN_look (wOf sl wv) s0 h st cnt hw wx wy wh).1.1.2 := by rw [hEF]; exact hz
    have hP9 : va_P g.1 vwCl (nX g aN hw wx wy ad q ((sN_look (wOf sl wv) s0 h st cnt hw wx wy wh).1.1).1 f ((sN_look (wOf sl wv) s0 h st cnt hw wx wy wh).1.1).2 sl cnt ((sN_look (wOf sl wv) s0 h st cnt hw wx wy wh).1.2.1) ((sN_look (wOf sl wv) s0 h st cnt hw wx wy wh).1.2.2) ++ plW LW wv) H := by rw [hEF]; exact hP
    have hD9 : va_D A (nX g aN hw wx wy ad q ((sN_look (wOf sl wv) s0 h st cnt hw wx wy wh).1.1).1 f ((sN_look (wOf sl wv) s0 h st cnt hw wx wy wh).1.1).2 sl cnt ((sN_look (wOf sl wv) s0 h st cnt hw wx wy wh).1.2.1) ((sN_look (wOf sl wv) s0 h st cnt hw wx wy wh).1.2.2) ++ plW LW wv) := by rw [hEF]; exact hD
    have hmF : mu (sN_look (wOf sl wv) s0 h st cnt hw wx wy wh).1.1.1 = mu gs.1.1 := by rw [hEF]
    refine W.widen (k := (mu (sN_look (wOf sl wv) s0 h st cnt hw wx wy wh).1.1.1 - mu s0.1)) (n := (mu (sN_look (wOf sl wv) s0 h st cnt hw wx wy wh).1.1.1 - mu s0.1)) (by omega) (by omega) ?_
    exact W.iret hx hb hr (fun t ht9 hW => ⟨⟨_, (q, f), rfl, ⟨by rw [hEF], hz9⟩, by rw [ht9]; exact hP9, hD9⟩, hS.F ht9⟩) hS.2.2 dN_look_63
  by_cases c_15 : wh = 2
  · skip
    refine lv_tableIn (off := 56) (tgt := 64) hx hb dN_look_8 (by rw [c_15]; decide) (by rw [c_15]; decide) (by rw [c_15]; decide) (by decide) ?_
    refine lv_aload_n hx hb dN_look_64 rfl (lv_at hl 0 rfl) ?_
    refine va_get (D := g.1) (ci := 5) (v := .ref (ad 0)) (C := "NodeMaker") (T := Fd_N) (N := 4) hx hb ht i_N hown hK.1 hP 0 rfl rfl 0 (by decide) (ht _ q_154) (fun _ h9 => h9) rfl dN_look_65 ?_
    have hPt : va_P g.1 vwCl (treeX g ad q gs.1.1 f gs.1.2 sl cnt gs.2.1 gs.2.2 ++ plW LW wv) H := pl_P hP [1, 2, 3, 4, 5, 6, 7, 8, 9, 10, 11, 12, 13, 14, 15, 16, 17, 18, 19, 20, 21, 22, 23, 24, 25, 26, 27, 28, 29, 30, 31, 32, 33, 34, 35, 36, 37, 38, 39, 40, 41, 42, 43, 44] rfl
    refine ro_Vi (v := sT_nodeCount gs.1.2 (wOf sl wv) ) (As := []) (rest := []) ⟨hx, hb, hml, hown, ht⟩ (cT_nodeCount l g ad q gs.1.1 f gs.1.2 sl cnt gs.2.1 gs.2.2 LW wv hz hsl ) (cwV 0 ht (g_V q_511 q_512 q_513 q_35 q_514) rfl rfl rfl hd_T_nodeCount ⟨Nat.le_of_ble_eq_true rfl, Nat.le_of_ble_eq_true rfl⟩) hK (hPt) (va_recv hK.1 hPt (ci := 4) (q0 := 0) rfl rfl) rfl hl.1 rfl (Nat.le_of_ble_eq_true rfl) dN_look_68 ⟨by show mu gs.1.1 - mu s0.1 ≤ (mu (sN_look (wOf sl wv) s0 h st cnt hw wx wy wh).1.1.1 - mu s0.1); omega, by show mu gs.1.1 - mu s0.1 ≤ (mu (sN_look (wOf sl wv) s0 h st cnt hw wx wy wh).1.1.1 - mu s0.1); omega⟩ ?_
    refine lv_iconst (v := 1) hx hb dN_look_71 (by decide) ?_
    refine lv_iadd hx hb dN_look_72 ?_
    have hEF : (sN_look (wOf sl wv) s0 h st cnt hw wx wy wh) = ((gs.1, gs.2.1, gs.2.2), ((sT_nodeCount gs.1.2 (wOf sl wv)) + 1)) := by subst hgs; rw [sN_look, if_neg c_13, if_neg c_14, if_pos c_15]
    have hz9 : rowsT (sN_look (wOf sl wv) s0 h st cnt hw wx wy wh).1.1.1 f (sN_look (wOf sl wv) s0 h st cnt hw wx wy wh).1.1.2 := by rw [hEF]; exact hz
    have hP9 : va_P g.1 vwCl (nX g aN hw wx wy ad q ((sN_look (wOf sl wv) s0 h st cnt hw wx wy wh).1.1).1 f ((sN_look (wOf sl wv) s0 h st cnt hw wx wy wh).1.1).2 sl cnt ((sN_look (wOf sl wv) s0 h st cnt hw wx wy wh).1.2.1) ((sN_look (wOf sl wv) s0 h st cnt hw wx wy wh).1.2.2) ++ plW LW wv) H := by rw [hEF]; exact hP
    have hD9 : va_D A (nX g aN hw wx wy ad q ((sN_look (wOf sl wv) s0 h st cnt hw wx wy wh).1.1).1 f ((sN_look (wOf sl wv) s0 h st cnt hw wx wy wh).1.1).2 sl cnt ((sN_look (wOf sl wv) s0 h st cnt hw wx wy wh).1.2.1) ((sN_look (wOf sl wv) s0 h st cnt hw wx wy wh).1.2.2) ++ plW LW wv) := by rw [hEF]; exact hD
    have hmF : mu (sN_look (wOf sl wv) s0 h st cnt hw wx wy wh).1.1.1 = mu gs.1.1 := by rw [hEF]
    refine W.widen (k := (mu (sN_look (wOf sl wv) s0 h st cnt hw wx wy wh).1.1.1 - mu s0.1)) (n := (mu (sN_look (wOf sl wv) s0 h st cnt hw wx wy wh).1.1.1 - mu s0.1)) (by omega) (by omega) ?_
    exact W.iret hx hb hr (fun t ht9 hW => ⟨⟨_, (q, f), rfl, ⟨by rw [hEF], hz9⟩, by rw [ht9]; exact hP9, hD9⟩, hS.F ht9⟩) hS.2.2 dN_look_73
  by_cases c_16 : wh = 3
  · skip
    refine lv_tableIn (off := 66) (tgt := 74) hx hb dN_look_8 (by rw [c_16]; decide) (by rw [c_16]; decide) (by rw [c_16]; decide) (by decide) ?_
    refine lv_aload_n hx hb dN_look_74 rfl (lv_at hl 0 rfl) ?_
    refine va_get (D := g.1) (ci := 5) (v := .ref (ad 0)) (C := "NodeMaker") (T := Fd_N) (N := 4) hx hb ht i_N hown hK.1 hP 0 rfl rfl 0 (by decide) (ht _ q_154) (fun _ h9 => h9) rfl dN_look_75 ?_
    have hPt : va_P g.1 vwCl (treeX g ad q gs.1.1 f gs.1.2 sl cnt gs.2.1 gs.2.2 ++ plW LW wv) H := pl_P hP [1, 2, 3, 4, 5, 6, 7, 8, 9, 10, 11, 12, 13, 14, 15, 16, 17, 18, 19, 20, 21, 22, 23, 24, 25, 26, 27, 28, 29, 30, 31, 32, 33, 34, 35, 36, 37, 38, 39, 40, 41, 42, 43, 44] rfl
    refine ro_Vi (v := sT_pieceCount gs.1.2 (wOf sl wv) ) (As := []) (rest := []) ⟨hx, hb, hml, hown, ht⟩ (cT_pieceCount l g ad q gs.1.1 f gs.1.2 sl cnt gs.2.1 gs.2.2 LW wv hz hsl ) (cwV 0 ht (g_V q_462 q_463 q_464 q_35 q_465) rfl rfl rfl hd_T_pieceCount ⟨Nat.le_of_ble_eq_true rfl, Nat.le_of_ble_eq_true rfl⟩) hK (hPt) (va_recv hK.1 hPt (ci := 4) (q0 := 0) rfl rfl) rfl hl.1 rfl (Nat.le_of_ble_eq_true rfl) dN_look_78 ⟨by show mu gs.1.1 - mu s0.1 ≤ (mu (sN_look (wOf sl wv) s0 h st cnt hw wx wy wh).1.1.1 - mu s0.1); omega, by show mu gs.1.1 - mu s0.1 ≤ (mu (sN_look (wOf sl wv) s0 h st cnt hw wx wy wh).1.1.1 - mu s0.1); omega⟩ ?_
    have hEF : (sN_look (wOf sl wv) s0 h st cnt hw wx wy wh) = ((gs.1, gs.2.1, gs.2.2), (sT_pieceCount gs.1.2 (wOf sl wv))) := by subst hgs; rw [sN_look, if_neg c_13, if_neg c_14, if_neg c_15, if_pos c_16]
    have hz9 : rowsT (sN_look (wOf sl wv) s0 h st cnt hw wx wy wh).1.1.1 f (sN_look (wOf sl wv) s0 h st cnt hw wx wy wh).1.1.2 := by rw [hEF]; exact hz
    have hP9 : va_P g.1 vwCl (nX g aN hw wx wy ad q ((sN_look (wOf sl wv) s0 h st cnt hw wx wy wh).1.1).1 f ((sN_look (wOf sl wv) s0 h st cnt hw wx wy wh).1.1).2 sl cnt ((sN_look (wOf sl wv) s0 h st cnt hw wx wy wh).1.2.1) ((sN_look (wOf sl wv) s0 h st cnt hw wx wy wh).1.2.2) ++ plW LW wv) H := by rw [hEF]; exact hP
    have hD9 : va_D A (nX g aN hw wx wy ad q ((sN_look (wOf sl wv) s0 h st cnt hw wx wy wh).1.1).1 f ((sN_look (wOf sl wv) s0 h st cnt hw wx wy wh).1.1).2 sl cnt ((sN_look (wOf sl wv) s0 h st cnt hw wx wy wh).1.2.1) ((sN_look (wOf sl wv) s0 h st cnt hw wx wy wh).1.2.2) ++ plW LW wv) := by rw [hEF]; exact hD
    have hmF : mu (sN_look (wOf sl wv) s0 h st cnt hw wx wy wh).1.1.1 = mu gs.1.1 := by rw [hEF]
    refine W.widen (k := (mu (sN_look (wOf sl wv) s0 h st cnt hw wx wy wh).1.1.1 - mu s0.1)) (n := (mu (sN_look (wOf sl wv) s0 h st cnt hw wx wy wh).1.1.1 - mu s0.1)) (by omega) (by omega) ?_
    exact W.iret hx hb hr (fun t ht9 hW => ⟨⟨_, (q, f), rfl, ⟨by rw [hEF], hz9⟩, by rw [ht9]; exact hP9, hD9⟩, hS.F ht9⟩) hS.2.2 dN_look_81
  by_cases c_17 : wh = 4
  · skip
    refine lv_tableIn (off := 74) (tgt := 82) hx hb dN_look_8 (by rw [c_17]; decide) (by rw [c_17]; decide) (by rw [c_17]; decide) (by decide) ?_
    refine lv_aload_n hx hb dN_look_82 rfl (lv_at hl 0 rfl) ?_
    refine va_get (D := g.1) (ci := 5) (v := .ref (ad 0)) (C := "NodeMaker") (T := Fd_N) (N := 4) hx hb ht i_N hown hK.1 hP 0 rfl rfl 0 (by decide) (ht _ q_154) (fun _ h9 => h9) rfl dN_look_83 ?_
    have hPt : va_P g.1 vwCl (treeX g ad q gs.1.1 f gs.1.2 sl cnt gs.2.1 gs.2.2 ++ plW LW wv) H := pl_P hP [1, 2, 3, 4, 5, 6, 7, 8, 9, 10, 11, 12, 13, 14, 15, 16, 17, 18, 19, 20, 21, 22, 23, 24, 25, 26, 27, 28, 29, 30, 31, 32, 33, 34, 35, 36, 37, 38, 39, 40, 41, 42, 43, 44] rfl
    refine ro_Vi (v := gs.2.1) (As := []) (rest := []) ⟨hx, hb, hml, hown, ht⟩ (cT_height l g ad q gs.1.1 f gs.1.2 sl cnt gs.2.1 gs.2.2 LW wv hz hsl ) (cwV 0 ht (g_V q_515 q_516 q_517 q_35 q_518) rfl rfl rfl hd_T_height ⟨Nat.le_of_ble_eq_true rfl, Nat.le_of_ble_eq_true rfl⟩) hK (hPt) (va_recv hK.1 hPt (ci := 4) (q0 := 0) rfl rfl) rfl hl.1 rfl (Nat.le_of_ble_eq_true rfl) dN_look_86 ⟨by show mu gs.1.1 - mu s0.1 ≤ (mu (sN_look (wOf sl wv) s0 h st cnt hw wx wy wh).1.1.1 - mu s0.1); omega, by show mu gs.1.1 - mu s0.1 ≤ (mu (sN_look (wOf sl wv) s0 h st cnt hw wx wy wh).1.1.1 - mu s0.1); omega⟩ ?_
    have hEF : (sN_look (wOf sl wv) s0 h st cnt hw wx wy wh) = ((gs.1, gs.2.1, gs.2.2), gs.2.1) := by subst hgs; rw [sN_look, if_neg c_13, if_neg c_14, if_neg c_15, if_neg c_16, if_pos c_17]
    have hz9 : rowsT (sN_look (wOf sl wv) s0 h st cnt hw wx wy wh).1.1.1 f (sN_look (wOf sl wv) s0 h st cnt hw wx wy wh).1.1.2 := by rw [hEF]; exact hz
    have hP9 : va_P g.1 vwCl (nX g aN hw wx wy ad q ((sN_look (wOf sl wv) s0 h st cnt hw wx wy wh).1.1).1 f ((sN_look (wOf sl wv) s0 h st cnt hw wx wy wh).1.1).2 sl cnt ((sN_look (wOf sl wv) s0 h st cnt hw wx wy wh).1.2.1) ((sN_look (wOf sl wv) s0 h st cnt hw wx wy wh).1.2.2) ++ plW LW wv) H := by rw [hEF]; exact hP
    have hD9 : va_D A (nX g aN hw wx wy ad q ((sN_look (wOf sl wv) s0 h st cnt hw wx wy wh).1.1).1 f ((sN_look (wOf sl wv) s0 h st cnt hw wx wy wh).1.1).2 sl cnt ((sN_look (wOf sl wv) s0 h st cnt hw wx wy wh).1.2.1) ((sN_look (wOf sl wv) s0 h st cnt hw wx wy wh).1.2.2) ++ plW LW wv) := by rw [hEF]; exact hD
    have hmF : mu (sN_look (wOf sl wv) s0 h st cnt hw wx wy wh).1.1.1 = mu gs.1.1 := by rw [hEF]
    refine W.widen (k := (mu (sN_look (wOf sl wv) s0 h st cnt hw wx wy wh).1.1.1 - mu s0.1)) (n := (mu (sN_look (wOf sl wv) s0 h st cnt hw wx wy wh).1.1.1 - mu s0.1)) (by omega) (by omega) ?_
    exact W.iret hx hb hr (fun t ht9 hW => ⟨⟨_, (q, f), rfl, ⟨by rw [hEF], hz9⟩, by rw [ht9]; exact hP9, hD9⟩, hS.F ht9⟩) hS.2.2 dN_look_89
  by_cases c_18 : wh = 5
  · skip
    refine lv_tableIn (off := 82) (tgt := 90) hx hb dN_look_8 (by rw [c_18]; decide) (by rw [c_18]; decide) (by rw [c_18]; decide) (by decide) ?_
    refine lv_aload_n hx hb dN_look_90 rfl (lv_at hl 0 rfl) ?_
    refine va_get (D := g.1) (ci := 5) (v := .ref (ad 0)) (C := "NodeMaker") (T := Fd_N) (N := 4) hx hb ht i_N hown hK.1 hP 0 rfl rfl 0 (by decide) (ht _ q_154) (fun _ h9 => h9) rfl dN_look_91 ?_
    have hPt : va_P g.1 vwCl (treeX g ad q gs.1.1 f gs.1.2 sl cnt gs.2.1 gs.2.2 ++ plW LW wv) H := pl_P hP [1, 2, 3, 4, 5, 6, 7, 8, 9, 10, 11, 12, 13, 14, 15, 16, 17, 18, 19, 20, 21, 22, 23, 24, 25, 26, 27, 28, 29, 30, 31, 32, 33, 34, 35, 36, 37, 38, 39, 40, 41, 42, 43, 44] rfl
    refine ro_Vi (v := sT_pieceCount gs.1.2 (wOf sl wv) ) (As := []) (rest := []) ⟨hx, hb, hml, hown, ht⟩ (cT_pieceCount l g ad q gs.1.1 f gs.1.2 sl cnt gs.2.1 gs.2.2 LW wv hz hsl ) (cwV 0 ht (g_V q_462 q_463 q_464 q_35 q_465) rfl rfl rfl hd_T_pieceCount ⟨Nat.le_of_ble_eq_true rfl, Nat.le_of_ble_eq_true rfl⟩) hK (hPt) (va_recv hK.1 hPt (ci := 4) (q0 := 0) rfl rfl) rfl hl.1 rfl (Nat.le_of_ble_eq_true rfl) dN_look_94 ⟨by show mu gs.1.1 - mu s0.1 ≤ (mu (sN_look (wOf sl wv) s0 h st cnt hw wx wy wh).1.1.1 - mu s0.1); omega, by show mu gs.1.1 - mu s0.1 ≤ (mu (sN_look (wOf sl wv) s0 h st cnt hw wx wy wh).1.1.1 - mu s0.1); omega⟩ ?_
    refine lv_aload_n hx hb dN_look_97 rfl (lv_at hl 0 rfl) ?_
    refine va_get (D := g.1) (ci := 5) (v := .ref (ad 0)) (C := "NodeMaker") (T := Fd_N) (N := 4) hx hb ht i_N hown hK.1 hP 0 rfl rfl 0 (by decide) (ht _ q_154) (fun _ h9 => h9) rfl dN_look_98 ?_
    have hPt : va_P g.1 vwCl (treeX g ad q gs.1.1 f gs.1.2 sl cnt gs.2.1 gs.2.2 ++ plW LW wv) H := pl_P hP [1, 2, 3, 4, 5, 6, 7, 8, 9, 10, 11, 12, 13, 14, 15, 16, 17, 18, 19, 20, 21, 22, 23, 24, 25, 26, 27, 28, 29, 30, 31, 32, 33, 34, 35, 36, 37, 38, 39, 40, 41, 42, 43, 44] rfl
    refine ro_Vi (v := cnt) (As := []) (rest := [.int (sT_pieceCount gs.1.2 (wOf sl wv))]) ⟨hx, hb, hml, hown, ht⟩ (cT_wallCount l g ad q gs.1.1 f gs.1.2 sl cnt gs.2.1 gs.2.2 LW wv hz hsl ) (cwV 0 ht (g_V q_503 q_504 q_505 q_35 q_506) rfl rfl rfl hd_T_wallCount ⟨Nat.le_of_ble_eq_true rfl, Nat.le_of_ble_eq_true rfl⟩) hK (hPt) (va_recv hK.1 hPt (ci := 4) (q0 := 0) rfl rfl) rfl hl.1 rfl (Nat.le_of_ble_eq_true rfl) dN_look_101 ⟨by show mu gs.1.1 - mu s0.1 ≤ (mu (sN_look (wOf sl wv) s0 h st cnt hw wx wy wh).1.1.1 - mu s0.1); omega, by show mu gs.1.1 - mu s0.1 ≤ (mu (sN_look (wOf sl wv) s0 h st cnt hw wx wy wh).1.1.1 - mu s0.1); omega⟩ ?_
    refine lv_isub hx hb dN_look_104 ?_
    have hEF : (sN_look (wOf sl wv) s0 h st cnt hw wx wy wh) = ((gs.1, gs.2.1, gs.2.2), ((sT_pieceCount gs.1.2 (wOf sl wv)) - cnt)) := by subst hgs; rw [sN_look, if_neg c_13, if_neg c_14, if_neg c_15, if_neg c_16, if_neg c_17, if_pos c_18]
    have hz9 : rowsT (sN_look (wOf sl wv) s0 h st cnt hw wx wy wh).1.1.1 f (sN_look (wOf sl wv) s0 h st cnt hw wx wy wh).1.1.2 := by rw [hEF]; exact hz
    have hP9 : va_P g.1 vwCl (nX g aN hw wx wy ad q ((sN_look (wOf sl wv) s0 h st cnt hw wx wy wh).1.1).1 f ((sN_look (wOf sl wv) s0 h st cnt hw wx wy wh).1.1).2 sl cnt ((sN_look (wOf sl wv) s0 h st cnt hw wx wy wh).1.2.1) ((sN_look (wOf sl wv) s0 h st cnt hw wx wy wh).1.2.2) ++ plW LW wv) H := by rw [hEF]; exact hP
    have hD9 : va_D A (nX g aN hw wx wy ad q ((sN_look (wOf sl wv) s0 h st cnt hw wx wy wh).1.1).1 f ((sN_look (wOf sl wv) s0 h st cnt hw wx wy wh).1.1).2 sl cnt ((sN_look (wOf sl wv) s0 h st cnt hw wx wy wh).1.2.1) ((sN_look (wOf sl wv) s0 h st cnt hw wx wy wh).1.2.2) ++ plW LW wv) := by rw [hEF]; exact hD
    have hmF : mu (sN_look (wOf sl wv) s0 h st cnt hw wx wy wh).1.1.1 = mu gs.1.1 := by rw [hEF]
    refine W.widen (k := (mu (sN_look (wOf sl wv) s0 h st cnt hw wx wy wh).1.1.1 - mu s0.1)) (n := (mu (sN_look (wOf sl wv) s0 h st cnt hw wx wy wh).1.1.1 - mu s0.1)) (by omega) (by omega) ?_
    exact W.iret hx hb hr (fun t ht9 hW => ⟨⟨_, (q, f), rfl, ⟨by rw [hEF], hz9⟩, by rw [ht9]; exact hP9, hD9⟩, hS.F ht9⟩) hS.2.2 dN_look_105
  refine lv_tableOut (tgt := 106) hx hb dN_look_8 (sw_out6 c_13 c_14 c_15 c_16 c_17 c_18) (by decide) ?_
  refine lv_iconst (v := -1) hx hb dN_look_106 (by decide) ?_
  have hEF : (sN_look (wOf sl wv) s0 h st cnt hw wx wy wh) = ((gs.1, gs.2.1, gs.2.2), (-1)) := by subst hgs; rw [sN_look, if_neg c_13, if_neg c_14, if_neg c_15, if_neg c_16, if_neg c_17, if_neg c_18]
  have hz9 : rowsT (sN_look (wOf sl wv) s0 h st cnt hw wx wy wh).1.1.1 f (sN_look (wOf sl wv) s0 h st cnt hw wx wy wh).1.1.2 := by rw [hEF]; exact hz
  have hP9 : va_P g.1 vwCl (nX g aN hw wx wy ad q ((sN_look (wOf sl wv) s0 h st cnt hw wx wy wh).1.1).1 f ((sN_look (wOf sl wv) s0 h st cnt hw wx wy wh).1.1).2 sl cnt ((sN_look (wOf sl wv) s0 h st cnt hw wx wy wh).1.2.1) ((sN_look (wOf sl wv) s0 h st cnt hw wx wy wh).1.2.2) ++ plW LW wv) H := by rw [hEF]; exact hP
  have hD9 : va_D A (nX g aN hw wx wy ad q ((sN_look (wOf sl wv) s0 h st cnt hw wx wy wh).1.1).1 f ((sN_look (wOf sl wv) s0 h st cnt hw wx wy wh).1.1).2 sl cnt ((sN_look (wOf sl wv) s0 h st cnt hw wx wy wh).1.2.1) ((sN_look (wOf sl wv) s0 h st cnt hw wx wy wh).1.2.2) ++ plW LW wv) := by rw [hEF]; exact hD
  have hmF : mu (sN_look (wOf sl wv) s0 h st cnt hw wx wy wh).1.1.1 = mu gs.1.1 := by rw [hEF]
  refine W.widen (k := (mu (sN_look (wOf sl wv) s0 h st cnt hw wx wy wh).1.1.1 - mu s0.1)) (n := (mu (sN_look (wOf sl wv) s0 h st cnt hw wx wy wh).1.1.1 - mu s0.1)) (by omega) (by omega) ?_
  exact W.iret hx hb hr (fun t ht9 hW => ⟨⟨_, (q, f), rfl, ⟨by rw [hEF], hz9⟩, by rw [ht9]; exact hP9, hD9⟩, hS.F ht9⟩) hS.2.2 dN_look_107
