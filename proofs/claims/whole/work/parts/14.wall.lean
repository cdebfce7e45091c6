abbrev WV : Type := Int32 × Int32 × Int32 × Int32
/-- a wall's cell -/
abbrev wE (v : WV) : va_E := .inr (2, [.int v.1, .int v.2.1, .int v.2.2.1, .int v.2.2.2])
theorem hd_W_init : yW_init.cls ≠ "java/lang/invoke/MethodHandle" ∧ yW_init.cls ≠ "java/lang/invoke/VarHandle" ∧ (parseMethodDescriptor yW_init.desc).map (fun d => d.parameters.length) = some 4 := by decide +kernel
theorem hd_W_side : yW_side.cls = "NodeMaker$Wall" ∧ yW_side.cls ≠ "java/lang/invoke/MethodHandle" ∧ yW_side.cls ≠ "java/lang/invoke/VarHandle" ∧ (parseMethodDescriptor yW_side.desc).map (fun d => d.parameters.length) = some 2 := by decide +kernel
theorem hd_W_hasEnd : yW_hasEnd.cls = "NodeMaker$Wall" ∧ yW_hasEnd.cls ≠ "java/lang/invoke/MethodHandle" ∧ yW_hasEnd.cls ≠ "java/lang/invoke/VarHandle" ∧ (parseMethodDescriptor yW_hasEnd.desc).map (fun d => d.parameters.length) = some 2 := by decide +kernel
theorem hd_W_hasWithin : yW_hasWithin.cls = "NodeMaker$Wall" ∧ yW_hasWithin.cls ≠ "java/lang/invoke/MethodHandle" ∧ yW_hasWithin.cls ≠ "java/lang/invoke/VarHandle" ∧ (parseMethodDescriptor yW_hasWithin.desc).map (fun d => d.parameters.length) = some 2 := by decide +kernel
theorem hd_W_parts : yW_parts.cls = "NodeMaker$Wall" ∧ yW_parts.cls ≠ "java/lang/invoke/MethodHandle" ∧ yW_parts.cls ≠ "java/lang/invoke/VarHandle" ∧ (parseMethodDescriptor yW_parts.desc).map (fun d => d.parameters.length) = some 1 := by decide +kernel
theorem hd_W_clashes : yW_clashes.cls = "NodeMaker$Wall" ∧ yW_clashes.cls ≠ "java/lang/invoke/MethodHandle" ∧ yW_clashes.cls ≠ "java/lang/invoke/VarHandle" ∧ (parseMethodDescriptor yW_clashes.desc).map (fun d => d.parameters.length) = some 1 := by decide +kernel
def sW_side (v : WV) (x y : Int32) : Int64 :=
  ((((v.2.2.1 - v.1).toInt64) * ((y - v.2.1).toInt64)) - (((v.2.2.2 - v.2.1).toInt64) * ((x - v.1).toInt64)))
set_option maxHeartbeats 4000000 in
set_option maxRecDepth 100000 in
theorem cW_side (l : Launch) (g : CX) (a : Nat) (v : WV) (x y : Int32) : Met l yW_side (wm yW_side kW_side 3 (some .long)) ({ frames := 0, cells := 0, slots := 0, locals := 0 }) (ro g [.ref a, .int x, .int y] (va_P g.1 vwCl [(a, wE v)])) (vp_Sl (fun r => r = sW_side v x y)) 0 0 (fun _ => False) := by
  refine Met.ofW (cc := kW_side) (maxL := 3) (ret := (some .long)) (by decide) rfl ?_
  intro p e s m args below meth c s₁ B hml hv
  obtain ⟨rfl, hK, hP⟩ := hv
  have hx := B.exec
  have hb := B.bytes
  have hr := B.returns
  have ht : ∀ w ∈ wT, w.before _ s = true := fun w h => atoms_spec (ws := wm yW_side kW_side 3 (some .long)) B.pre w (List.mem_cons_of_mem _ h)
  have hown : s.vm.findClass "NodeMaker$Wall" = some m.cls := findClass_of_methodNamed B.named
  have hlocks := B.notSynchronized
  have hl := lv_entry ([.ref a, .int x, .int y]) (n := 3) (Nat.le_of_ble_eq_true rfl)
  rw [lg_entry_eq]
  generalize (lg_sl ([.ref a, .int x, .int y]) ++ List.replicate (3 - (lg_sl ([.ref a, .int x, .int y])).length) Slot.unset).toArray = ls at hl ⊢
  have hl : lv_has ls 3 [(0, .ref a), (1, .int x), (2, .int y)] := hl
  refine lv_aload_n hx hb dW_side_0 rfl (lv_at hl 0 rfl) ?_
  refine va_get (D := g.1) (ci := 2) (v := .int v.2.2.1) (C := "NodeMaker$Wall") (T := Fd_W) (N := 4) hx hb ht i_W hown hK.1 hP 0 rfl rfl 2 (by decide) (ht _ q_186) (fun _ h9 => h9) rfl dW_side_1 ?_
  refine lv_aload_n hx hb dW_side_4 rfl (lv_at hl 0 rfl) ?_
  refine va_get (D := g.1) (ci := 2) (v := .int v.1) (C := "NodeMaker$Wall") (T := Fd_W) (N := 4) hx hb ht i_W hown hK.1 hP 0 rfl rfl 0 (by decide) (ht _ q_180) (fun _ h9 => h9) rfl dW_side_5 ?_
  refine lv_isub hx hb dW_side_8 ?_
  refine lv_i2l hx hb dW_side_9 rfl ?_
  refine lv_iload_n hx hb dW_side_10 rfl (lv_at hl 2 rfl) ?_
  refine lv_aload_n hx hb dW_side_11 rfl (lv_at hl 0 rfl) ?_
  refine va_get (D := g.1) (ci := 2) (v := .int v.2.1) (C := "NodeMaker$Wall") (T := Fd_W) (N := 4) hx hb ht i_W hown hK.1 hP 0 rfl rfl 1 (by decide) (ht _ q_183) (fun _ h9 => h9) rfl dW_side_12 ?_
  refine lv_isub hx hb dW_side_15 ?_
  refine lv_i2l hx hb dW_side_16 rfl ?_
  refine lv_lmul hx hb dW_side_17 ?_
  refine lv_aload_n hx hb dW_side_18 rfl (lv_at hl 0 rfl) ?_
  refine va_get (D := g.1) (ci := 2) (v := .int v.2.2.2) (C := "NodeMaker$Wall") (T := Fd_W) (N := 4) hx hb ht i_W hown hK.1 hP 0 rfl rfl 3 (by decide) (ht _ q_189) (fun _ h9 => h9) rfl dW_side_19 ?_
  refine lv_aload_n hx hb dW_side_22 rfl (lv_at hl 0 rfl) ?_
  refine va_get (D := g.1) (ci := 2) (v := .int v.2.1) (C := "NodeMaker$Wall") (T := Fd_W) (N := 4) hx hb ht i_W hown hK.1 hP 0 rfl rfl 1 (by decide) (ht _ q_183) (fun _ h9 => h9) rfl dW_side_23 ?_
  refine lv_isub hx hb dW_side_26 ?_
  refine lv_i2l hx hb dW_side_27 rfl ?_
  refine lv_iload_n hx hb dW_side_28 rfl (lv_at hl 1 rfl) ?_
  refine lv_aload_n hx hb dW_side_29 rfl (lv_at hl 0 rfl) ?_
  refine va_get (D := g.1) (ci := 2) (v := .int v.1) (C := "NodeMaker$Wall") (T := Fd_W) (N := 4) hx hb ht i_W hown hK.1 hP 0 rfl rfl 0 (by decide) (ht _ q_180) (fun _ h9 => h9) rfl dW_side_30 ?_
  refine lv_isub hx hb dW_side_33 ?_
  refine lv_i2l hx hb dW_side_34 rfl ?_
  refine lv_lmul hx hb dW_side_35 ?_
  refine lv_lsub hx hb dW_side_36 ?_
  exact W.lret hx hb hr (fun t ht9 hW => ⟨_, rfl, rfl, ht9⟩) (fun q h => by cases h) dW_side_37
def sW_hasEnd (v : WV) (x y : Int32) : Int32 :=
  if x = v.1 then
    if y = v.2.1 then
      1
    else
      if x = v.2.2.1 then
        if y = v.2.2.2 then
          1
        else
          0
      else
        0
  else
    if x = v.2.2.1 then
      if y = v.2.2.2 then
        1
      else
        0
    else
      0
set_option maxHeartbeats 4000000 in
set_option maxRecDepth 100000 in
theorem cW_hasEnd (l : Launch) (g : CX) (a : Nat) (v : WV) (x y : Int32) : Met l yW_hasEnd (wm yW_hasEnd kW_hasEnd 3 (some .boolean)) ({ frames := 0, cells := 0, slots := 0, locals := 0 }) (ro g [.ref a, .int x, .int y] (va_P g.1 vwCl [(a, wE v)])) (vp_Si (fun r => r = sW_hasEnd v x y)) 0 0 (fun _ => False) := by
  refine Met.ofW (cc := kW_hasEnd) (maxL := 3) (ret := (some .boolean)) (by decide) rfl ?_
  intro p e s m args below meth c s₁ B hml hv
  obtain ⟨rfl, hK, hP⟩ := hv
  have hx := B.exec
  have hb := B.bytes
  have hr := B.returns
  have ht : ∀ w ∈ wT, w.before _ s = true := fun w h => atoms_spec (ws := wm yW_hasEnd kW_hasEnd 3 (some .boolean)) B.pre w (List.mem_cons_of_mem _ h)
  have hown : s.vm.findClass "NodeMaker$Wall" = some m.cls := findClass_of_methodNamed B.named
  have hlocks := B.notSynchronized
  have hl := lv_entry ([.ref a, .int x, .int y]) (n := 3) (Nat.le_of_ble_eq_true rfl)
  rw [lg_entry_eq]
  generalize (lg_sl ([.ref a, .int x, .int y]) ++ List.replicate (3 - (lg_sl ([.ref a, .int x, .int y])).length) Slot.unset).toArray = ls at hl ⊢
  have hl : lv_has ls 3 [(0, .ref a), (1, .int x), (2, .int y)] := hl
  refine lv_iload_n hx hb dW_hasEnd_0 rfl (lv_at hl 1 rfl) ?_
  refine lv_aload_n hx hb dW_hasEnd_1 rfl (lv_at hl 0 rfl) ?_
  refine va_get (D := g.1) (ci := 2) (v := .int v.1) (C := "NodeMaker$Wall") (T := Fd_W) (N := 4) hx hb ht i_W hown hK.1 hP 0 rfl rfl 0 (by decide) (ht _ q_180) (fun _ h9 => h9) rfl dW_hasEnd_2 ?_
  refine lv_icmp_ne (tgt := 16) hx hb dW_hasEnd_5 (by decide) (fun c_1 => ?_) (fun c_1 => ?_)
  · skip
    refine lv_iload_n hx hb dW_hasEnd_16 rfl (lv_at hl 1 rfl) ?_
    refine lv_aload_n hx hb dW_hasEnd_17 rfl (lv_at hl 0 rfl) ?_
    refine va_get (D := g.1) (ci := 2) (v := .int v.2.2.1) (C := "NodeMaker$Wall") (T := Fd_W) (N := 4) hx hb ht i_W hown hK.1 hP 0 rfl rfl 2 (by decide) (ht _ q_186) (fun _ h9 => h9) rfl dW_hasEnd_18 ?_
    refine lv_icmp_ne (tgt := 36) hx hb dW_hasEnd_21 (by decide) (fun c_2 => ?_) (fun c_2 => ?_)
    · skip
      refine lv_iconst (v := 0) hx hb dW_hasEnd_36 (by decide) ?_
      exact W.zret hx hb hr rfl (fun t ht9 hW => ⟨_, rfl, by rw [sW_hasEnd, if_neg c_1, if_neg c_2], ht9⟩) (fun q h => by cases h) dW_hasEnd_37
    · skip
      refine lv_iload_n hx hb dW_hasEnd_24 rfl (lv_at hl 2 rfl) ?_
      refine lv_aload_n hx hb dW_hasEnd_25 rfl (lv_at hl 0 rfl) ?_
      refine va_get (D := g.1) (ci := 2) (v := .int v.2.2.2) (C := "NodeMaker$Wall") (T := Fd_W) (N := 4) hx hb ht i_W hown hK.1 hP 0 rfl rfl 3 (by decide) (ht _ q_189) (fun _ h9 => h9) rfl dW_hasEnd_26 ?_
      refine lv_icmp_ne (tgt := 36) hx hb dW_hasEnd_29 (by decide) (fun c_3 => ?_) (fun c_3 => ?_)
      · skip
        refine lv_iconst (v := 0) hx hb dW_hasEnd_36 (by decide) ?_
        exact W.zret hx hb hr rfl (fun t ht9 hW => ⟨_, rfl, by rw [sW_hasEnd, if_neg c_1, if_pos c_2, if_neg c_3], ht9⟩) (fun q h => by cases h) dW_hasEnd_37
      · skip
        refine lv_iconst (v := 1) hx hb dW_hasEnd_32 (by decide) ?_
        refine lv_goto (tgt := 37) hx hb dW_hasEnd_33 (by decide) ?_
        exact W.zret hx hb hr rfl (fun t ht9 hW => ⟨_, rfl, by rw [sW_hasEnd, if_neg c_1, if_pos c_2, if_pos c_3], ht9⟩) (fun q h => by cases h) dW_hasEnd_37
  · skip
    refine lv_iload_n hx hb dW_hasEnd_8 rfl (lv_at hl 2 rfl) ?_
    refine lv_aload_n hx hb dW_hasEnd_9 rfl (lv_at hl 0 rfl) ?_
    refine va_get (D := g.1) (ci := 2) (v := .int v.2.1) (C := "NodeMaker$Wall") (T := Fd_W) (N := 4) hx hb ht i_W hown hK.1 hP 0 rfl rfl 1 (by decide) (ht _ q_183) (fun _ h9 => h9) rfl dW_hasEnd_10 ?_
    refine lv_icmp_eq (tgt := 32) hx hb dW_hasEnd_13 (by decide) (fun c_4 => ?_) (fun c_4 => ?_)
    · skip
      refine lv_iconst (v := 1) hx hb dW_hasEnd_32 (by decide) ?_
      refine lv_goto (tgt := 37) hx hb dW_hasEnd_33 (by decide) ?_
      exact W.zret hx hb hr rfl (fun t ht9 hW => ⟨_, rfl, by rw [sW_hasEnd, if_pos c_1, if_pos c_4], ht9⟩) (fun q h => by cases h) dW_hasEnd_37
    · skip
      refine lv_iload_n hx hb dW_hasEnd_16 rfl (lv_at hl 1 rfl) ?_
      refine lv_aload_n hx hb dW_hasEnd_17 rfl (lv_at hl 0 rfl) ?_
      refine va_get (D := g.1) (ci := 2) (v := .int v.2.2.1) (C := "NodeMaker$Wall") (T := Fd_W) (N := 4) hx hb ht i_W hown hK.1 hP 0 rfl rfl 2 (by decide) (ht _ q_186) (fun _ h9 => h9) rfl dW_hasEnd_18 ?_
      refine lv_icmp_ne (tgt := 36) hx hb dW_hasEnd_21 (by decide) (fun c_5 => ?_) (fun c_5 => ?_)
      · skip
        refine lv_iconst (v := 0) hx hb dW_hasEnd_36 (by decide) ?_
        exact W.zret hx hb hr rfl (fun t ht9 hW => ⟨_, rfl, by rw [sW_hasEnd, if_pos c_1, if_neg c_4, if_neg c_5], ht9⟩) (fun q h => by cases h) dW_hasEnd_37
      · skip
        refine lv_iload_n hx hb dW_hasEnd_24 rfl (lv_at hl 2 rfl) ?_
        refine lv_aload_n hx hb dW_hasEnd_25 rfl (lv_at hl 0 rfl) ?_
        refine va_get (D := g.1) (ci := 2) (v := .int v.2.2.2) (C := "NodeMaker$Wall") (T := Fd_W) (N := 4) hx hb ht i_W hown hK.1 hP 0 rfl rfl 3 (by decide) (ht _ q_189) (fun _ h9 => h9) rfl dW_hasEnd_26 ?_
        refine lv_icmp_ne (tgt := 36) hx hb dW_hasEnd_29 (by decide) (fun c_6 => ?_) (fun c_6 => ?_)
        · skip
          refine lv_iconst (v := 0) hx hb dW_hasEnd_36 (by decide) ?_
          exact W.zret hx hb hr rfl (fun t ht9 hW => ⟨_, rfl, by rw [sW_hasEnd, if_pos c_1, if_neg c_4, if_pos c_5, if_neg c_6], ht9⟩) (fun q h => by cases h) dW_hasEnd_37
        · skip
          refine lv_iconst (v := 1) hx hb dW_hasEnd_32 (by decide) ?_
          refine lv_goto (tgt := 37) hx hb dW_hasEnd_33 (by decide) ?_
          exact W.zret hx hb hr rfl (fun t ht9 hW => ⟨_, rfl, by rw [sW_hasEnd, if_pos c_1, if_neg c_4, if_pos c_5, if_pos c_6], ht9⟩) (fun q h => by cases h) dW_hasEnd_37
def sW_hasWithin (v : WV) (x y : Int32) : Int32 :=
  if (sW_side v x y) = 0 then
    if (sW_hasEnd v x y) = 0 then
      if x < (if v.2.2.1 < v.1 then v.2.2.1 else v.1) then
        0
      else
        if (if v.1 < v.2.2.1 then v.2.2.1 else v.1) < x then
          0
        else
          if y < (if v.2.2.2 < v.2.1 then v.2.2.2 else v.2.1) then
            0
          else
            if (if v.2.1 < v.2.2.2 then v.2.2.2 else v.2.1) < y then
              0
            else
              1
    else
      0
  else
    0
set_option maxHeartbeats 4000000 in
set_option maxRecDepth 100000 in
theorem cW_hasWithin (l : Launch) (g : CX) (a : Nat) (v : WV) (x y : Int32) : Met l yW_hasWithin (wm yW_hasWithin kW_hasWithin 3 (some .boolean)) ({ frames := 1, cells := 0, slots := 0, locals := 24 }) (ro g [.ref a, .int x, .int y] (va_P g.1 vwCl [(a, wE v)])) (vp_Si (fun r => r = sW_hasWithin v x y)) 0 0 (fun _ => False) := by
  refine Met.ofW (cc := kW_hasWithin) (maxL := 3) (ret := (some .boolean)) (by decide) rfl ?_
  intro p e s m args below meth c s₁ B hml hv
  obtain ⟨rfl, hK, hP⟩ := hv
  have hx := B.exec
  have hb := B.bytes
  have hr := B.returns
  have ht : ∀ w ∈ wT, w.before _ s = true := fun w h => atoms_spec (ws := wm yW_hasWithin kW_hasWithin 3 (some .boolean)) B.pre w (List.mem_cons_of_mem _ h)
  have hown : s.vm.findClass "NodeMaker$Wall" = some m.cls := findClass_of_methodNamed B.named
  have hlocks := B.notSynchronized
  have hl := lv_entry ([.ref a, .int x, .int y]) (n := 3) (Nat.le_of_ble_eq_true rfl)
  rw [lg_entry_eq]
  generalize (lg_sl ([.ref a, .int x, .int y]) ++ List.replicate (3 - (lg_sl ([.ref a, .int x, .int y])).length) Slot.unset).toArray = ls at hl ⊢
  have hl : lv_has ls 3 [(0, .ref a), (1, .int x), (2, .int y)] := hl
  refine lv_aload_n hx hb dW_hasWithin_0 rfl (lv_at hl 0 rfl) ?_
  refine lv_iload_n hx hb dW_hasWithin_1 rfl (lv_at hl 1 rfl) ?_
  refine lv_iload_n hx hb dW_hasWithin_2 rfl (lv_at hl 2 rfl) ?_
  have hPc := hP.sub (ws' := [(a, wE v)]) [0] rfl
  refine ro_Vl (v := sW_side v x y) (As := [.int x, .int y]) (rest := []) ⟨hx, hb, hml, hown, ht⟩ (cW_side l g a v x y) (cwV 2 ht (g_V q_221 q_222 q_223 q_40 q_224) rfl rfl rfl hd_W_side ⟨Nat.le_of_ble_eq_true rfl, Nat.le_of_ble_eq_true rfl⟩) hK (hPc) (va_recv hK.1 hPc (ci := 2) (q0 := 0) rfl rfl) rfl hl.1 rfl (Nat.le_of_ble_eq_true rfl) dW_hasWithin_3 ⟨by show 0 ≤ 0; omega, by show 0 ≤ 0; omega⟩ ?_
  refine lv_lconst (v := 0) hx hb dW_hasWithin_6 (by decide) ?_
  refine W.lcmp hx hb dW_hasWithin_7 ?_
  refine lv_if_ne (tgt := 84) hx hb dW_hasWithin_8 (by decide) (fun c_7 => ?_) (fun c_7 => ?_)
  · skip
    rw [lg_cmp_eq] at c_7
    refine lv_iconst (v := 0) hx hb dW_hasWithin_84 (by decide) ?_
    exact W.zret hx hb hr rfl (fun t ht9 hW => ⟨_, rfl, by rw [sW_hasWithin, if_neg c_7], ht9⟩) (fun q h => by cases h) dW_hasWithin_85
  · skip
    rw [lg_cmp_eq] at c_7
    refine lv_aload_n hx hb dW_hasWithin_11 rfl (lv_at hl 0 rfl) ?_
    refine lv_iload_n hx hb dW_hasWithin_12 rfl (lv_at hl 1 rfl) ?_
    refine lv_iload_n hx hb dW_hasWithin_13 rfl (lv_at hl 2 rfl) ?_
    have hPc := hP.sub (ws' := [(a, wE v)]) [0] rfl
    refine ro_Vi (v := sW_hasEnd v x y) (As := [.int x, .int y]) (rest := []) ⟨hx, hb, hml, hown, ht⟩ (cW_hasEnd l g a v x y) (cwV 2 ht (g_V q_213 q_214 q_215 q_40 q_216) rfl rfl rfl hd_W_hasEnd ⟨Nat.le_of_ble_eq_true rfl, Nat.le_of_ble_eq_true rfl⟩) hK (hPc) (va_recv hK.1 hPc (ci := 2) (q0 := 0) rfl rfl) rfl hl.1 rfl (Nat.le_of_ble_eq_true rfl) dW_hasWithin_14 ⟨by show 0 ≤ 0; omega, by show 0 ≤ 0; omega⟩ ?_
    refine lv_if_ne (tgt := 84) hx hb dW_hasWithin_17 (by decide) (fun c_8 => ?_) (fun c_8 => ?_)
    · skip
      refine lv_iconst (v := 0) hx hb dW_hasWithin_84 (by decide) ?_
      exact W.zret hx hb hr rfl (fun t ht9 hW => ⟨_, rfl, by rw [sW_hasWithin, if_pos c_7, if_neg c_8], ht9⟩) (fun q h => by cases h) dW_hasWithin_85
    · skip
      refine lv_iload_n hx hb dW_hasWithin_20 rfl (lv_at hl 1 rfl) ?_
      refine lv_aload_n hx hb dW_hasWithin_21 rfl (lv_at hl 0 rfl) ?_
      refine va_get (D := g.1) (ci := 2) (v := .int v.1) (C := "NodeMaker$Wall") (T := Fd_W) (N := 4) hx hb ht i_W hown hK.1 hP 0 rfl rfl 0 (by decide) (ht _ q_180) (fun _ h9 => h9) rfl dW_hasWithin_22 ?_
      refine lv_aload_n hx hb dW_hasWithin_25 rfl (lv_at hl 0 rfl) ?_
      refine va_get (D := g.1) (ci := 2) (v := .int v.2.2.1) (C := "NodeMaker$Wall") (T := Fd_W) (N := 4) hx hb ht i_W hown hK.1 hP 0 rfl rfl 2 (by decide) (ht _ q_186) (fun _ h9 => h9) rfl dW_hasWithin_26 ?_
      refine va_mmin hx hb (by rw [hml]; exact hl.1.symm) hown (ht _ q_229) (ht _ q_230) (ht _ q_41) (ht _ q_231) (Nat.le_of_ble_eq_true rfl) (Nat.le_of_ble_eq_true rfl) (by show 0 ≤ 0; omega) (by show 0 ≤ 0; omega) dW_hasWithin_29 ?_
      refine lv_icmp_lt (tgt := 84) hx hb dW_hasWithin_32 (by decide) (fun c_9 => ?_) (fun c_9 => ?_)
      · skip
        refine lv_iconst (v := 0) hx hb dW_hasWithin_84 (by decide) ?_
        exact W.zret hx hb hr rfl (fun t ht9 hW => ⟨_, rfl, by rw [sW_hasWithin, if_pos c_7, if_pos c_8, if_pos c_9], ht9⟩) (fun q h => by cases h) dW_hasWithin_85
      · skip
        refine lv_iload_n hx hb dW_hasWithin_35 rfl (lv_at hl 1 rfl) ?_
        refine lv_aload_n hx hb dW_hasWithin_36 rfl (lv_at hl 0 rfl) ?_
        refine va_get (D := g.1) (ci := 2) (v := .int v.1) (C := "NodeMaker$Wall") (T := Fd_W) (N := 4) hx hb ht i_W hown hK.1 hP 0 rfl rfl 0 (by decide) (ht _ q_180) (fun _ h9 => h9) rfl dW_hasWithin_37 ?_
        refine lv_aload_n hx hb dW_hasWithin_40 rfl (lv_at hl 0 rfl) ?_
        refine va_get (D := g.1) (ci := 2) (v := .int v.2.2.1) (C := "NodeMaker$Wall") (T := Fd_W) (N := 4) hx hb ht i_W hown hK.1 hP 0 rfl rfl 2 (by decide) (ht _ q_186) (fun _ h9 => h9) rfl dW_hasWithin_41 ?_
        refine va_mmax hx hb (by rw [hml]; exact hl.1.symm) hown (ht _ q_232) (ht _ q_233) (ht _ q_41) (ht _ q_234) (Nat.le_of_ble_eq_true rfl) (Nat.le_of_ble_eq_true rfl) (by show 0 ≤ 0; omega) (by show 0 ≤ 0; omega) dW_hasWithin_44 ?_
        refine lv_icmp_gt (tgt := 84) hx hb dW_hasWithin_47 (by decide) (fun c_10 => ?_) (fun c_10 => ?_)
        · skip
          refine lv_iconst (v := 0) hx hb dW_hasWithin_84 (by decide) ?_
          exact W.zret hx hb hr rfl (fun t ht9 hW => ⟨_, rfl, by rw [sW_hasWithin, if_pos c_7, if_pos c_8, if_neg c_9, if_pos c_10], ht9⟩) (fun q h => by cases h) dW_hasWithin_85
        · skip
          refine lv_iload_n hx hb dW_hasWithin_50 rfl (lv_at hl 2 rfl) ?_
          refine lv_aload_n hx hb dW_hasWithin_51 rfl (lv_at hl 0 rfl) ?_
          refine va_get (D := g.1) (ci := 2) (v := .int v.2.1) (C := "NodeMaker$Wall") (T := Fd_W) (N := 4) hx hb ht i_W hown hK.1 hP 0 rfl rfl 1 (by decide) (ht _ q_183) (fun _ h9 => h9) rfl dW_hasWithin_52 ?_
          refine lv_aload_n hx hb dW_hasWithin_55 rfl (lv_at hl 0 rfl) ?_
          refine va_get (D := g.1) (ci := 2) (v := .int v.2.2.2) (C := "NodeMaker$Wall") (T := Fd_W) (N := 4) hx hb ht i_W hown hK.1 hP 0 rfl rfl 3 (by decide) (ht _ q_189) (fun _ h9 => h9) rfl dW_hasWithin_56 ?_
          refine va_mmin hx hb (by rw [hml]; exact hl.1.symm) hown (ht _ q_229) (ht _ q_230) (ht _ q_41) (ht _ q_231) (Nat.le_of_ble_eq_true rfl) (Nat.le_of_ble_eq_true rfl) (by show 0 ≤ 0; omega) (by show 0 ≤ 0; omega) dW_hasWithin_59 ?_
          refine lv_icmp_lt (tgt := 84) hx hb dW_hasWithin_62 (by decide) (fun c_11 => ?_) (fun c_11 => ?_)
          · skip
            refine lv_iconst (v := 0) hx hb dW_hasWithin_84 (by decide) ?_
            exact W.zret hx hb hr rfl (fun t ht9 hW => ⟨_, rfl, by rw [sW_hasWithin, if_pos c_7, if_pos c_8, if_neg c_9, if_neg c_10, if_pos c_11], ht9⟩) (fun q h => by cases h) dW_hasWithin_85
          · skip
            refine lv_iload_n hx hb dW_hasWithin_65 rfl (lv_at hl 2 rfl) ?_
            refine lv_aload_n hx hb dW_hasWithin_66 rfl (lv_at hl 0 rfl) ?_
            refine va_get (D := g.1) (ci := 2) (v := .int v.2.1) (C := "NodeMaker$Wall") (T := Fd_W) (N := 4) hx hb ht i_W hown hK.1 hP 0 rfl rfl 1 (by decide) (ht _ q_183) (fun _ h9 => h9) rfl dW_hasWithin_67 ?_
            refine lv_aload_n hx hb dW_hasWithin_70 rfl (lv_at hl 0 rfl) ?_
            refine va_get (D := g.1) (ci := 2) (v := .int v.2.2.2) (C := "NodeMaker$Wall") (T := Fd_W) (N := 4) hx hb ht i_W hown hK.1 hP 0 rfl rfl 3 (by decide) (ht _ q_189) (fun _ h9 => h9) rfl dW_hasWithin_71 ?_
            refine va_mmax hx hb (by rw [hml]; exact hl.1.symm) hown (ht _ q_232) (ht _ q_233) (ht _ q_41) (ht _ q_234) (Nat.le_of_ble_eq_true rfl) (Nat.le_of_ble_eq_true rfl) (by show 0 ≤ 0; omega) (by show 0 ≤ 0; omega) dW_hasWithin_74 ?_
            refine lv_icmp_gt (tgt := 84) hx hb dW_hasWithin_77 (by decide) (fun c_12 => ?_) (fun c_12 => ?_)
            · skip
              refine lv_iconst (v := 0) hx hb dW_hasWithin_84 (by decide) ?_
              exact W.zret hx hb hr rfl (fun t ht9 hW => ⟨_, rfl, by rw [sW_hasWithin, if_pos c_7, if_pos c_8, if_neg c_9, if_neg c_10, if_neg c_11, if_pos c_12], ht9⟩) (fun q h => by cases h) dW_hasWithin_85
            · skip
              refine lv_iconst (v := 1) hx hb dW_hasWithin_80 (by decide) ?_
              refine lv_goto (tgt := 85) hx hb dW_hasWithin_81 (by decide) ?_
              exact W.zret hx hb hr rfl (fun t ht9 hW => ⟨_, rfl, by rw [sW_hasWithin, if_pos c_7, if_pos c_8, if_neg c_9, if_neg c_10, if_neg c_11, if_neg c_12], ht9⟩) (fun q h => by cases h) dW_hasWithin_85
def sW_parts (v u : WV) : Int32 :=
  if (sW_side v u.1 u.2.1) ≤ 0 then
    if 0 ≤ (sW_side v u.1 u.2.1) then
      0
    else
      if (sW_side v u.2.2.1 u.2.2.2) ≤ 0 then
        0
      else
        1
  else
    if (sW_side v u.2.2.1 u.2.2.2) < 0 then
      1
    else
      if 0 ≤ (sW_side v u.1 u.2.1) then
        0
      else
        if (sW_side v u.2.2.1 u.2.2.2) ≤ 0 then
          0
        else
          1
set_option maxHeartbeats 4000000 in
set_option maxRecDepth 100000 in
theorem cW_parts (l : Launch) (g : CX) (a : Nat) (v : WV) (b : Nat) (u : WV) : Met l yW_parts (wm yW_parts kW_parts 6 (some .boolean)) ({ frames := 1, cells := 0, slots := 0, locals := 22 }) (ro g [.ref a, .ref b] (va_P g.1 vwCl [(a, wE v), (b, wE u)])) (vp_Si (fun r => r = sW_parts v u)) 0 0 (fun _ => False) := by
  refine Met.ofW (cc := kW_parts) (maxL := 6) (ret := (some .boolean)) (by decide) rfl ?_
  intro p e s m args below meth c s₁ B hml hv
  obtain ⟨rfl, hK, hP⟩ := hv
  have hx := B.exec
  have hb := B.bytes
  have hr := B.returns
  have ht : ∀ w ∈ wT, w.before _ s = true := fun w h => atoms_spec (ws := wm yW_parts kW_parts 6 (some .boolean)) B.pre w (List.mem_cons_of_mem _ h)
  have hown : s.vm.findClass "NodeMaker$Wall" = some m.cls := findClass_of_methodNamed B.named
  have hlocks := B.notSynchronized
  have hl := lv_entry ([.ref a, .ref b]) (n := 6) (Nat.le_of_ble_eq_true rfl)
  rw [lg_entry_eq]
  generalize (lg_sl ([.ref a, .ref b]) ++ List.replicate (6 - (lg_sl ([.ref a, .ref b])).length) Slot.unset).toArray = ls at hl ⊢
  have hl : lv_has ls 6 [(0, .ref a), (1, .ref b)] := hl
  refine lv_aload_n hx hb dW_parts_0 rfl (lv_at hl 0 rfl) ?_
  refine lv_aload_n hx hb dW_parts_1 rfl (lv_at hl 1 rfl) ?_
  refine va_get (D := g.1) (ci := 2) (v := .int u.1) (C := "NodeMaker$Wall") (T := Fd_W) (N := 4) hx hb ht i_W hown hK.1 hP 1 rfl rfl 0 (by decide) (ht _ q_180) (fun _ h9 => h9) rfl dW_parts_2 ?_
  refine lv_aload_n hx hb dW_parts_5 rfl (lv_at hl 1 rfl) ?_
  refine va_get (D := g.1) (ci := 2) (v := .int u.2.1) (C := "NodeMaker$Wall") (T := Fd_W) (N := 4) hx hb ht i_W hown hK.1 hP 1 rfl rfl 1 (by decide) (ht _ q_183) (fun _ h9 => h9) rfl dW_parts_6 ?_
  have hPc := hP.sub (ws' := [(a, wE v)]) [0] rfl
  refine ro_Vl (v := sW_side v u.1 u.2.1) (As := [.int u.1, .int u.2.1]) (rest := []) ⟨hx, hb, hml, hown, ht⟩ (cW_side l g a v u.1 u.2.1) (cwV 2 ht (g_V q_221 q_222 q_223 q_40 q_224) rfl rfl rfl hd_W_side ⟨Nat.le_of_ble_eq_true rfl, Nat.le_of_ble_eq_true rfl⟩) hK (hPc) (va_recv hK.1 hPc (ci := 2) (q0 := 0) rfl rfl) rfl hl.1 rfl (Nat.le_of_ble_eq_true rfl) dW_parts_9 ⟨by show 0 ≤ 0; omega, by show 0 ≤ 0; omega⟩ ?_
  refine lv_lstore_n (lv' := [(2, .long (sW_side v u.1 u.2.1)), (0, .ref a), (1, .ref b)]) hx hb dW_parts_12 rfl hl (by decide) rfl (fun ls hl => ?_)
  refine lv_aload_n hx hb dW_parts_13 rfl (lv_at hl 1 rfl) ?_
  refine lv_aload_n hx hb dW_parts_14 rfl (lv_at hl 2 rfl) ?_
  refine va_get (D := g.1) (ci := 2) (v := .int u.2.2.1) (C := "NodeMaker$Wall") (T := Fd_W) (N := 4) hx hb ht i_W hown hK.1 hP 1 rfl rfl 2 (by decide) (ht _ q_186) (fun _ h9 => h9) rfl dW_parts_15 ?_
  refine lv_aload_n hx hb dW_parts_18 rfl (lv_at hl 2 rfl) ?_
  refine va_get (D := g.1) (ci := 2) (v := .int u.2.2.2) (C := "NodeMaker$Wall") (T := Fd_W) (N := 4) hx hb ht i_W hown hK.1 hP 1 rfl rfl 3 (by decide) (ht _ q_189) (fun _ h9 => h9) rfl dW_parts_19 ?_
  have hPc := hP.sub (ws' := [(a, wE v)]) [0] rfl
  refine ro_Vl (v := sW_side v u.2.2.1 u.2.2.2) (As := [.int u.2.2.1, .int u.2.2.2]) (rest := []) ⟨hx, hb, hml, hown, ht⟩ (cW_side l g a v u.2.2.1 u.2.2.2) (cwV 2 ht (g_V q_221 q_222 q_223 q_40 q_224) rfl rfl rfl hd_W_side ⟨Nat.le_of_ble_eq_true rfl, Nat.le_of_ble_eq_true rfl⟩) hK (hPc) (va_recv hK.1 hPc (ci := 2) (q0 := 0) rfl rfl) rfl hl.1 rfl (Nat.le_of_ble_eq_true rfl) dW_parts_22 ⟨by show 0 ≤ 0; omega, by show 0 ≤ 0; omega⟩ ?_
  refine lv_lstore (lv' := [(4, .long (sW_side v u.2.2.1 u.2.2.2)), (2, .long (sW_side v u.1 u.2.1)), (0, .ref a), (1, .ref b)]) hx hb dW_parts_25 hl (by decide) rfl (fun ls hl => ?_)
  refine lv_lload_n hx hb dW_parts_27 rfl (lv_at hl 1 rfl) ?_
  refine lv_lconst (v := 0) hx hb dW_parts_28 (by decide) ?_
  refine W.lcmp hx hb dW_parts_29 ?_
  refine lv_if_le (tgt := 40) hx hb dW_parts_30 (by decide) (fun c_13 => ?_) (fun c_13 => ?_)
  · skip
    rw [lg_cmp_le] at c_13
    refine lv_lload_n hx hb dW_parts_40 rfl (lv_at hl 1 rfl) ?_
    refine lv_lconst (v := 0) hx hb dW_parts_41 (by decide) ?_
    refine W.lcmp hx hb dW_parts_42 ?_
    refine lv_if_ge (tgt := 57) hx hb dW_parts_43 (by decide) (fun c_14 => ?_) (fun c_14 => ?_)
    · skip
      rw [lg_cmp_ge] at c_14
      refine lv_iconst (v := 0) hx hb dW_parts_57 (by decide) ?_
      exact W.zret hx hb hr rfl (fun t ht9 hW => ⟨_, rfl, by rw [sW_parts, if_pos c_13, if_pos c_14], ht9⟩) (fun q h => by cases h) dW_parts_58
    · skip
      rw [lg_cmp_ge] at c_14
      refine lv_lload hx hb dW_parts_46 (lv_at hl 0 rfl) ?_
      refine lv_lconst (v := 0) hx hb dW_parts_48 (by decide) ?_
      refine W.lcmp hx hb dW_parts_49 ?_
      refine lv_if_le (tgt := 57) hx hb dW_parts_50 (by decide) (fun c_15 => ?_) (fun c_15 => ?_)
      · skip
        rw [lg_cmp_le] at c_15
        refine lv_iconst (v := 0) hx hb dW_parts_57 (by decide) ?_
        exact W.zret hx hb hr rfl (fun t ht9 hW => ⟨_, rfl, by rw [sW_parts, if_pos c_13, if_neg c_14, if_pos c_15], ht9⟩) (fun q h => by cases h) dW_parts_58
      · skip
        rw [lg_cmp_le] at c_15
        refine lv_iconst (v := 1) hx hb dW_parts_53 (by decide) ?_
        refine lv_goto (tgt := 58) hx hb dW_parts_54 (by decide) ?_
        exact W.zret hx hb hr rfl (fun t ht9 hW => ⟨_, rfl, by rw [sW_parts, if_pos c_13, if_neg c_14, if_neg c_15], ht9⟩) (fun q h => by cases h) dW_parts_58
  · skip
    rw [lg_cmp_le] at c_13
    refine lv_lload hx hb dW_parts_33 (lv_at hl 0 rfl) ?_
    refine lv_lconst (v := 0) hx hb dW_parts_35 (by decide) ?_
    refine W.lcmp hx hb dW_parts_36 ?_
    refine lv_if_lt (tgt := 53) hx hb dW_parts_37 (by decide) (fun c_16 => ?_) (fun c_16 => ?_)
    · skip
      rw [lg_cmp_lt] at c_16
      refine lv_iconst (v := 1) hx hb dW_parts_53 (by decide) ?_
      refine lv_goto (tgt := 58) hx hb dW_parts_54 (by decide) ?_
      exact W.zret hx hb hr rfl (fun t ht9 hW => ⟨_, rfl, by rw [sW_parts, if_neg c_13, if_pos c_16], ht9⟩) (fun q h => by cases h) dW_parts_58
    · skip
      rw [lg_cmp_lt] at c_16
      refine lv_lload_n hx hb dW_parts_40 rfl (lv_at hl 1 rfl) ?_
      refine lv_lconst (v := 0) hx hb dW_parts_41 (by decide) ?_
      refine W.lcmp hx hb dW_parts_42 ?_
      refine lv_if_ge (tgt := 57) hx hb dW_parts_43 (by decide) (fun c_17 => ?_) (fun c_17 => ?_)
      · skip
        rw [lg_cmp_ge] at c_17
        refine lv_iconst (v := 0) hx hb dW_parts_57 (by decide) ?_
        exact W.zret hx hb hr rfl (fun t ht9 hW => ⟨_, rfl, by rw [sW_parts, if_neg c_13, if_neg c_16, if_pos c_17], ht9⟩) (fun q h => by cases h) dW_parts_58
      · skip
        rw [lg_cmp_ge] at c_17
        refine lv_lload hx hb dW_parts_46 (lv_at hl 0 rfl) ?_
        refine lv_lconst (v := 0) hx hb dW_parts_48 (by decide) ?_
        refine W.lcmp hx hb dW_parts_49 ?_
        refine lv_if_le (tgt := 57) hx hb dW_parts_50 (by decide) (fun c_18 => ?_) (fun c_18 => ?_)
        · skip
          rw [lg_cmp_le] at c_18
          refine lv_iconst (v := 0) hx hb dW_parts_57 (by decide) ?_
          exact W.zret hx hb hr rfl (fun t ht9 hW => ⟨_, rfl, by rw [sW_parts, if_neg c_13, if_neg c_16, if_neg c_17, if_pos c_18], ht9⟩) (fun q h => by cases h) dW_parts_58
        · skip
          rw [lg_cmp_le] at c_18
          refine lv_iconst (v := 1) hx hb dW_parts_53 (by decide) ?_
          refine lv_goto (tgt := 58) hx hb dW_parts_54 (by decide) ?_
          exact W.zret hx hb hr rfl (fun t ht9 hW => ⟨_, rfl, by rw [sW_parts, if_neg c_13, if_neg c_16, if_neg c_17, if_neg c_18], ht9⟩) (fun q h => by cases h) dW_parts_58
def sW_clashes (v u : WV) : Int32 :=
  if (sW_hasEnd v u.1 u.2.1) = 0 then
    if (sW_parts v u) = 0 then
      if (sW_hasWithin v u.1 u.2.1) = 0 then
        if (sW_hasWithin v u.2.2.1 u.2.2.2) = 0 then
          if (sW_hasWithin u v.1 v.2.1) = 0 then
            if (sW_hasWithin u v.2.2.1 v.2.2.2) = 0 then
              0
            else
              1
          else
            1
        else
          1
      else
        1
    else
      if (sW_parts u v) = 0 then
        if (sW_hasWithin v u.1 u.2.1) = 0 then
          if (sW_hasWithin v u.2.2.1 u.2.2.2) = 0 then
            if (sW_hasWithin u v.1 v.2.1) = 0 then
              if (sW_hasWithin u v.2.2.1 v.2.2.2) = 0 then
                0
              else
                1
            else
              1
          else
            1
        else
          1
      else
        1
  else
    if (sW_hasEnd v u.2.2.1 u.2.2.2) = 0 then
      if (sW_parts v u) = 0 then
        if (sW_hasWithin v u.1 u.2.1) = 0 then
          if (sW_hasWithin v u.2.2.1 u.2.2.2) = 0 then
            if (sW_hasWithin u v.1 v.2.1) = 0 then
              if (sW_hasWithin u v.2.2.1 v.2.2.2) = 0 then
                0
              else
                1
            else
              1
          else
            1
        else
          1
      else
        if (sW_parts u v) = 0 then
          if (sW_hasWithin v u.1 u.2.1) = 0 then
            if (sW_hasWithin v u.2.2.1 u.2.2.2) = 0 then
              if (sW_hasWithin u v.1 v.2.1) = 0 then
                if (sW_hasWithin u v.2.2.1 v.2.2.2) = 0 then
                  0
                else
                  1
              else
                1
            else
              1
          else
            1
        else
          1
    else
      1
set_option maxHeartbeats 4000000 in
set_option maxRecDepth 100000 in
theorem cW_clashes (l : Launch) (g : CX) (a : Nat) (v : WV) (b : Nat) (u : WV) : Met l yW_clashes (wm yW_clashes kW_clashes 2 (some .boolean)) ({ frames := 2, cells := 0, slots := 0, locals := 47 }) (ro g [.ref a, .ref b] (va_P g.1 vwCl [(a, wE v), (b, wE u)])) (vp_Si (fun r => r = sW_clashes v u)) 0 0 (fun _ => False) := by
  refine Met.ofW (cc := kW_clashes) (maxL := 2) (ret := (some .boolean)) (by decide) rfl ?_
  intro p e s m args below meth c s₁ B hml hv
  obtain ⟨rfl, hK, hP⟩ := hv
  have hx := B.exec
  have hb := B.bytes
  have hr := B.returns
  have ht : ∀ w ∈ wT, w.before _ s = true := fun w h => atoms_spec (ws := wm yW_clashes kW_clashes 2 (some .boolean)) B.pre w (List.mem_cons_of_mem _ h)
  have hown : s.vm.findClass "NodeMaker$Wall" = some m.cls := findClass_of_methodNamed B.named
  have hlocks := B.notSynchronized
  have hl := lv_entry ([.ref a, .ref b]) (n := 2) (Nat.le_of_ble_eq_true rfl)
  rw [lg_entry_eq]
  generalize (lg_sl ([.ref a, .ref b]) ++ List.replicate (2 - (lg_sl ([.ref a, .ref b])).length) Slot.unset).toArray = ls at hl ⊢
  have hl : lv_has ls 2 [(0, .ref a), (1, .ref b)] := hl
  refine lv_aload_n hx hb dW_clashes_0 rfl (lv_at hl 0 rfl) ?_
  refine lv_aload_n hx hb dW_clashes_1 rfl (lv_at hl 1 rfl) ?_
  refine va_get (D := g.1) (ci := 2) (v := .int u.1) (C := "NodeMaker$Wall") (T := Fd_W) (N := 4) hx hb ht i_W hown hK.1 hP 1 rfl rfl 0 (by decide) (ht _ q_180) (fun _ h9 => h9) rfl dW_clashes_2 ?_
  refine lv_aload_n hx hb dW_clashes_5 rfl (lv_at hl 1 rfl) ?_
  refine va_get (D := g.1) (ci := 2) (v := .int u.2.1) (C := "NodeMaker$Wall") (T := Fd_W) (N := 4) hx hb ht i_W hown hK.1 hP 1 rfl rfl 1 (by decide) (ht _ q_183) (fun _ h9 => h9) rfl dW_clashes_6 ?_
  have hPc := hP.sub (ws' := [(a, wE v)]) [0] rfl
  refine ro_Vi (v := sW_hasEnd v u.1 u.2.1) (As := [.int u.1, .int u.2.1]) (rest := []) ⟨hx, hb, hml, hown, ht⟩ (cW_hasEnd l g a v u.1 u.2.1) (cwV 2 ht (g_V q_213 q_214 q_215 q_40 q_216) rfl rfl rfl hd_W_hasEnd ⟨Nat.le_of_ble_eq_true rfl, Nat.le_of_ble_eq_true rfl⟩) hK (hPc) (va_recv hK.1 hPc (ci := 2) (q0 := 0) rfl rfl) rfl hl.1 rfl (Nat.le_of_ble_eq_true rfl) dW_clashes_9 ⟨by show 0 ≤ 0; omega, by show 0 ≤ 0; omega⟩ ?_
  refine lv_if_eq (tgt := 32) hx hb dW_clashes_12 (by decide) (fun c_19 => ?_) (fun c_19 => ?_)
  · skip
    refine lv_aload_n hx hb dW_clashes_32 rfl (lv_at hl 0 rfl) ?_
    refine lv_aload_n hx hb dW_clashes_33 rfl (lv_at hl 1 rfl) ?_
    have hPc := hP.sub (ws' := [(a, wE v), (b, wE u)]) [0, 1] rfl
    refine ro_Vi (v := sW_parts v u) (As := [.ref b]) (rest := []) ⟨hx, hb, hml, hown, ht⟩ (cW_parts l g a v b u) (cwV 1 ht (g_V q_217 q_218 q_219 q_40 q_220) rfl rfl rfl hd_W_parts ⟨Nat.le_of_ble_eq_true rfl, Nat.le_of_ble_eq_true rfl⟩) hK (hPc) (va_recv hK.1 hPc (ci := 2) (q0 := 0) rfl rfl) rfl hl.1 rfl (Nat.le_of_ble_eq_true rfl) dW_clashes_34 ⟨by show 0 ≤ 0; omega, by show 0 ≤ 0; omega⟩ ?_
    refine lv_if_eq (tgt := 48) hx hb dW_clashes_37 (by decide) (fun c_20 => ?_) (fun c_20 => ?_)
    · skip
      refine lv_aload_n hx hb dW_clashes_48 rfl (lv_at hl 0 rfl) ?_
      refine lv_aload_n hx hb dW_clashes_49 rfl (lv_at hl 1 rfl) ?_
      refine va_get (D := g.1) (ci := 2) (v := .int u.1) (C := "NodeMaker$Wall") (T := Fd_W) (N := 4) hx hb ht i_W hown hK.1 hP 1 rfl rfl 0 (by decide) (ht _ q_180) (fun _ h9 => h9) rfl dW_clashes_50 ?_
      refine lv_aload_n hx hb dW_clashes_53 rfl (lv_at hl 1 rfl) ?_
      refine va_get (D := g.1) (ci := 2) (v := .int u.2.1) (C := "NodeMaker$Wall") (T := Fd_W) (N := 4) hx hb ht i_W hown hK.1 hP 1 rfl rfl 1 (by decide) (ht _ q_183) (fun _ h9 => h9) rfl dW_clashes_54 ?_
      have hPc := hP.sub (ws' := [(a, wE v)]) [0] rfl
      refine ro_Vi (v := sW_hasWithin v u.1 u.2.1) (As := [.int u.1, .int u.2.1]) (rest := []) ⟨hx, hb, hml, hown, ht⟩ (cW_hasWithin l g a v u.1 u.2.1) (cwV 2 ht (g_V q_225 q_226 q_227 q_40 q_228) rfl rfl rfl hd_W_hasWithin ⟨Nat.le_of_ble_eq_true rfl, Nat.le_of_ble_eq_true rfl⟩) hK (hPc) (va_recv hK.1 hPc (ci := 2) (q0 := 0) rfl rfl) rfl hl.1 rfl (Nat.le_of_ble_eq_true rfl) dW_clashes_57 ⟨by show 0 ≤ 0; omega, by show 0 ≤ 0; omega⟩ ?_
      refine lv_if_ne (tgt := 108) hx hb dW_clashes_60 (by decide) (fun c_21 => ?_) (fun c_21 => ?_)
      · skip
        refine lv_iconst (v := 1) hx hb dW_clashes_108 (by decide) ?_
        refine lv_goto (tgt := 113) hx hb dW_clashes_109 (by decide) ?_
        exact W.zret hx hb hr rfl (fun t ht9 hW => ⟨_, rfl, by rw [sW_clashes, if_pos c_19, if_pos c_20, if_neg c_21], ht9⟩) (fun q h => by cases h) dW_clashes_113
      · skip
        refine lv_aload_n hx hb dW_clashes_63 rfl (lv_at hl 0 rfl) ?_
        refine lv_aload_n hx hb dW_clashes_64 rfl (lv_at hl 1 rfl) ?_
        refine va_get (D := g.1) (ci := 2) (v := .int u.2.2.1) (C := "NodeMaker$Wall") (T := Fd_W) (N := 4) hx hb ht i_W hown hK.1 hP 1 rfl rfl 2 (by decide) (ht _ q_186) (fun _ h9 => h9) rfl dW_clashes_65 ?_
        refine lv_aload_n hx hb dW_clashes_68 rfl (lv_at hl 1 rfl) ?_
        refine va_get (D := g.1) (ci := 2) (v := .int u.2.2.2) (C := "NodeMaker$Wall") (T := Fd_W) (N := 4) hx hb ht i_W hown hK.1 hP 1 rfl rfl 3 (by decide) (ht _ q_189) (fun _ h9 => h9) rfl dW_clashes_69 ?_
        have hPc := hP.sub (ws' := [(a, wE v)]) [0] rfl
        refine ro_Vi (v := sW_hasWithin v u.2.2.1 u.2.2.2) (As := [.int u.2.2.1, .int u.2.2.2]) (rest := []) ⟨hx, hb, hml, hown, ht⟩ (cW_hasWithin l g a v u.2.2.1 u.2.2.2) (cwV 2 ht (g_V q_225 q_226 q_227 q_40 q_228) rfl rfl rfl hd_W_hasWithin ⟨Nat.le_of_ble_eq_true rfl, Nat.le_of_ble_eq_true rfl⟩) hK (hPc) (va_recv hK.1 hPc (ci := 2) (q0 := 0) rfl rfl) rfl hl.1 rfl (Nat.le_of_ble_eq_true rfl) dW_clashes_72 ⟨by show 0 ≤ 0; omega, by show 0 ≤ 0; omega⟩ ?_
        refine lv_if_ne (tgt := 108) hx hb dW_clashes_75 (by decide) (fun c_22 => ?_) (fun c_22 => ?_)
        · skip
          refine lv_iconst (v := 1) hx hb dW_clashes_108 (by decide) ?_
          refine lv_goto (tgt := 113) hx hb dW_clashes_109 (by decide) ?_
          exact W.zret hx hb hr rfl (fun t ht9 hW => ⟨_, rfl, by rw [sW_clashes, if_pos c_19, if_pos c_20, if_pos c_21, if_neg c_22], ht9⟩) (fun q h => by cases h) dW_clashes_113
        · skip
          refine lv_aload_n hx hb dW_clashes_78 rfl (lv_at hl 1 rfl) ?_
          refine lv_aload_n hx hb dW_clashes_79 rfl (lv_at hl 0 rfl) ?_
          refine va_get (D := g.1) (ci := 2) (v := .int v.1) (C := "NodeMaker$Wall") (T := Fd_W) (N := 4) hx hb ht i_W hown hK.1 hP 0 rfl rfl 0 (by decide) (ht _ q_180) (fun _ h9 => h9) rfl dW_clashes_80 ?_
          refine lv_aload_n hx hb dW_clashes_83 rfl (lv_at hl 0 rfl) ?_
          refine va_get (D := g.1) (ci := 2) (v := .int v.2.1) (C := "NodeMaker$Wall") (T := Fd_W) (N := 4) hx hb ht i_W hown hK.1 hP 0 rfl rfl 1 (by decide) (ht _ q_183) (fun _ h9 => h9) rfl dW_clashes_84 ?_
          have hPc := hP.sub (ws' := [(b, wE u)]) [1] rfl
          refine ro_Vi (v := sW_hasWithin u v.1 v.2.1) (As := [.int v.1, .int v.2.1]) (rest := []) ⟨hx, hb, hml, hown, ht⟩ (cW_hasWithin l g b u v.1 v.2.1) (cwV 2 ht (g_V q_225 q_226 q_227 q_40 q_228) rfl rfl rfl hd_W_hasWithin ⟨Nat.le_of_ble_eq_true rfl, Nat.le_of_ble_eq_true rfl⟩) hK (hPc) (va_recv hK.1 hPc (ci := 2) (q0 := 0) rfl rfl) rfl hl.1 rfl (Nat.le_of_ble_eq_true rfl) dW_clashes_87 ⟨by show 0 ≤ 0; omega, by show 0 ≤ 0; omega⟩ ?_
          refine lv_if_ne (tgt := 108) hx hb dW_clashes_90 (by decide) (fun c_23 => ?_) (fun c_23 => ?_)
          · skip
            refine lv_iconst (v := 1) hx hb dW_clashes_108 (by decide) ?_
            refine lv_goto (tgt := 113) hx hb dW_clashes_109 (by decide) ?_
            exact W.zret hx hb hr rfl (fun t ht9 hW => ⟨_, rfl, by rw [sW_clashes, if_pos c_19, if_pos c_20, if_pos c_21, if_pos c_22, if_neg c_23], ht9⟩) (fun q h => by cases h) dW_clashes_113
          · skip
            refine lv_aload_n hx hb dW_clashes_93 rfl (lv_at hl 1 rfl) ?_
            refine lv_aload_n hx hb dW_clashes_94 rfl (lv_at hl 0 rfl) ?_
            refine va_get (D := g.1) (ci := 2) (v := .int v.2.2.1) (C := "NodeMaker$Wall") (T := Fd_W) (N := 4) hx hb ht i_W hown hK.1 hP 0 rfl rfl 2 (by decide) (ht _ q_186) (fun _ h9 => h9) rfl dW_clashes_95 ?_
            refine lv_aload_n hx hb dW_clashes_98 rfl (lv_at hl 0 rfl) ?_
            refine va_get (D := g.1) (ci := 2) (v := .int v.2.2.2) (C := "NodeMaker$Wall") (T := Fd_W) (N := 4) hx hb ht i_W hown hK.1 hP 0 rfl rfl 3 (by decide) (ht _ q_189) (fun _ h9 => h9) rfl dW_clashes_99 ?_
            have hPc := hP.sub (ws' := [(b, wE u)]) [1] rfl
            refine ro_Vi (v := sW_hasWithin u v.2.2.1 v.2.2.2) (As := [.int v.2.2.1, .int v.2.2.2]) (rest := []) ⟨hx, hb, hml, hown, ht⟩ (cW_hasWithin l g b u v.2.2.1 v.2.2.2) (cwV 2 ht (g_V q_225 q_226 q_227 q_40 q_228) rfl rfl rfl hd_W_hasWithin ⟨Nat.le_of_ble_eq_true rfl, Nat.le_of_ble_eq_true rfl⟩) hK (hPc) (va_recv hK.1 hPc (ci := 2) (q0 := 0) rfl rfl) rfl hl.1 rfl (Nat.le_of_ble_eq_true rfl) dW_clashes_102 ⟨by show 0 ≤ 0; omega, by show 0 ≤ 0; omega⟩ ?_
            refine lv_if_eq (tgt := 112) hx hb dW_clashes_105 (by decide) (fun c_24 => ?_) (fun c_24 => ?_)
            · skip
              refine lv_iconst (v := 0) hx hb dW_clashes_112 (by decide) ?_
              exact W.zret hx hb hr rfl (fun t ht9 hW => ⟨_, rfl, by rw [sW_clashes, if_pos c_19, if_pos c_20, if_pos c_21, if_pos c_22, if_pos c_23, if_pos c_24], ht9⟩) (fun q h => by cases h) dW_clashes_113
            · skip
              refine lv_iconst (v := 1) hx hb dW_clashes_108 (by decide) ?_
              refine lv_goto (tgt := 113) hx hb dW_clashes_109 (by decide) ?_
              exact W.zret hx hb hr rfl (fun t ht9 hW => ⟨_, rfl, by rw [sW_clashes, if_pos c_19, if_pos c_20, if_pos c_21, if_pos c_22, if_pos c_23, if_neg c_24], ht9⟩) (fun q h => by cases h) dW_clashes_113
    · skip
      refine lv_aload_n hx hb dW_clashes_40 rfl (lv_at hl 1 rfl) ?_
      refine lv_aload_n hx hb dW_clashes_41 rfl (lv_at hl 0 rfl) ?_
      have hPc := hP.sub (ws' := [(b, wE u), (a, wE v)]) [1, 0] rfl
      refine ro_Vi (v := sW_parts u v) (As := [.ref a]) (rest := []) ⟨hx, hb, hml, hown, ht⟩ (cW_parts l g b u a v) (cwV 1 ht (g_V q_217 q_218 q_219 q_40 q_220) rfl rfl rfl hd_W_parts ⟨Nat.le_of_ble_eq_true rfl, Nat.le_of_ble_eq_true rfl⟩) hK (hPc) (va_recv hK.1 hPc (ci := 2) (q0 := 0) rfl rfl) rfl hl.1 rfl (Nat.le_of_ble_eq_true rfl) dW_clashes_42 ⟨by show 0 ≤ 0; omega, by show 0 ≤ 0; omega⟩ ?_
      refine lv_if_ne (tgt := 108) hx hb dW_clashes_45 (by decide) (fun c_25 => ?_) (fun c_25 => ?_)
      · skip
        refine lv_iconst (v := 1) hx hb dW_clashes_108 (by decide) ?_
        refine lv_goto (tgt := 113) hx hb dW_clashes_109 (by decide) ?_
        exact W.zret hx hb hr rfl (fun t ht9 hW => ⟨_, rfl, by rw [sW_clashes, if_pos c_19, if_neg c_20, if_neg c_25], ht9⟩) (fun q h => by cases h) dW_clashes_113
      · skip
        refine lv_aload_n hx hb dW_clashes_48 rfl (lv_at hl 0 rfl) ?_
        refine lv_aload_n hx hb dW_clashes_49 rfl (lv_at hl 1 rfl) ?_
        refine va_get (D := g.1) (ci := 2) (v := .int u.1) (C := "NodeMaker$Wall") (T := Fd_W) (N := 4) hx hb ht i_W hown hK.1 hP 1 rfl rfl 0 (by decide) (ht _ q_180) (fun _ h9 => h9) rfl dW_clashes_50 ?_
        refine lv_aload_n hx hb dW_clashes_53 rfl (lv_at hl 1 rfl) ?_
        refine va_get (D := g.1) (ci := 2) (v := .int u.2.1) (C := "NodeMaker$Wall") (T := Fd_W) (N := 4) hx hb ht i_W hown hK.1 hP 1 rfl rfl 1 (by decide) (ht _ q_183) (fun _ h9 => h9) rfl dW_clashes_54 ?_
        have hPc := hP.sub (ws' := [(a, wE v)]) [0] rfl
        refine ro_Vi (v := sW_hasWithin v u.1 u.2.1) (As := [.int u.1, .int u.2.1]) (rest := []) ⟨hx, hb, hml, hown, ht⟩ (cW_hasWithin l g a v u.1 u.2.1) (cwV 2 ht (g_V q_225 q_226 q_227 q_40 q_228) rfl rfl rfl hd_W_hasWithin ⟨Nat.le_of_ble_eq_true rfl, Nat.le_of_ble_eq_true rfl⟩) hK (hPc) (va_recv hK.1 hPc (ci := 2) (q0 := 0) rfl rfl) rfl hl.1 rfl (Nat.le_of_ble_eq_true rfl) dW_clashes_57 ⟨by show 0 ≤ 0; omega, by show 0 ≤ 0; omega⟩ ?_
        refine lv_if_ne (tgt := 108) hx hb dW_clashes_60 (by decide) (fun c_26 => ?_) (fun c_26 => ?_)
        · skip
          refine lv_iconst (v := 1) hx hb dW_clashes_108 (by decide) ?_
          refine lv_goto (tgt := 113) hx hb dW_clashes_109 (by decide) ?_
          exact W.zret hx hb hr rfl (fun t ht9 hW => ⟨_, rfl, by rw [sW_clashes, if_pos c_19, if_neg c_20, if_pos c_25, if_neg c_26], ht9⟩) (fun q h => by cases h) dW_clashes_113
        · skip
          refine lv_aload_n hx hb dW_clashes_63 rfl (lv_at hl 0 rfl) ?_
          refine lv_aload_n hx hb dW_clashes_64 rfl (lv_at hl 1 rfl) ?_
          refine va_get (D := g.1) (ci := 2) (v := .int u.2.2.1) (C := "NodeMaker$Wall") (T := Fd_W) (N := 4) hx hb ht i_W hown hK.1 hP 1 rfl rfl 2 (by decide) (ht _ q_186) (fun _ h9 => h9) rfl dW_clashes_65 ?_
          refine lv_aload_n hx hb dW_clashes_68 rfl (lv_at hl 1 rfl) ?_
          refine va_get (D := g.1) (ci := 2) (v := .int u.2.2.2) (C := "NodeMaker$Wall") (T := Fd_W) (N := 4) hx hb ht i_W hown hK.1 hP 1 rfl rfl 3 (by decide) (ht _ q_189) (fun _ h9 => h9) rfl dW_clashes_69 ?_
          have hPc := hP.sub (ws' := [(a, wE v)]) [0] rfl
          refine ro_Vi (v := sW_hasWithin v u.2.2.1 u.2.2.2) (As := [.int u.2.2.1, .int u.2.2.2]) (rest := []) ⟨hx, hb, hml, hown, ht⟩ (cW_hasWithin l g a v u.2.2.1 u.2.2.2) (cwV 2 ht (g_V q_225 q_226 q_227 q_40 q_228) rfl rfl rfl hd_W_hasWithin ⟨Nat.le_of_ble_eq_true rfl, Nat.le_of_ble_eq_true rfl⟩) hK (hPc) (va_recv hK.1 hPc (ci := 2) (q0 := 0) rfl rfl) rfl hl.1 rfl (Nat.le_of_ble_eq_true rfl) dW_clashes_72 ⟨by show 0 ≤ 0; omega, by show 0 ≤ 0; omega⟩ ?_
          refine lv_if_ne (tgt := 108) hx hb dW_clashes_75 (by decide) (fun c_27 => ?_) (fun c_27 => ?_)
          · skip
            refine lv_iconst (v := 1) hx hb dW_clashes_108 (by decide) ?_
            refine lv_goto (tgt := 113) hx hb dW_clashes_109 (by decide) ?_
            exact W.zret hx hb hr rfl (fun t ht9 hW => ⟨_, rfl, by rw [sW_clashes, if_pos c_19, if_neg c_20, if_pos c_25, if_pos c_26, if_neg c_27], ht9⟩) (fun q h => by cases h) dW_clashes_113
          · skip
            refine lv_aload_n hx hb dW_clashes_78 rfl (lv_at hl 1 rfl) ?_
            refine lv_aload_n hx hb dW_clashes_79 rfl (lv_at hl 0 rfl) ?_
            refine va_get (D := g.1) (ci := 2) (v := .int v.1) (C := "NodeMaker$Wall") (T := Fd_W) (N := 4) hx hb ht i_W hown hK.1 hP 0 rfl rfl 0 (by decide) (ht _ q_180) (fun _ h9 => h9) rfl dW_clashes_80 ?_
            refine lv_aload_n hx hb dW_clashes_83 rfl (lv_at hl 0 rfl) ?_
            refine va_get (D := g.1) (ci := 2) (v := .int v.2.1) (C := "NodeMaker$Wall") (T := Fd_W) (N := 4) hx hb ht i_W hown hK.1 hP 0 rfl rfl 1 (by decide) (ht _ q_183) (fun _ h9 => h9) rfl dW_clashes_84 ?_
            have hPc := hP.sub (ws' := [(b, wE u)]) [1] rfl
            refine ro_Vi (v := sW_hasWithin u v.1 v.2.1) (As := [.int v.1, .int v.2.1]) (rest := []) ⟨hx, hb, hml, hown, ht⟩ (cW_hasWithin l g b u v.1 v.2.1) (cwV 2 ht (g_V q_225 q_226 q_227 q_40 q_228) rfl rfl rfl hd_W_hasWithin ⟨Nat.le_of_ble_eq_true rfl, Nat.le_of_ble_eq_true rfl⟩) hK (hPc) (va_recv hK.1 hPc (ci := 2) (q0 := 0) rfl rfl) rfl hl.1 rfl (Nat.le_of_ble_eq_true rfl) dW_clashes_87 ⟨by show 0 ≤ 0; omega, by show 0 ≤ 0; omega⟩ ?_
            refine lv_if_ne (tgt := 108) hx hb dW_clashes_90 (by decide) (fun c_28 => ?_) (fun c_28 => ?_)
            · skip
              refine lv_iconst (v := 1) hx hb dW_clashes_108 (by decide) ?_
              refine lv_goto (tgt := 113) hx hb dW_clashes_109 (by decide) ?_
              exact W.zret hx hb hr rfl (fun t ht9 hW => ⟨_, rfl, by rw [sW_clashes, if_pos c_19, if_neg c_20, if_pos c_25, if_pos c_26, if_pos c_27, if_neg c_28], ht9⟩) (fun q h => by cases h) dW_clashes_113
            · skip
              refine lv_aload_n hx hb dW_clashes_93 rfl (lv_at hl 1 rfl) ?_
              refine lv_aload_n hx hb dW_clashes_94 rfl (lv_at hl 0 rfl) ?_
              refine va_get (D := g.1) (ci := 2) (v := .int v.2.2.1) (C := "NodeMaker$Wall") (T := Fd_W) (N := 4) hx hb ht i_W hown hK.1 hP 0 rfl rfl 2 (by decide) (ht _ q_186) (fun _ h9 => h9) rfl dW_clashes_95 ?_
              refine lv_aload_n hx hb dW_clashes_98 rfl (lv_at hl 0 rfl) ?_
              refine va_get (D := g.1) (ci := 2) (v := .int v.2.2.2) (C := "NodeMaker$Wall") (T := Fd_W) (N := 4) hx hb ht i_W hown hK.1 hP 0 rfl rfl 3 (by decide) (ht _ q_189) (fun _ h9 => h9) rfl dW_clashes_99 ?_
              have hPc := hP.sub (ws' := [(b, wE u)]) [1] rfl
              refine ro_Vi (v := sW_hasWithin u v.2.2.1 v.2.2.2) (As := [.int v.2.2.1, .int v.2.2.2]) (rest := []) ⟨hx, hb, hml, hown, ht⟩ (cW_hasWithin l g b u v.2.2.1 v.2.2.2) (cwV 2 ht (g_V q_225 q_226 q_227 q_40 q_228) rfl rfl rfl hd_W_hasWithin ⟨Nat.le_of_ble_eq_true rfl, Nat.le_of_ble_eq_true rfl⟩) hK (hPc) (va_recv hK.1 hPc (ci := 2) (q0 := 0) rfl rfl) rfl hl.1 rfl (Nat.le_of_ble_eq_true rfl) dW_clashes_102 ⟨by show 0 ≤ 0; omega, by show 0 ≤ 0; omega⟩ ?_
              refine lv_if_eq (tgt := 112) hx hb dW_clashes_105 (by decide) (fun c_29 => ?_) (fun c_29 => ?_)
              · skip
                refine lv_iconst (v := 0) hx hb dW_clashes_112 (by decide) ?_
                exact W.zret hx hb hr rfl (fun t ht9 hW => ⟨_, rfl, by rw [sW_clashes, if_pos c_19, if_neg c_20, if_pos c_25, if_pos c_26, if_pos c_27, if_pos c_28, if_pos c_29], ht9⟩) (fun q h => by cases h) dW_clashes_113
              · skip
                refine lv_iconst (v := 1) hx hb dW_clashes_108 (by decide) ?_
                refine lv_goto (tgt := 113) hx hb dW_clashes_109 (by decide) ?_
                exact W.zret hx hb hr rfl (fun t ht9 hW => ⟨_, rfl, by rw [sW_clashes, if_pos c_19, if_neg c_20, if_pos c_25, if_pos c_26, if_pos c_27, if_pos c_28, if_neg c_29], ht9⟩) (fun q h => by cases h) dW_clashes_113
  · skip
    refine lv_aload_n hx hb dW_clashes_15 rfl (lv_at hl 0 rfl) ?_
    refine lv_aload_n hx hb dW_clashes_16 rfl (lv_at hl 1 rfl) ?_
    refine va_get (D := g.1) (ci := 2) (v := .int u.2.2.1) (C := "NodeMaker$Wall") (T := Fd_W) (N := 4) hx hb ht i_W hown hK.1 hP 1 rfl rfl 2 (by decide) (ht _ q_186) (fun _ h9 => h9) rfl dW_clashes_17 ?_
    refine lv_aload_n hx hb dW_clashes_20 rfl (lv_at hl 1 rfl) ?_
    refine va_get (D := g.1) (ci := 2) (v := .int u.2.2.2) (C := "NodeMaker$Wall") (T := Fd_W) (N := 4) hx hb ht i_W hown hK.1 hP 1 rfl rfl 3 (by decide) (ht _ q_189) (fun _ h9 => h9) rfl dW_clashes_21 ?_
    have hPc := hP.sub (ws' := [(a, wE v)]) [0] rfl
    refine ro_Vi (v := sW_hasEnd v u.2.2.1 u.2.2.2) (As := [.int u.2.2.1, .int u.2.2.2]) (rest := []) ⟨hx, hb, hml, hown, ht⟩ (cW_hasEnd l g a v u.2.2.1 u.2.2.2) (cwV 2 ht (g_V q_213 q_214 q_215 q_40 q_216) rfl rfl rfl hd_W_hasEnd ⟨Nat.le_of_ble_eq_true rfl, Nat.le_of_ble_eq_true rfl⟩) hK (hPc) (va_recv hK.1 hPc (ci := 2) (q0 := 0) rfl rfl) rfl hl.1 rfl (Nat.le_of_ble_eq_true rfl) dW_clashes_24 ⟨by show 0 ≤ 0; omega, by show 0 ≤ 0; omega⟩ ?_
    refine lv_if_eq (tgt := 32) hx hb dW_clashes_27 (by decide) (fun c_30 => ?_) (fun c_30 => ?_)
    · skip
      refine lv_aload_n hx hb dW_clashes_32 rfl (lv_at hl 0 rfl) ?_
      refine lv_aload_n hx hb dW_clashes_33 rfl (lv_at hl 1 rfl) ?_
      have hPc := hP.sub (ws' := [(a, wE v), (b, wE u)]) [0, 1] rfl
      refine ro_Vi (v := sW_parts v u) (As := [.ref b]) (rest := []) ⟨hx, hb, hml, hown, ht⟩ (cW_parts l g a v b u) (cwV 1 ht (g_V q_217 q_218 q_219 q_40 q_220) rfl rfl rfl hd_W_parts ⟨Nat.le_of_ble_eq_true rfl, Nat.le_of_ble_eq_true rfl⟩) hK (hPc) (va_recv hK.1 hPc (ci := 2) (q0 := 0) rfl rfl) rfl hl.1 rfl (Nat.le_of_ble_eq_true rfl) dW_clashes_34 ⟨by show 0 ≤ 0; omega, by show 0 ≤ 0; omega⟩ ?_
      refine lv_if_eq (tgt := 48) hx hb dW_clashes_37 (by decide) (fun c_31 => ?_) (fun c_31 => ?_)
      · skip
        refine lv_aload_n hx hb dW_clashes_48 rfl (lv_at hl 0 rfl) ?_
        refine lv_aload_n hx hb dW_clashes_49 rfl (lv_at hl 1 rfl) ?_
        refine va_get (D := g.1) (ci := 2) (v := .int u.1) (C := "NodeMaker$Wall") (T := Fd_W) (N := 4) hx hb ht i_W hown hK.1 hP 1 rfl rfl 0 (by decide) (ht _ q_180) (fun _ h9 => h9) rfl dW_clashes_50 ?_
        refine lv_aload_n hx hb dW_clashes_53 rfl (lv_at hl 1 rfl) ?_
        refine va_get (D := g.1) (ci := 2) (v := .int u.2.1) (C := "NodeMaker$Wall") (T := Fd_W) (N := 4) hx hb ht i_W hown hK.1 hP 1 rfl rfl 1 (by decide) (ht _ q_183) (fun _ h9 => h9) rfl dW_clashes_54 ?_
        have hPc := hP.sub (ws' := [(a, wE v)]) [0] rfl
        refine ro_Vi (v := sW_hasWithin v u.1 u.2.1) (As := [.int u.1, .int u.2.1]) (rest := []) ⟨hx, hb, hml, hown, ht⟩ (cW_hasWithin l g a v u.1 u.2.1) (cwV 2 ht (g_V q_225 q_226 q_227 q_40 q_228) rfl rfl rfl hd_W_hasWithin ⟨Nat.le_of_ble_eq_true rfl, Nat.le_of_ble_eq_true rfl⟩) hK (hPc) (va_recv hK.1 hPc (ci := 2) (q0 := 0) rfl rfl) rfl hl.1 rfl (Nat.le_of_ble_eq_true rfl) dW_clashes_57 ⟨by show 0 ≤ 0; omega, by show 0 ≤ 0; omega⟩ ?_
        refine lv_if_ne (tgt := 108) hx hb dW_clashes_60 (by decide) (fun c_32 => ?_) (fun c_32 => ?_)
        · skip
          refine lv_iconst (v := 1) hx hb dW_clashes_108 (by decide) ?_
          refine lv_goto (tgt := 113) hx hb dW_clashes_109 (by decide) ?_
          exact W.zret hx hb hr rfl (fun t ht9 hW => ⟨_, rfl, by rw [sW_clashes, if_neg c_19, if_pos c_30, if_pos c_31, if_neg c_32], ht9⟩) (fun q h => by cases h) dW_clashes_113
        · skip
          refine lv_aload_n hx hb dW_clashes_63 rfl (lv_at hl 0 rfl) ?_
          refine lv_aload_n hx hb dW_clashes_64 rfl (lv_at hl 1 rfl) ?_
          refine va_get (D := g.1) (ci := 2) (v := .int u.2.2.1) (C := "NodeMaker$Wall") (T := Fd_W) (N := 4) hx hb ht i_W hown hK.1 hP 1 rfl rfl 2 (by decide) (ht _ q_186) (fun _ h9 => h9) rfl dW_clashes_65 ?_
          refine lv_aload_n hx hb dW_clashes_68 rfl (lv_at hl 1 rfl) ?_
          refine va_get (D := g.1) (ci := 2) (v := .int u.2.2.2) (C := "NodeMaker$Wall") (T := Fd_W) (N := 4) hx hb ht i_W hown hK.1 hP 1 rfl rfl 3 (by decide) (ht _ q_189) (fun _ h9 => h9) rfl dW_clashes_69 ?_
          have hPc := hP.sub (ws' := [(a, wE v)]) [0] rfl
          refine ro_Vi (v := sW_hasWithin v u.2.2.1 u.2.2.2) (As := [.int u.2.2.1, .int u.2.2.2]) (rest := []) ⟨hx, hb, hml, hown, ht⟩ (cW_hasWithin l g a v u.2.2.1 u.2.2.2) (cwV 2 ht (g_V q_225 q_226 q_227 q_40 q_228) rfl rfl rfl hd_W_hasWithin ⟨Nat.le_of_ble_eq_true rfl, Nat.le_of_ble_eq_true rfl⟩) hK (hPc) (va_recv hK.1 hPc (ci := 2) (q0 := 0) rfl rfl) rfl hl.1 rfl (Nat.le_of_ble_eq_true rfl) dW_clashes_72 ⟨by show 0 ≤ 0; omega, by show 0 ≤ 0; omega⟩ ?_
          refine lv_if_ne (tgt := 108) hx hb dW_clashes_75 (by decide) (fun c_33 => ?_) (fun c_33 => ?_)
          · skip
            refine lv_iconst (v := 1) hx hb dW_clashes_108 (by decide) ?_
            refine lv_goto (tgt := 113) hx hb dW_clashes_109 (by decide) ?_
            exact W.zret hx hb hr rfl (fun t ht9 hW => ⟨_, rfl, by rw [sW_clashes, if_neg c_19, if_pos c_30, if_pos c_31, if_pos c_32, if_neg c_33], ht9⟩) (fun q h => by cases h) dW_clashes_113
          · skip
            refine lv_aload_n hx hb dW_clashes_78 rfl (lv_at hl 1 rfl) ?_
            refine lv_aload_n hx hb dW_clashes_79 rfl (lv_at hl 0 rfl) ?_
            refine va_get (D := g.1) (ci := 2) (v := .int v.1) (C := "NodeMaker$Wall") (T := Fd_W) (N := 4) hx hb ht i_W hown hK.1 hP 0 rfl rfl 0 (by decide) (ht _ q_180) (fun _ h9 => h9) rfl dW_clashes_80 ?_
            refine lv_aload_n hx hb dW_clashes_83 rfl (lv_at hl 0 rfl) ?_
            refine va_get (D := g.1) (ci := 2) (v := .int v.2.1) (C := "NodeMaker$Wall") (T := Fd_W) (N := 4) hx hb ht i_W hown hK.1 hP 0 rfl rfl 1 (by decide) (ht _ q_183) (fun _ h9 => h9) rfl dW_clashes_84 ?_
            have hPc := hP.sub (ws' := [(b, wE u)]) [1] rfl
            refine ro_Vi (v := sW_hasWithin u v.1 v.2.1) (As := [.int v.1, .int v.2.1]) (rest := []) ⟨hx, hb, hml, hown, ht⟩ (cW_hasWithin l g b u v.1 v.2.1) (cwV 2 ht (g_V q_225 q_226 q_227 q_40 q_228) rfl rfl rfl hd_W_hasWithin ⟨Nat.le_of_ble_eq_true rfl, Nat.le_of_ble_eq_true rfl⟩) hK (hPc) (va_recv hK.1 hPc (ci := 2) (q0 := 0) rfl rfl) rfl hl.1 rfl (Nat.le_of_ble_eq_true rfl) dW_clashes_87 ⟨by show 0 ≤ 0; omega, by show 0 ≤ 0; omega⟩ ?_
            refine lv_if_ne (tgt := 108) hx hb dW_clashes_90 (by decide) (fun c_34 => ?_) (fun c_34 => ?_)
            · skip
              refine lv_iconst (v := 1) hx hb dW_clashes_108 (by decide) ?_
              refine lv_goto (tgt := 113) hx hb dW_clashes_109 (by decide) ?_
              exact W.zret hx hb hr rfl (fun t ht9 hW => ⟨_, rfl, by rw [sW_clashes, if_neg c_19, if_pos c_30, if_pos c_31, if_pos c_32, if_pos c_33, if_neg c_34], ht9⟩) (fun q h => by cases h) dW_clashes_113
            · skip
              refine lv_aload_n hx hb dW_clashes_93 rfl (lv_at hl 1 rfl) ?_
              refine lv_aload_n hx hb dW_clashes_94 rfl (lv_at hl 0 rfl) ?_
              refine va_get (D := g.1) (ci := 2) (v := .int v.2.2.1) (C := "NodeMaker$Wall") (T := Fd_W) (N := 4) hx hb ht i_W hown hK.1 hP 0 rfl rfl 2 (by decide) (ht _ q_186) (fun _ h9 => h9) rfl dW_clashes_95 ?_
              refine lv_aload_n hx hb dW_clashes_98 rfl (lv_at hl 0 rfl) ?_
              refine va_get (D := g.1) (ci := 2) (v := .int v.2.2.2) (C := "NodeMaker$Wall") (T := Fd_W) (N := 4) hx hb ht i_W hown hK.1 hP 0 rfl rfl 3 (by decide) (ht _ q_189) (fun _ h9 => h9) rfl dW_clashes_99 ?_
              have hPc := hP.sub (ws' := [(b, wE u)]) [1] rfl
              refine ro_Vi (v := sW_hasWithin u v.2.2.1 v.2.2.2) (As := [.int v.2.2.1, .int v.2.2.2]) (rest := []) ⟨hx, hb, hml, hown, ht⟩ (cW_hasWithin l g b u v.2.2.1 v.2.2.2) (cwV 2 ht (g_V q_225 q_226 q_227 q_40 q_228) rfl rfl rfl hd_W_hasWithin ⟨Nat.le_of_ble_eq_true rfl, Nat.le_of_ble_eq_true rfl⟩) hK (hPc) (va_recv hK.1 hPc (ci := 2) (q0 := 0) rfl rfl) rfl hl.1 rfl (Nat.le_of_ble_eq_true rfl) dW_clashes_102 ⟨by show 0 ≤ 0; omega, by show 0 ≤ 0; omega⟩ ?_
              refine lv_if_eq (tgt := 112) hx hb dW_clashes_105 (by decide) (fun c_35 => ?_) (fun c_35 => ?_)
              · skip
                refine lv_iconst (v := 0) hx hb dW_clashes_112 (by decide) ?_
                exact W.zret hx hb hr rfl (fun t ht9 hW => ⟨_, rfl, by rw [sW_clashes, if_neg c_19, if_pos c_30, if_pos c_31, if_pos c_32, if_pos c_33, if_pos c_34, if_pos c_35], ht9⟩) (fun q h => by cases h) dW_clashes_113
              · skip
                refine lv_iconst (v := 1) hx hb dW_clashes_108 (by decide) ?_
                refine lv_goto (tgt := 113) hx hb dW_clashes_109 (by decide) ?_
                exact W.zret hx hb hr rfl (fun t ht9 hW => ⟨_, rfl, by rw [sW_clashes, if_neg c_19, if_pos c_30, if_pos c_31, if_pos c_32, if_pos c_33, if_pos c_34, if_neg c_35], ht9⟩) (fun q h => by cases h) dW_clashes_113
      · skip
        refine lv_aload_n hx hb dW_clashes_40 rfl (lv_at hl 1 rfl) ?_
        refine lv_aload_n hx hb dW_clashes_41 rfl (lv_at hl 0 rfl) ?_
        have hPc := hP.sub (ws' := [(b, wE u), (a, wE v)]) [1, 0] rfl
        refine ro_Vi (v := sW_parts u v) (As := [.ref a]) (rest := []) ⟨hx, hb, hml, hown, ht⟩ (cW_parts l g b u a v) (cwV 1 ht (g_V q_217 q_218 q_219 q_40 q_220) rfl rfl rfl hd_W_parts ⟨Nat.le_of_ble_eq_true rfl, Nat.le_of_ble_eq_true rfl⟩) hK (hPc) (va_recv hK.1 hPc (ci := 2) (q0 := 0) rfl rfl) rfl hl.1 rfl (Nat.le_of_ble_eq_true rfl) dW_clashes_42 ⟨by show 0 ≤ 0; omega, by show 0 ≤ 0; omega⟩ ?_
        refine lv_if_ne (tgt := 108) hx hb dW_clashes_45 (by decide) (fun c_36 => ?_) (fun c_36 => ?_)
        · skip
          refine lv_iconst (v := 1) hx hb dW_clashes_108 (by decide) ?_
          refine lv_goto (tgt := 113) hx hb dW_clashes_109 (by decide) ?_
          exact W.zret hx hb hr rfl (fun t ht9 hW => ⟨_, rfl, by rw [sW_clashes, if_neg c_19, if_pos c_30, if_neg c_31, if_neg c_36], ht9⟩) (fun q h => by cases h) dW_clashes_113
        · skip
          refine lv_aload_n hx hb dW_clashes_48 rfl (lv_at hl 0 rfl) ?_
          refine lv_aload_n hx hb dW_clashes_49 rfl (lv_at hl 1 rfl) ?_
          refine va_get (D := g.1) (ci := 2) (v := .int u.1) (C := "NodeMaker$Wall") (T := Fd_W) (N := 4) hx hb ht i_W hown hK.1 hP 1 rfl rfl 0 (by decide) (ht _ q_180) (fun _ h9 => h9) rfl dW_clashes_50 ?_
          refine lv_aload_n hx hb dW_clashes_53 rfl (lv_at hl 1 rfl) ?_
          refine va_get (D := g.1) (ci := 2) (v := .int u.2.1) (C := "NodeMaker$Wall") (T := Fd_W) (N := 4) hx hb ht i_W hown hK.1 hP 1 rfl rfl 1 (by decide) (ht _ q_183) (fun _ h9 => h9) rfl dW_clashes_54 ?_
          have hPc := hP.sub (ws' := [(a, wE v)]) [0] rfl
          refine ro_Vi (v := sW_hasWithin v u.1 u.2.1) (As := [.int u.1, .int u.2.1]) (rest := []) ⟨hx, hb, hml, hown, ht⟩ (cW_hasWithin l g a v u.1 u.2.1) (cwV 2 ht (g_V q_225 q_226 q_227 q_40 q_228) rfl rfl rfl hd_W_hasWithin ⟨Nat.le_of_ble_eq_true rfl, Nat.le_of_ble_eq_true rfl⟩) hK (hPc) (va_recv hK.1 hPc (ci := 2) (q0 := 0) rfl rfl) rfl hl.1 rfl (Nat.le_of_ble_eq_true rfl) dW_clashes_57 ⟨by show 0 ≤ 0; omega, by show 0 ≤ 0; omega⟩ ?_
          refine lv_if_ne (tgt := 108) hx hb dW_clashes_60 (by decide) (fun c_37 => ?_) (fun c_37 => ?_)
          · skip
            refine lv_iconst (v := 1) hx hb dW_clashes_108 (by decide) ?_
            refine lv_goto (tgt := 113) hx hb dW_clashes_109 (by decide) ?_
            exact W.zret hx hb hr rfl (fun t ht9 hW => ⟨_, rfl, by rw [sW_clashes, if_neg c_19, if_pos c_30, if_neg c_31, if_pos c_36, if_neg c_37], ht9⟩) (fun q h => by cases h) dW_clashes_113
          · skip
            refine lv_aload_n hx hb dW_clashes_63 rfl (lv_at hl 0 rfl) ?_
            refine lv_aload_n hx hb dW_clashes_64 rfl (lv_at hl 1 rfl) ?_
            refine va_get (D := g.1) (ci := 2) (v := .int u.2.2.1) (C := "NodeMaker$Wall") (T := Fd_W) (N := 4) hx hb ht i_W hown hK.1 hP 1 rfl rfl 2 (by decide) (ht _ q_186) (fun _ h9 => h9) rfl dW_clashes_65 ?_
            refine lv_aload_n hx hb dW_clashes_68 rfl (lv_at hl 1 rfl) ?_
            refine va_get (D := g.1) (ci := 2) (v := .int u.2.2.2) (C := "NodeMaker$Wall") (T := Fd_W) (N := 4) hx hb ht i_W hown hK.1 hP 1 rfl rfl 3 (by decide) (ht _ q_189) (fun _ h9 => h9) rfl dW_clashes_69 ?_
            have hPc := hP.sub (ws' := [(a, wE v)]) [0] rfl
            refine ro_Vi (v := sW_hasWithin v u.2.2.1 u.2.2.2) (As := [.int u.2.2.1, .int u.2.2.2]) (rest := []) ⟨hx, hb, hml, hown, ht⟩ (cW_hasWithin l g a v u.2.2.1 u.2.2.2) (cwV 2 ht (g_V q_225 q_226 q_227 q_40 q_228) rfl rfl rfl hd_W_hasWithin ⟨Nat.le_of_ble_eq_true rfl, Nat.le_of_ble_eq_true rfl⟩) hK (hPc) (va_recv hK.1 hPc (ci := 2) (q0 := 0) rfl rfl) rfl hl.1 rfl (Nat.le_of_ble_eq_true rfl) dW_clashes_72 ⟨by show 0 ≤ 0; omega, by show 0 ≤ 0; omega⟩ ?_
            refine lv_if_ne (tgt := 108) hx hb dW_clashes_75 (by decide) (fun c_38 => ?_) (fun c_38 => ?_)
            · skip
              refine lv_iconst (v := 1) hx hb dW_clashes_108 (by decide) ?_
              refine lv_goto (tgt := 113) hx hb dW_clashes_109 (by decide) ?_
              exact W.zret hx hb hr rfl (fun t ht9 hW => ⟨_, rfl, by rw [sW_clashes, if_neg c_19, if_pos c_30, if_neg c_31, if_pos c_36, if_pos c_37, if_neg c_38], ht9⟩) (fun q h => by cases h) dW_clashes_113
            · skip
              refine lv_aload_n hx hb dW_clashes_78 rfl (lv_at hl 1 rfl) ?_
              refine lv_aload_n hx hb dW_clashes_79 rfl (lv_at hl 0 rfl) ?_
              refine va_get (D := g.1) (ci := 2) (v := .int v.1) (C := "NodeMaker$Wall") (T := Fd_W) (N := 4) hx hb ht i_W hown hK.1 hP 0 rfl rfl 0 (by decide) (ht _ q_180) (fun _ h9 => h9) rfl dW_clashes_80 ?_
              refine lv_aload_n hx hb dW_clashes_83 rfl (lv_at hl 0 rfl) ?_
              refine va_get (D := g.1) (ci := 2) (v := .int v.2.1) (C := "NodeMaker$Wall") (T := Fd_W) (N := 4) hx hb ht i_W hown hK.1 hP 0 rfl rfl 1 (by decide) (ht _ q_183) (fun _ h9 => h9) rfl dW_clashes_84 ?_
              have hPc := hP.sub (ws' := [(b, wE u)]) [1] rfl
              refine ro_Vi (v := sW_hasWithin u v.1 v.2.1) (As := [.int v.1, .int v.2.1]) (rest := []) ⟨hx, hb, hml, hown, ht⟩ (cW_hasWithin l g b u v.1 v.2.1) (cwV 2 ht (g_V q_225 q_226 q_227 q_40 q_228) rfl rfl rfl hd_W_hasWithin ⟨Nat.le_of_ble_eq_true rfl, Nat.le_of_ble_eq_true rfl⟩) hK (hPc) (va_recv hK.1 hPc (ci := 2) (q0 := 0) rfl rfl) rfl hl.1 rfl (Nat.le_of_ble_eq_true rfl) dW_clashes_87 ⟨by show 0 ≤ 0; omega, by show 0 ≤ 0; omega⟩ ?_
              refine lv_if_ne (tgt := 108) hx hb dW_clashes_90 (by decide) (fun c_39 => ?_) (fun c_39 => ?_)
              · skip
                refine lv_iconst (v := 1) hx hb dW_clashes_108 (by decide) ?_
                refine lv_goto (tgt := 113) hx hb dW_clashes_109 (by decide) ?_
                exact W.zret hx hb hr rfl (fun t ht9 hW => ⟨_, rfl, by rw [sW_clashes, if_neg c_19, if_pos c_30, if_neg c_31, if_pos c_36, if_pos c_37, if_pos c_38, if_neg c_39], ht9⟩) (fun q h => by cases h) dW_clashes_113
              · skip
                refine lv_aload_n hx hb dW_clashes_93 rfl (lv_at hl 1 rfl) ?_
                refine lv_aload_n hx hb dW_clashes_94 rfl (lv_at hl 0 rfl) ?_
                refine va_get (D := g.1) (ci := 2) (v := .int v.2.2.1) (C := "NodeMaker$Wall") (T := Fd_W) (N := 4) hx hb ht i_W hown hK.1 hP 0 rfl rfl 2 (by decide) (ht _ q_186) (fun _ h9 => h9) rfl dW_clashes_95 ?_
                refine lv_aload_n hx hb dW_clashes_98 rfl (lv_at hl 0 rfl) ?_
                refine va_get (D := g.1) (ci := 2) (v := .int v.2.2.2) (C := "NodeMaker$Wall") (T := Fd_W) (N := 4) hx hb ht i_W hown hK.1 hP 0 rfl rfl 3 (by decide) (ht _ q_189) (fun _ h9 => h9) rfl dW_clashes_99 ?_
                have hPc := hP.sub (ws' := [(b, wE u)]) [1] rfl
                refine ro_Vi (v := sW_hasWithin u v.2.2.1 v.2.2.2) (As := [.int v.2.2.1, .int v.2.2.2]) (rest := []) ⟨hx, hb, hml, hown, ht⟩ (cW_hasWithin l g b u v.2.2.1 v.2.2.2) (cwV 2 ht (g_V q_225 q_226 q_227 q_40 q_228) rfl rfl rfl hd_W_hasWithin ⟨Nat.le_of_ble_eq_true rfl, Nat.le_of_ble_eq_true rfl⟩) hK (hPc) (va_recv hK.1 hPc (ci := 2) (q0 := 0) rfl rfl) rfl hl.1 rfl (Nat.le_of_ble_eq_true rfl) dW_clashes_102 ⟨by show 0 ≤ 0; omega, by show 0 ≤ 0; omega⟩ ?_
                refine lv_if_eq (tgt := 112) hx hb dW_clashes_105 (by decide) (fun c_40 => ?_) (fun c_40 => ?_)
                · skip
                  refine lv_iconst (v := 0) hx hb dW_clashes_112 (by decide) ?_
                  exact W.zret hx hb hr rfl (fun t ht9 hW => ⟨_, rfl, by rw [sW_clashes, if_neg c_19, if_pos c_30, if_neg c_31, if_pos c_36, if_pos c_37, if_pos c_38, if_pos c_39, if_pos c_40], ht9⟩) (fun q h => by cases h) dW_clashes_113
                · skip
                  refine lv_iconst (v := 1) hx hb dW_clashes_108 (by decide) ?_
                  refine lv_goto (tgt := 113) hx hb dW_clashes_109 (by decide) ?_
                  exact W.zret hx hb hr rfl (fun t ht9 hW => ⟨_, rfl, by rw [sW_clashes, if_neg c_19, if_pos c_30, if_neg c_31, if_pos c_36, if_pos c_37, if_pos c_38, if_pos c_39, if_neg c_40], ht9⟩) (fun q h => by cases h) dW_clashes_113
    · skip
      refine lv_iconst (v := 1) hx hb dW_clashes_30 (by decide) ?_
      exact W.zret hx hb hr rfl (fun t ht9 hW => ⟨_, rfl, by rw [sW_clashes, if_neg c_19, if_neg c_30], ht9⟩) (fun q h => by cases h) dW_clashes_31
set_option maxHeartbeats 4000000 in
set_option maxRecDepth 100000 in
theorem cW_init (l : Launch) (g : CX) (sz : Nat) (a : Nat) (x0 y0 x1 y1 : Int32) : Met l yW_init (wm yW_init kW_init 5 none) ({ frames := 1, cells := 0, slots := 0, locals := 12 }) (rw g [.ref a, .int x0, .int y0, .int x1, .int y1] [(a, .inr (2, [.int 0, .int 0, .int 0, .int 0]))] sz) (va_Qv (fun (_u : Unit) => True) (rB g (va_A [(a, .inr (2, [.int 0, .int 0, .int 0, .int 0]))] sz) (fun _u => [(a, wE (x0, y0, x1, y1))])) (va_A [(a, .inr (2, [.int 0, .int 0, .int 0, .int 0]))] sz)) 0 0 (va_A [(a, .inr (2, [.int 0, .int 0, .int 0, .int 0]))] sz) := by
  refine Met.ofW (cc := kW_init) (maxL := 5) (ret := none) (by decide) rfl ?_
  intro p e s m args below meth c s₁ B hml hv
  obtain ⟨rfl, hsz, hK, hP, hD0⟩ := hv
  have hx := B.exec
  have hb := B.bytes
  have hr := B.returns
  have ht : ∀ w ∈ wT, w.before _ s = true := fun w h => atoms_spec (ws := wm yW_init kW_init 5 none) B.pre w (List.mem_cons_of_mem _ h)
  have hown : s.vm.findClass "NodeMaker$Wall" = some m.cls := findClass_of_methodNamed B.named
  have hlocks := B.notSynchronized
  have hin : meth.name = "<init>" := (name_of_methodNamed B.named B.method).1
  subst hsz
  have hD := hD0.self (sz := s.heap.size)
  generalize hAe : va_A [(a, .inr (2, [.int 0, .int 0, .int 0, .int 0]))] s.heap.size = A at hD ⊢
  have hA : ∀ q : Nat, s.heap.size ≤ q → A q := fun q h => by rw [← hAe]; exact Or.inr h
  have hS : va_S A s.heap s.heap [] := va_S.rf
  have hl := lv_entry ([.ref a, .int x0, .int y0, .int x1, .int y1]) (n := 5) (Nat.le_of_ble_eq_true rfl)
  rw [lg_entry_eq]
  generalize (lg_sl ([.ref a, .int x0, .int y0, .int x1, .int y1]) ++ List.replicate (5 - (lg_sl ([.ref a, .int x0, .int y0, .int x1, .int y1])).length) Slot.unset).toArray = ls at hl ⊢
  have hl : lv_has ls 5 [(0, .ref a), (1, .int x0), (2, .int y0), (3, .int x1), (4, .int y1)] := hl
  refine lv_aload_n hx hb dW_init_0 rfl (lv_at hl 0 rfl) ?_
  refine W.objInit hx hb hown (ht _ q_179) (ht _ q_50) (ht _ q_51) rfl (by rw [hml]; exact hl.1) rfl dW_init_1 (Nat.le_of_ble_eq_true rfl) (Nat.le_of_ble_eq_true rfl) ?_
  refine W.eq (g2 := F0 m 4 ls []) rfl ?_
  refine lv_aload_n hx hb dW_init_4 rfl (lv_at hl 0 rfl) ?_
  refine lv_iload_n hx hb dW_init_5 rfl (lv_at hl 1 rfl) ?_
  refine va_putF (D := g.1) (ci := 2) (v := .int x0) (ty := .int) (C := "NodeMaker$Wall") (T := Fd_W) (N := 4) hx hb ht i_W ty_W ty_W_ok nm_W hown hK.1 hP hD hS 0 rfl rfl 0 (by decide) (ht _ q_180) (fun _ h9 => h9) rfl hin rfl (by decide +kernel) rfl rfl (Nat.le_of_ble_eq_true rfl) dW_init_6 (fun H locs hP hD hS => ?_)
  have hP : va_P g.1 vwCl [(a, .inr (2, [.int x0, .int 0, .int 0, .int 0]))] H := hP
  have hD : va_D A [(a, .inr (2, [.int x0, .int 0, .int 0, .int 0]))] := hD
  refine lv_aload_n hx hb dW_init_9 rfl (lv_at hl 0 rfl) ?_
  refine lv_iload_n hx hb dW_init_10 rfl (lv_at hl 2 rfl) ?_
  refine va_putF (D := g.1) (ci := 2) (v := .int y0) (ty := .int) (C := "NodeMaker$Wall") (T := Fd_W) (N := 4) hx hb ht i_W ty_W ty_W_ok nm_W hown hK.1 hP hD hS 0 rfl rfl 1 (by decide) (ht _ q_183) (fun _ h9 => h9) rfl hin rfl (by decide +kernel) rfl rfl (Nat.le_of_ble_eq_true rfl) dW_init_11 (fun H locs hP hD hS => ?_)
  have hP : va_P g.1 vwCl [(a, .inr (2, [.int x0, .int y0, .int 0, .int 0]))] H := hP
  have hD : va_D A [(a, .inr (2, [.int x0, .int y0, .int 0, .int 0]))] := hD
  refine lv_aload_n hx hb dW_init_14 rfl (lv_at hl 0 rfl) ?_
  refine lv_iload_n hx hb dW_init_15 rfl (lv_at hl 3 rfl) ?_
  refine va_putF (D := g.1) (ci := 2) (v := .int x1) (ty := .int) (C := "NodeMaker$Wall") (T := Fd_W) (N := 4) hx hb ht i_W ty_W ty_W_ok nm_W hown hK.1 hP hD hS 0 rfl rfl 2 (by decide) (ht _ q_186) (fun _ h9 => h9) rfl hin rfl (by decide +kernel) rfl rfl (Nat.le_of_ble_eq_true rfl) dW_init_16 (fun H locs hP hD hS => ?_)
  have hP : va_P g.1 vwCl [(a, .inr (2, [.int x0, .int y0, .int x1, .int 0]))] H := hP
  have hD : va_D A [(a, .inr (2, [.int x0, .int y0, .int x1, .int 0]))] := hD
  refine lv_aload_n hx hb dW_init_19 rfl (lv_at hl 0 rfl) ?_
  refine lv_iload hx hb dW_init_20 (lv_at hl 4 rfl) ?_
  refine va_putF (D := g.1) (ci := 2) (v := .int y1) (ty := .int) (C := "NodeMaker$Wall") (T := Fd_W) (N := 4) hx hb ht i_W ty_W ty_W_ok nm_W hown hK.1 hP hD hS 0 rfl rfl 3 (by decide) (ht _ q_189) (fun _ h9 => h9) rfl hin rfl (by decide +kernel) rfl rfl (Nat.le_of_ble_eq_true rfl) dW_init_22 (fun H locs hP hD hS => ?_)
  have hP : va_P g.1 vwCl [(a, .inr (2, [.int x0, .int y0, .int x1, .int y1]))] H := hP
  have hD : va_D A [(a, .inr (2, [.int x0, .int y0, .int x1, .int y1]))] := hD
  exact W.vret hx hb hr (fun t ht9 hW => ⟨⟨(), rfl, trivial, by rw [ht9]; exact hP, hD⟩, hS.F ht9⟩) hS.2.2 dW_init_25
