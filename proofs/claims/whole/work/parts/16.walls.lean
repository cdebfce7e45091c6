theorem hd_S_init : yS_init.cls ≠ "java/lang/invoke/MethodHandle" ∧ yS_init.cls ≠ "java/lang/invoke/VarHandle" ∧ (parseMethodDescriptor yS_init.desc).map (fun d => d.parameters.length) = some 0 := by decide +kernel
theorem hd_S_count : yS_count.cls = "NodeMaker$Walls" ∧ yS_count.cls ≠ "java/lang/invoke/MethodHandle" ∧ yS_count.cls ≠ "java/lang/invoke/VarHandle" ∧ (parseMethodDescriptor yS_count.desc).map (fun d => d.parameters.length) = some 0 := by decide +kernel
theorem hd_S_at : yS_at.cls = "NodeMaker$Walls" ∧ yS_at.cls ≠ "java/lang/invoke/MethodHandle" ∧ yS_at.cls ≠ "java/lang/invoke/VarHandle" ∧ (parseMethodDescriptor yS_at.desc).map (fun d => d.parameters.length) = some 1 := by decide +kernel
theorem hd_S_add : yS_add.cls = "NodeMaker$Walls" ∧ yS_add.cls ≠ "java/lang/invoke/MethodHandle" ∧ yS_add.cls ≠ "java/lang/invoke/VarHandle" ∧ (parseMethodDescriptor yS_add.desc).map (fun d => d.parameters.length) = some 1 := by decide +kernel
theorem hd_S_drop : yS_drop.cls = "NodeMaker$Walls" ∧ yS_drop.cls ≠ "java/lang/invoke/MethodHandle" ∧ yS_drop.cls ≠ "java/lang/invoke/VarHandle" ∧ (parseMethodDescriptor yS_drop.desc).map (fun d => d.parameters.length) = some 1 := by decide +kernel
theorem hd_S_dropAll : yS_dropAll.cls = "NodeMaker$Walls" ∧ yS_dropAll.cls ≠ "java/lang/invoke/MethodHandle" ∧ yS_dropAll.cls ≠ "java/lang/invoke/VarHandle" ∧ (parseMethodDescriptor yS_dropAll.desc).map (fun d => d.parameters.length) = some 0 := by decide +kernel
set_option maxHeartbeats 4000000 in
set_option maxRecDepth 100000 in
theorem cS_count (l : Launch) (g : CX) (a q : Nat) (sl : Nat → Option Nat) (cnt : Int32) (LW : List Nat) (wv : Nat → WV) : Met l yS_count (wm yS_count kS_count 1 (some .int)) ({ frames := 0, cells := 0, slots := 0, locals := 0 }) (ro g [.ref a] (va_P g.1 vwCl (wsX g a q sl cnt ++ plW LW wv))) (vp_Si (fun r => r = cnt)) 0 0 (fun _ => False) := by
  refine Met.ofW (cc := kS_count) (maxL := 1) (ret := (some .int)) (by decide) rfl ?_
  intro p e s m args below meth c s₁ B hml hv
  obtain ⟨rfl, hK, hP⟩ := hv
  have hx := B.exec
  have hb := B.bytes
  have hr := B.returns
  have ht : ∀ w ∈ wT, w.before _ s = true := fun w h => atoms_spec (ws := wm yS_count kS_count 1 (some .int)) B.pre w (List.mem_cons_of_mem _ h)
  have hown : s.vm.findClass "NodeMaker$Walls" = some m.cls := findClass_of_methodNamed B.named
  have hlocks := B.notSynchronized
  have hl := lv_entry ([.ref a]) (n := 1) (Nat.le_of_ble_eq_true rfl)
  rw [lg_entry_eq]
  generalize (lg_sl ([.ref a]) ++ List.replicate (1 - (lg_sl ([.ref a])).length) Slot.unset).toArray = ls at hl ⊢
  have hl : lv_has ls 1 [(0, .ref a)] := hl
  refine lv_aload_n hx hb dS_count_0 rfl (lv_at hl 0 rfl) ?_
  refine va_get (D := g.1) (ci := 3) (v := .int cnt) (C := "NodeMaker$Walls") (T := Fd_S) (N := 2) hx hb ht i_S hown hK.1 hP 0 rfl rfl 1 (by decide) (ht _ q_67) (fun _ h9 => h9) rfl dS_count_1 ?_
  exact W.iret hx hb hr (fun t ht9 hW => ⟨_, rfl, rfl, ht9⟩) (fun q h => by cases h) dS_count_4
set_option maxHeartbeats 4000000 in
set_option maxRecDepth 100000 in
theorem cS_at (l : Launch) (g : CX) (a q : Nat) (sl : Nat → Option Nat) (cnt : Int32) (LW : List Nat) (wv : Nat → WV) (hsl : slOK sl LW) (i : Int32) : Met l yS_at (wm yS_at kS_at 2 (some (.object "NodeMaker$Wall"))) ({ frames := 0, cells := 0, slots := 0, locals := 0 }) (ro g [.ref a, .int i] (va_P g.1 vwCl (wsX g a q sl cnt ++ plW LW wv))) (va_Sq (fun r => r.map wv = wAt (wOf sl wv) i ∧ ∀ x, r = some x → x ∈ LW)) 0 0 (fun _ => False) := by
  refine Met.ofW (cc := kS_at) (maxL := 2) (ret := (some (.object "NodeMaker$Wall"))) (by decide) rfl ?_
  intro p e s m args below meth c s₁ B hml hv
  obtain ⟨rfl, hK, hP⟩ := hv
  have hx := B.exec
  have hb := B.bytes
  have hr := B.returns
  have ht : ∀ w ∈ wT, w.before _ s = true := fun w h => atoms_spec (ws := wm yS_at kS_at 2 (some (.object "NodeMaker$Wall"))) B.pre w (List.mem_cons_of_mem _ h)
  have hown : s.vm.findClass "NodeMaker$Walls" = some m.cls := findClass_of_methodNamed B.named
  have hlocks := B.notSynchronized
  have hl := lv_entry ([.ref a, .int i]) (n := 2) (Nat.le_of_ble_eq_true rfl)
  rw [lg_entry_eq]
  generalize (lg_sl ([.ref a, .int i]) ++ List.replicate (2 - (lg_sl ([.ref a, .int i])).length) Slot.unset).toArray = ls at hl ⊢
  have hl : lv_has ls 2 [(0, .ref a), (1, .int i)] := hl
  refine lv_iload_n hx hb dS_at_0 rfl (lv_at hl 1 rfl) ?_
  refine lv_if_lt (tgt := 19) hx hb dS_at_1 (by decide) (fun c_1 => ?_) (fun c_1 => ?_)
  · skip
    refine lv_null hx hb dS_at_19 ?_
    exact W.aret hx hb hr (Or.inl ⟨_, rfl⟩) (Or.inl rfl) (fun t ht9 hW => ⟨none, rfl, ⟨by rw [wAt, if_pos c_1]; rfl, fun x h => by cases h⟩, ht9⟩) (fun q h => by cases h) dS_at_20
  · skip
    refine lv_iload_n hx hb dS_at_4 rfl (lv_at hl 1 rfl) ?_
    refine lv_bipush (v := 64) hx hb dS_at_5 (by decide) ?_
    refine lv_icmp_ge (tgt := 19) hx hb dS_at_7 (by decide) (fun c_2 => ?_) (fun c_2 => ?_)
    · skip
      refine lv_null hx hb dS_at_19 ?_
      exact W.aret hx hb hr (Or.inl ⟨_, rfl⟩) (Or.inl rfl) (fun t ht9 hW => ⟨none, rfl, ⟨by rw [wAt, if_neg c_1, if_pos c_2]; rfl, fun x h => by cases h⟩, ht9⟩) (fun q h => by cases h) dS_at_20
    · skip
      refine lv_aload_n hx hb dS_at_10 rfl (lv_at hl 0 rfl) ?_
      refine va_get (D := g.1) (ci := 3) (v := .ref q) (C := "NodeMaker$Walls") (T := Fd_S) (N := 2) hx hb ht i_S hown hK.1 hP 0 rfl rfl 0 (by decide) (ht _ q_66) (fun _ h9 => h9) rfl dS_at_11 ?_
      refine lv_iload_n hx hb dS_at_14 rfl (lv_at hl 1 rfl) ?_
      refine va_aldq hx hb hK.1 hP 1 1 rfl rfl (in64 c_1 c_2) dS_at_15 ?_
      refine lv_goto (tgt := 20) hx hb dS_at_16 (by decide) ?_
      exact W.aret hx hb hr (Or.inl ⟨_, rfl⟩) (va_rf_ok _) (fun t ht9 hW => ⟨sl i.toNatClampNeg, rfl, ⟨by rw [wAt, if_neg c_1, if_neg c_2], fun x h => hsl _ x h⟩, ht9⟩) (fun q h => by cases h) dS_at_20
/-- the slots without a number; how many are left -/
def slDrop (Wl : Nat → Option WV) (sl : Nat → Option Nat) (i : Int32) : Nat → Option Nat := if wAt Wl i = none then sl else va_up sl i.toNatClampNeg none
theorem slDrop_ok {Wl : Nat → Option WV} {sl : Nat → Option Nat} {i : Int32} {LW : List Nat} (h : slOK sl LW) : slOK (slDrop Wl sl i) LW := by
  unfold slDrop
  split
  · exact h
  · intro j x hx
    unfold va_up at hx
    split at hx
    · cases hx
    · exact h j x hx
theorem wAt_in {Wl : Nat → Option WV} {i : Int32} (h : ¬ wAt Wl i = none) : vp_in i 64 := by
  unfold wAt at h
  split at h
  · exact absurd rfl h
  split at h
  · exact absurd rfl h
  · exact in64 (by assumption) (by assumption)
set_option maxHeartbeats 4000000 in
set_option maxRecDepth 100000 in
theorem cS_drop (l : Launch) (g : CX) (sz : Nat) (a q : Nat) (sl : Nat → Option Nat) (cnt : Int32) (LW : List Nat) (wv : Nat → WV) (hsl : slOK sl LW) (i : Int32) : Met l yS_drop (wm yS_drop kS_drop 2 (some .boolean)) ({ frames := 1, cells := 0, slots := 0, locals := 21 }) (rw g [.ref a, .int i] (wsX g a q sl cnt ++ plW LW wv) sz) (va_Qi (fun (r : Int32) (_u : Unit) => r = if wAt (wOf sl wv) i = none then 0 else 1) (rB g (va_A (wsX g a q sl cnt ++ plW LW wv) sz) (fun _u => (wsX g a q (slDrop (wOf sl wv) sl i) (if wAt (wOf sl wv) i = none then cnt else cnt - 1) ++ plW LW wv))) (va_A (wsX g a q sl cnt ++ plW LW wv) sz)) 0 0 (va_A (wsX g a q sl cnt ++ plW LW wv) sz) := by
  refine Met.ofW (cc := kS_drop) (maxL := 2) (ret := (some .boolean)) (by decide) rfl ?_
  intro p e s m args below meth c s₁ B hml hv
  obtain ⟨rfl, hsz, hK, hP, hD0⟩ := hv
  have hx := B.exec
  have hb := B.bytes
  have hr := B.returns
  have ht : ∀ w ∈ wT, w.before _ s = true := fun w h => atoms_spec (ws := wm yS_drop kS_drop 2 (some .boolean)) B.pre w (List.mem_cons_of_mem _ h)
  have hown : s.vm.findClass "NodeMaker$Walls" = some m.cls := findClass_of_methodNamed B.named
  have hlocks := B.notSynchronized
  subst hsz
  have hD := hD0.self (sz := s.heap.size)
  generalize hAe : va_A (wsX g a q sl cnt ++ plW LW wv) s.heap.size = A at hD ⊢
  have hA : ∀ q : Nat, s.heap.size ≤ q → A q := fun q h => by rw [← hAe]; exact Or.inr h
  have hS : va_S A s.heap s.heap [] := va_S.rf
  have hl := lv_entry ([.ref a, .int i]) (n := 2) (Nat.le_of_ble_eq_true rfl)
  rw [lg_entry_eq]
  generalize (lg_sl ([.ref a, .int i]) ++ List.replicate (2 - (lg_sl ([.ref a, .int i])).length) Slot.unset).toArray = ls at hl ⊢
  have hl : lv_has ls 2 [(0, .ref a), (1, .int i)] := hl
  refine lv_aload_n hx hb dS_drop_0 rfl (lv_at hl 0 rfl) ?_
  refine lv_iload_n hx hb dS_drop_1 rfl (lv_at hl 1 rfl) ?_
  refine ro_Vq (As := [.int i]) (rest := []) ⟨hx, hb, hml, hown, ht⟩ (cS_at l g a q sl cnt LW wv hsl i) (cwV 1 ht (g_V q_247 q_248 q_249 q_36 q_250) rfl rfl rfl hd_S_at ⟨Nat.le_of_ble_eq_true rfl, Nat.le_of_ble_eq_true rfl⟩) hK hP (va_recv hK.1 hP (ci := 3) (q0 := 0) rfl rfl) rfl hl.1 rfl (Nat.le_of_ble_eq_true rfl) dS_drop_2 ⟨by show 0 ≤ 0; omega, by show 0 ≤ 0; omega⟩ (fun hq => ?_) (fun x_3 hq => ?_)
  · skip
    have hw : wAt (wOf sl wv) i = none := hq.1.symm
    refine lv_ifnonnullN hx hb dS_drop_5 ?_
    refine lv_iconst (v := 0) hx hb dS_drop_8 (by decide) ?_
    have hn := hw
    have hP9 : va_P g.1 vwCl (wsX g a q (slDrop (wOf sl wv) sl i) (if wAt (wOf sl wv) i = none then cnt else cnt - 1) ++ plW LW wv) s.heap := by rw [slDrop, if_pos hn, if_pos hn]; exact hP
    have hD9 : va_D A (wsX g a q (slDrop (wOf sl wv) sl i) (if wAt (wOf sl wv) i = none then cnt else cnt - 1) ++ plW LW wv) := by rw [slDrop, if_pos hn, if_pos hn]; exact hD
    exact W.zret hx hb hr rfl (fun t ht9 hW => ⟨⟨_, (), rfl, by rw [if_pos hn], by rw [ht9]; exact hP9, hD9⟩, hS.F ht9⟩) hS.2.2 dS_drop_9
  · skip
    have hw : wAt (wOf sl wv) i = some (wv x_3) := hq.1.symm
    refine lv_ifnonnull (tgt := 10) hx hb dS_drop_5 (by decide) ?_
    refine lv_aload_n hx hb dS_drop_10 rfl (lv_at hl 0 rfl) ?_
    refine va_get (D := g.1) (ci := 3) (v := .ref q) (C := "NodeMaker$Walls") (T := Fd_S) (N := 2) hx hb ht i_S hown hK.1 hP 0 rfl rfl 0 (by decide) (ht _ q_66) (fun _ h9 => h9) rfl dS_drop_11 ?_
    refine lv_iload_n hx hb dS_drop_14 rfl (lv_at hl 1 rfl) ?_
    refine lv_null hx hb dS_drop_15 ?_
    refine va_astqN hx hb hK.1 hP hD hS 1 1 rfl rfl (wAt_in (by rw [hw]; exact fun h => by cases h)) dS_drop_16 (fun H locs hP hD hS => ?_)
    have hP : va_P g.1 vwCl ([(a, .inr (3, [.ref q, .int cnt])), (q, .inl (g.2 1, 64, .inr (.inr (.inr (.inr (va_up sl i.toNatClampNeg none))))))] ++ plW LW wv) H := hP
    have hD : va_D A ([(a, .inr (3, [.ref q, .int cnt])), (q, .inl (g.2 1, 64, .inr (.inr (.inr (.inr (va_up sl i.toNatClampNeg none))))))] ++ plW LW wv) := hD
    refine lv_aload_n hx hb dS_drop_17 rfl (lv_at hl 0 rfl) ?_
    refine lv_dup hx hb dS_drop_18 rfl ?_
    refine va_get (D := g.1) (ci := 3) (v := .int cnt) (C := "NodeMaker$Walls") (T := Fd_S) (N := 2) hx hb ht i_S hown hK.1 hP 0 rfl rfl 1 (by decide) (ht _ q_67) (fun _ h9 => h9) rfl dS_drop_19 ?_
    refine lv_iconst (v := 1) hx hb dS_drop_22 (by decide) ?_
    refine lv_isub hx hb dS_drop_23 ?_
    refine va_put (D := g.1) (ci := 3) (v := .int (cnt - 1)) (ty := .int) (C := "NodeMaker$Walls") (T := Fd_S) (N := 2) hx hb ht i_S ty_S ty_S_ok nm_S hown hK.1 hP hD hS 0 rfl rfl 1 (by decide) (ht _ q_67) (fun _ h9 => h9) rfl (by decide +kernel) rfl rfl (Nat.le_of_ble_eq_true rfl) dS_drop_24 (fun H locs hP hD hS => ?_)
    have hP : va_P g.1 vwCl ([(a, .inr (3, [.ref q, .int (cnt - 1)])), (q, .inl (g.2 1, 64, .inr (.inr (.inr (.inr (va_up sl i.toNatClampNeg none))))))] ++ plW LW wv) H := hP
    have hD : va_D A ([(a, .inr (3, [.ref q, .int (cnt - 1)])), (q, .inl (g.2 1, 64, .inr (.inr (.inr (.inr (va_up sl i.toNatClampNeg none))))))] ++ plW LW wv) := hD
    refine lv_iconst (v := 1) hx hb dS_drop_27 (by decide) ?_
    have hn : ¬ wAt (wOf sl wv) i = none := by rw [hw]; exact fun h => by cases h
    have hP9 : va_P g.1 vwCl (wsX g a q (slDrop (wOf sl wv) sl i) (if wAt (wOf sl wv) i = none then cnt else cnt - 1) ++ plW LW wv) H := by rw [slDrop, if_neg hn, if_neg hn]; exact hP
    have hD9 : va_D A (wsX g a q (slDrop (wOf sl wv) sl i) (if wAt (wOf sl wv) i = none then cnt else cnt - 1) ++ plW LW wv) := by rw [slDrop, if_neg hn, if_neg hn]; exact hD
    exact W.zret hx hb hr rfl (fun t ht9 hW => ⟨⟨_, (), rfl, by rw [if_neg hn], by rw [ht9]; exact hP9, hD9⟩, hS.F ht9⟩) hS.2.2 dS_drop_28
set_option maxHeartbeats 4000000 in
set_option maxRecDepth 100000 in
theorem cS_init (l : Launch) (g : CX) (sz : Nat) (a : Nat) : Met l yS_init (wm yS_init kS_init 1 none) ({ frames := 1, cells := 1, slots := 64, locals := 12 }) (rw g [.ref a] [(a, .inr (3, [.null, .int 0]))] sz) (va_Qv (fun (u : Nat) => True) (rB g (va_A [(a, .inr (3, [.null, .int 0]))] sz) (fun u => (wsX g a u (fun _ => none) 0))) (va_A [(a, .inr (3, [.null, .int 0]))] sz)) 1 64 (va_A [(a, .inr (3, [.null, .int 0]))] sz) := by
  refine Met.ofW (cc := kS_init) (maxL := 1) (ret := none) (by decide) rfl ?_
  intro p e s m args below meth c s₁ B hml hv
  obtain ⟨rfl, hsz, hK, hP, hD0⟩ := hv
  have hx := B.exec
  have hb := B.bytes
  have hr := B.returns
  have ht : ∀ w ∈ wT, w.before _ s = true := fun w h => atoms_spec (ws := wm yS_init kS_init 1 none) B.pre w (List.mem_cons_of_mem _ h)
  have hown : s.vm.findClass "NodeMaker$Walls" = some m.cls := findClass_of_methodNamed B.named
  have hlocks := B.notSynchronized
  have hin : meth.name = "<init>" := (name_of_methodNamed B.named B.method).1
  subst hsz
  have hD := hD0.self (sz := s.heap.size)
  generalize hAe : va_A [(a, .inr (3, [.null, .int 0]))] s.heap.size = A at hD ⊢
  have hA : ∀ q : Nat, s.heap.size ≤ q → A q := fun q h => by rw [← hAe]; exact Or.inr h
  have hS : va_S A s.heap s.heap [] := va_S.rf
  have hl := lv_entry ([.ref a]) (n := 1) (Nat.le_of_ble_eq_true rfl)
  rw [lg_entry_eq]
  generalize (lg_sl ([.ref a]) ++ List.replicate (1 - (lg_sl ([.ref a])).length) Slot.unset).toArray = ls at hl ⊢
  have hl : lv_has ls 1 [(0, .ref a)] := hl
  refine lv_aload_n hx hb dS_init_0 rfl (lv_at hl 0 rfl) ?_
  refine W.objInit hx hb hown (ht _ q_63) (ht _ q_50) (ht _ q_51) rfl (by rw [hml]; exact hl.1) rfl dS_init_1 (Nat.le_of_ble_eq_true rfl) (Nat.le_of_ble_eq_true rfl) ?_
  refine W.eq (g2 := F0 m 4 ls []) rfl ?_
  refine lv_aload_n hx hb dS_init_4 rfl (lv_at hl 0 rfl) ?_
  refine lv_bipush (v := 64) hx hb dS_init_5 (by decide) ?_
  refine xa_newq hx hb hown (ht _ q_64) hK hP hD hS hA (N' := 64) rfl (by decide) (by show 0 + 1 ≤ 1; omega) (by show 0 + 64 ≤ 64; omega) dS_init_7 (fun q_4 H hP hD hS => ?_)
  have hP : va_P g.1 vwCl [(a, .inr (3, [.null, .int 0])), (q_4, .inl (g.2 1, 64, .inr (.inr (.inr (.inr (fun _ => none))))))] H := hP
  have hD : va_D A [(a, .inr (3, [.null, .int 0])), (q_4, .inl (g.2 1, 64, .inr (.inr (.inr (.inr (fun _ => none))))))] := hD
  refine va_putF (D := g.1) (ci := 3) (v := .ref q_4) (ty := (.array (.object "NodeMaker$Wall"))) (C := "NodeMaker$Walls") (T := Fd_S) (N := 2) hx hb ht i_S ty_S ty_S_ok nm_S hown hK.1 hP hD hS 0 rfl rfl 0 (by decide) (ht _ q_66) (fun _ h9 => h9) rfl hin rfl (by decide +kernel) rfl rfl (Nat.le_of_ble_eq_true rfl) dS_init_10 (fun H locs hP hD hS => ?_)
  have hP : va_P g.1 vwCl [(a, .inr (3, [.ref q_4, .int 0])), (q_4, .inl (g.2 1, 64, .inr (.inr (.inr (.inr (fun _ => none))))))] H := hP
  have hD : va_D A [(a, .inr (3, [.ref q_4, .int 0])), (q_4, .inl (g.2 1, 64, .inr (.inr (.inr (.inr (fun _ => none))))))] := hD
  exact W.vret hx hb hr (fun t ht9 hW => ⟨⟨q_4, rfl, trivial, by rw [ht9]; exact hP, hD⟩, hS.F ht9⟩) hS.2.2 dS_init_13
set_option maxHeartbeats 4000000 in
set_option maxRecDepth 100000 in
theorem cS_dropAll (l : Launch) (g : CX) (sz : Nat) (a q : Nat) (sl : Nat → Option Nat) (cnt : Int32) (LW : List Nat) (wv : Nat → WV) : Met l yS_dropAll (wm yS_dropAll kS_dropAll 2 none) ({ frames := 0, cells := 0, slots := 0, locals := 0 }) (rw g [.ref a] (wsX g a q sl cnt ++ plW LW wv) sz) (va_Qv (fun (u : Nat → Option Nat) => ∀ j, j < 64 → u j = none) (rB g (va_A (wsX g a q sl cnt ++ plW LW wv) sz) (fun u => (wsX g a q u 0 ++ plW LW wv))) (va_A (wsX g a q sl cnt ++ plW LW wv) sz)) 0 0 (va_A (wsX g a q sl cnt ++ plW LW wv) sz) := by
  refine Met.ofW (cc := kS_dropAll) (maxL := 2) (ret := none) (by decide) rfl ?_
  intro p e s m args below meth c s₁ B hml hv
  obtain ⟨rfl, hsz, hK, hP, hD0⟩ := hv
  have hx := B.exec
  have hb := B.bytes
  have hr := B.returns
  have ht : ∀ w ∈ wT, w.before _ s = true := fun w h => atoms_spec (ws := wm yS_dropAll kS_dropAll 2 none) B.pre w (List.mem_cons_of_mem _ h)
  have hown : s.vm.findClass "NodeMaker$Walls" = some m.cls := findClass_of_methodNamed B.named
  have hlocks := B.notSynchronized
  subst hsz
  have hD := hD0.self (sz := s.heap.size)
  generalize hAe : va_A (wsX g a q sl cnt ++ plW LW wv) s.heap.size = A at hD ⊢
  have hA : ∀ q : Nat, s.heap.size ≤ q → A q := fun q h => by rw [← hAe]; exact Or.inr h
  have hS : va_S A s.heap s.heap [] := va_S.rf
  have hl := lv_entry ([.ref a]) (n := 2) (Nat.le_of_ble_eq_true rfl)
  rw [lg_entry_eq]
  generalize (lg_sl ([.ref a]) ++ List.replicate (2 - (lg_sl ([.ref a])).length) Slot.unset).toArray = ls at hl ⊢
  have hl : lv_has ls 2 [(0, .ref a)] := hl
  refine lv_iconst (v := 0) hx hb dS_dropAll_0 (by decide) ?_
  refine lv_istore_n (lv' := [(1, .int 0), (0, .ref a)]) hx hb dS_dropAll_1 rfl hl (by decide) rfl (fun ls hl => ?_)
  have loop : ∀ (n k : Nat) (i : Int32) (sl : Nat → Option Nat) (H : Heap) (locs : List Loc) (ls : Array Slot), k + n = 64 → i = nI k → (∀ j, j < k → sl j = none) → va_P g.1 vwCl (wsX g a q sl cnt ++ plW LW wv) H → va_D A (wsX g a q sl cnt ++ plW LW wv) → va_S A s.heap H locs → lv_has ls 2 [(1, .int i), (0, .ref a)] → W p l e (headSpec (wm yS_dropAll kS_dropAll 2 none) ({ frames := 0, cells := 0, slots := 0, locals := 0 })).room s m ([.ref a] : List Value).toArray below meth c H locs (0) (0) (MQ below (va_Qv (fun (u : Nat → Option Nat) => ∀ j, j < 64 → u j = none) (rB g A (fun u => (wsX g a q u 0 ++ plW LW wv))) A) ([.ref a] : List Value).toArray s 0 0 A) (F0 m 2 ls []) := by
    intro n
    induction n with
    | zero =>
      intro k i sl H locs ls hk hi hs hP hD hS hl
      refine lv_iload_n hx hb dS_dropAll_2 rfl (lv_at hl 0 rfl) ?_
      refine lv_bipush (v := 64) hx hb dS_dropAll_3 (by decide) ?_
      refine lv_icmp_ge (tgt := 21) hx hb dS_dropAll_5 (by decide) (fun c_5 => ?_) (fun c_5 => ?_)
      · skip
        refine lv_aload_n hx hb dS_dropAll_21 rfl (lv_at hl 1 rfl) ?_
        refine lv_iconst (v := 0) hx hb dS_dropAll_22 (by decide) ?_
        refine va_put (D := g.1) (ci := 3) (v := .int 0) (ty := .int) (C := "NodeMaker$Walls") (T := Fd_S) (N := 2) hx hb ht i_S ty_S ty_S_ok nm_S hown hK.1 hP hD hS 0 rfl rfl 1 (by decide) (ht _ q_67) (fun _ h9 => h9) rfl (by decide +kernel) rfl rfl (Nat.le_of_ble_eq_true rfl) dS_dropAll_23 (fun H locs hP hD hS => ?_)
        have hP : va_P g.1 vwCl ([(a, .inr (3, [.ref q, .int 0])), (q, .inl (g.2 1, 64, .inr (.inr (.inr (.inr sl)))))] ++ plW LW wv) H := hP
        have hD : va_D A ([(a, .inr (3, [.ref q, .int 0])), (q, .inl (g.2 1, 64, .inr (.inr (.inr (.inr sl)))))] ++ plW LW wv) := hD
        exact W.vret hx hb hr (fun t ht9 hW => ⟨⟨sl, rfl, fun j hj => hs j (by omega), by rw [ht9]; exact hP, hD⟩, hS.F ht9⟩) hS.2.2 dS_dropAll_26
      · skip
        exact absurd (by rw [hi]; exact nI_le (a := 64) (by omega) (by omega)) c_5
    | succ n ih =>
      intro k i sl H locs ls hk hi hs hP hD hS hl
      refine lv_iload_n hx hb dS_dropAll_2 rfl (lv_at hl 0 rfl) ?_
      refine lv_bipush (v := 64) hx hb dS_dropAll_3 (by decide) ?_
      refine lv_icmp_ge (tgt := 21) hx hb dS_dropAll_5 (by decide) (fun c_6 => ?_) (fun c_6 => ?_)
      · skip
        exact absurd c_6 (by rw [hi]; exact nI_ge (b := 64) (by omega) (by omega))
      · skip
        refine lv_aload_n hx hb dS_dropAll_8 rfl (lv_at hl 1 rfl) ?_
        refine va_get (D := g.1) (ci := 3) (v := .ref q) (C := "NodeMaker$Walls") (T := Fd_S) (N := 2) hx hb ht i_S hown hK.1 hP 0 rfl rfl 0 (by decide) (ht _ q_66) (fun _ h9 => h9) rfl dS_dropAll_9 ?_
        refine lv_iload_n hx hb dS_dropAll_12 rfl (lv_at hl 0 rfl) ?_
        refine lv_null hx hb dS_dropAll_13 ?_
        refine va_astqN hx hb hK.1 hP hD hS 1 1 rfl rfl (by rw [hi]; exact vp_in_nI (by omega) (by omega)) dS_dropAll_14 (fun H locs hP hD hS => ?_)
        have hP : va_P g.1 vwCl ([(a, .inr (3, [.ref q, .int cnt])), (q, .inl (g.2 1, 64, .inr (.inr (.inr (.inr (va_up sl i.toNatClampNeg none))))))] ++ plW LW wv) H := hP
        have hD : va_D A ([(a, .inr (3, [.ref q, .int cnt])), (q, .inl (g.2 1, 64, .inr (.inr (.inr (.inr (va_up sl i.toNatClampNeg none))))))] ++ plW LW wv) := hD
        refine lv_iinc (v := i + 1) (lv' := [(1, .int (i + 1)), (0, .ref a)]) hx hb dS_dropAll_15 hl (k := 0) rfl rfl (by decide) rfl (fun ls hl => ?_)
        refine lv_goto (tgt := 2) hx hb dS_dropAll_18 (by decide) ?_
        have hs2 : ∀ j, j < k + 1 → va_up sl i.toNatClampNeg none j = none := lt_s (fun j hj => (va_up_ne _ _ (by rw [hi, nI_clamp (by omega)]; omega)).trans (hs j hj)) (by rw [hi, nI_clamp (by omega)]; exact va_up_self _ _ _)
        exact ih (k + 1) (i + 1) (va_up sl i.toNatClampNeg none) _ _ ls (by omega) (by rw [hi]; exact nI_1 k) hs2 hP hD hS hl
  exact loop 64 0 0 sl _ _ ls (by omega) rfl (fun j hj => absurd hj (Nat.not_lt_zero j)) hP hD hS hl
