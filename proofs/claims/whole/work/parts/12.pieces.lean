set_option maxHeartbeats 4000000 in
set_option maxRecDepth 100000 in
theorem cR_init (l : Launch) (g : CX) (sz : Nat) (a : Nat) : Met l yR_init (wm yR_init kR_init 1 none) ({ frames := 1, cells := 1, slots := 64, locals := 12 }) (rw g [.ref a] [(a, .inr (0, [.null, .int 0]))] sz) (va_Qv (fun (u : Nat) => True) (rB g (va_A [(a, .inr (0, [.null, .int 0]))] sz) (fun u => (rowW g a u 64 (fun _ => 0) 0))) (va_A [(a, .inr (0, [.null, .int 0]))] sz)) 1 64 (va_A [(a, .inr (0, [.null, .int 0]))] sz) := by
  refine Met.ofW (cc := kR_init) (maxL := 1) (ret := none) (by decide) rfl ?_
  intro p e s m args below meth c s₁ B hml hv
  obtain ⟨rfl, hsz, hK, hP, hD0⟩ := hv
  have hx := B.exec
  have hb := B.bytes
  have hr := B.returns
  have ht : ∀ w ∈ wT, w.before _ s = true := fun w h => atoms_spec (ws := wm yR_init kR_init 1 none) B.pre w (List.mem_cons_of_mem _ h)
  have hown : s.vm.findClass "NodeMaker$Row" = some m.cls := findClass_of_methodNamed B.named
  have hlocks := B.notSynchronized
  have hin : meth.name = "<init>" := (name_of_methodNamed B.named B.method).1
  subst hsz
  have hD := hD0.self (sz := s.heap.size)
  generalize hAe : va_A [(a, .inr (0, [.null, .int 0]))] s.heap.size = A at hD ⊢
  have hA : ∀ q : Nat, s.heap.size ≤ q → A q := fun q h => by rw [← hAe]; exact Or.inr h
  have hS : va_S A s.heap s.heap [] := va_S.rf
  have hl := lv_entry ([.ref a]) (n := 1) (Nat.le_of_ble_eq_true rfl)
  rw [lg_entry_eq]
  generalize (lg_sl ([.ref a]) ++ List.replicate (1 - (lg_sl ([.ref a])).length) Slot.unset).toArray = ls at hl ⊢
  have hl : lv_has ls 1 [(0, .ref a)] := hl
  refine lv_aload_n hx hb dR_init_0 rfl (lv_at hl 0 rfl) ?_
  refine W.objInit hx hb hown (ht _ q_78) (ht _ q_50) (ht _ q_51) rfl (by rw [hml]; exact hl.1) rfl dR_init_1 (Nat.le_of_ble_eq_true rfl) (Nat.le_of_ble_eq_true rfl) ?_
  refine W.eq (g2 := F0 m 4 ls []) rfl ?_
  refine lv_aload_n hx hb dR_init_4 rfl (lv_at hl 0 rfl) ?_
  refine lv_bipush (v := 64) hx hb dR_init_5 (by decide) ?_
  refine xa_newi hx hb (ht _ q_86) hK hP hD hS hA (N' := 64) rfl (by decide) (by show 0 + 1 ≤ 1; omega) (by show 0 + 64 ≤ 64; omega) dR_init_7 (fun q_1 H hP hD hS => ?_)
  have hP : va_P g.1 vwCl [(a, .inr (0, [.null, .int 0])), (q_1, .inl (g.2 0, 64, .inl (fun _ => 0)))] H := hP
  have hD : va_D A [(a, .inr (0, [.null, .int 0])), (q_1, .inl (g.2 0, 64, .inl (fun _ => 0)))] := hD
  refine va_put (D := g.1) (ci := 0) (v := .ref q_1) (ty := (.array .int)) (C := "NodeMaker$Row") (T := Fd_R) (N := 2) hx hb ht i_R ty_R ty_R_ok nm_R hown hK.1 hP hD hS 0 rfl rfl 0 (by decide) (ht _ q_79) (fun _ h9 => h9) rfl (by decide +kernel) rfl rfl (Nat.le_of_ble_eq_true rfl) dR_init_9 (fun H locs hP hD hS => ?_)
  have hP : va_P g.1 vwCl [(a, .inr (0, [.ref q_1, .int 0])), (q_1, .inl (g.2 0, 64, .inl (fun _ => 0)))] H := hP
  have hD : va_D A [(a, .inr (0, [.ref q_1, .int 0])), (q_1, .inl (g.2 0, 64, .inl (fun _ => 0)))] := hD
  exact W.vret hx hb hr (fun t ht9 hW => ⟨⟨q_1, rfl, trivial, by rw [ht9]; exact hP, hD⟩, hS.F ht9⟩) hS.2.2 dR_init_12
/-- three of a kind -/
def t3 {α : Type} (a b c : α) : Nat → α := fun k => match k with
  | 0 => a
  | 1 => b
  | _ => c
/-- the cells of a list of pieces at a, its three rows at r, their arrays at q -/
abbrev piW (g : CX) (a : Nat) (r q cap : Nat → Nat) (f : Nat → Nat → Int32) (n : Nat → Nat) : va_W := [(a, .inr (1, [.ref (r 0), .ref (r 1), .ref (r 2)])), (r 0, .inr (0, [.ref (q 0), .int (nI (n 0))])), (q 0, .inl (g.2 0, cap 0, .inl (f 0))), (r 1, .inr (0, [.ref (q 1), .int (nI (n 1))])), (q 1, .inl (g.2 0, cap 1, .inl (f 1))), (r 2, .inr (0, [.ref (q 2), .int (nI (n 2))])), (q 2, .inl (g.2 0, cap 2, .inl (f 2)))]
def rows3 (cap : Nat → Nat) (f : Nat → Nat → Int32) (L : Nat → List Int32) : Prop := ∀ k, k < 3 → rowR (cap k) (f k) (L k)
theorem rows3_of {cap : Nat → Nat} {f : Nat → Nat → Int32} {L : Nat → List Int32} (h0 : rowR (cap 0) (f 0) (L 0)) (h1 : rowR (cap 1) (f 1) (L 1)) (h2 : rowR (cap 2) (f 2) (L 2)) : rows3 cap f L := fun k hk => by
  match k, hk with
  | 0, _ => exact h0
  | 1, _ => exact h1
  | 2, _ => exact h2
theorem hd_P_count : yP_count.cls = "NodeMaker$Pieces" ∧ yP_count.cls ≠ "java/lang/invoke/MethodHandle" ∧ yP_count.cls ≠ "java/lang/invoke/VarHandle" ∧ (parseMethodDescriptor yP_count.desc).map (fun d => d.parameters.length) = some 0 := by decide +kernel
theorem hd_P_wallAt : yP_wallAt.cls = "NodeMaker$Pieces" ∧ yP_wallAt.cls ≠ "java/lang/invoke/MethodHandle" ∧ yP_wallAt.cls ≠ "java/lang/invoke/VarHandle" ∧ (parseMethodDescriptor yP_wallAt.desc).map (fun d => d.parameters.length) = some 1 := by decide +kernel
theorem hd_P_firstAt : yP_firstAt.cls = "NodeMaker$Pieces" ∧ yP_firstAt.cls ≠ "java/lang/invoke/MethodHandle" ∧ yP_firstAt.cls ≠ "java/lang/invoke/VarHandle" ∧ (parseMethodDescriptor yP_firstAt.desc).map (fun d => d.parameters.length) = some 1 := by decide +kernel
theorem hd_P_lastAt : yP_lastAt.cls = "NodeMaker$Pieces" ∧ yP_lastAt.cls ≠ "java/lang/invoke/MethodHandle" ∧ yP_lastAt.cls ≠ "java/lang/invoke/VarHandle" ∧ (parseMethodDescriptor yP_lastAt.desc).map (fun d => d.parameters.length) = some 1 := by decide +kernel
theorem hd_P_add : yP_add.cls = "NodeMaker$Pieces" ∧ yP_add.cls ≠ "java/lang/invoke/MethodHandle" ∧ yP_add.cls ≠ "java/lang/invoke/VarHandle" ∧ (parseMethodDescriptor yP_add.desc).map (fun d => d.parameters.length) = some 3 := by decide +kernel
theorem hd_P_set : yP_set.cls = "NodeMaker$Pieces" ∧ yP_set.cls ≠ "java/lang/invoke/MethodHandle" ∧ yP_set.cls ≠ "java/lang/invoke/VarHandle" ∧ (parseMethodDescriptor yP_set.desc).map (fun d => d.parameters.length) = some 4 := by decide +kernel
theorem hd_P_shorten : yP_shorten.cls = "NodeMaker$Pieces" ∧ yP_shorten.cls ≠ "java/lang/invoke/MethodHandle" ∧ yP_shorten.cls ≠ "java/lang/invoke/VarHandle" ∧ (parseMethodDescriptor yP_shorten.desc).map (fun d => d.parameters.length) = some 1 := by decide +kernel
theorem hd_P_init : yP_init.cls ≠ "java/lang/invoke/MethodHandle" ∧ yP_init.cls ≠ "java/lang/invoke/VarHandle" ∧ (parseMethodDescriptor yP_init.desc).map (fun d => d.parameters.length) = some 0 := by decide +kernel
set_option maxHeartbeats 4000000 in
set_option maxRecDepth 100000 in
theorem cP_count (l : Launch) (g : CX) (a : Nat) (r q cap : Nat → Nat) (f : Nat → Nat → Int32) (L : Nat → List Int32) (hrow : rows3 cap f L) : Met l yP_count (wm yP_count kP_count 1 (some .int)) ({ frames := 1, cells := 0, slots := 0, locals := 20 }) (ro g [.ref a] (va_P g.1 vwCl (piW g a r q cap f (fun k => (L k).length)))) (vp_Si (fun r => r = nI (L 0).length)) 0 0 (fun _ => False) := by
  refine Met.ofW (cc := kP_count) (maxL := 1) (ret := (some .int)) (by decide) rfl ?_
  intro p e s m args below meth c s₁ B hml hv
  obtain ⟨rfl, hK, hP⟩ := hv
  have hx := B.exec
  have hb := B.bytes
  have hr := B.returns
  have ht : ∀ w ∈ wT, w.before _ s = true := fun w h => atoms_spec (ws := wm yP_count kP_count 1 (some .int)) B.pre w (List.mem_cons_of_mem _ h)
  have hown : s.vm.findClass "NodeMaker$Pieces" = some m.cls := findClass_of_methodNamed B.named
  have hlocks := B.notSynchronized
  have hl := lv_entry ([.ref a]) (n := 1) (Nat.le_of_ble_eq_true rfl)
  rw [lg_entry_eq]
  generalize (lg_sl ([.ref a]) ++ List.replicate (1 - (lg_sl ([.ref a])).length) Slot.unset).toArray = ls at hl ⊢
  have hl : lv_has ls 1 [(0, .ref a)] := hl
  refine lv_aload_n hx hb dP_count_0 rfl (lv_at hl 0 rfl) ?_
  refine va_get (D := g.1) (ci := 1) (v := .ref (r 0)) (C := "NodeMaker$Pieces") (T := Fd_P) (N := 3) hx hb ht i_P hown hK.1 hP 0 rfl rfl 0 (by decide) (ht _ q_95) (fun _ h9 => h9) rfl dP_count_1 ?_
  have hPc := hP.sub (ws' := rowW g (r 0) (q 0) (cap 0) (f 0) (L 0).length) [1, 2] rfl
  refine ro_Vi (v := nI (L 0).length) (As := []) (rest := []) ⟨hx, hb, hml, hown, ht⟩ (cR_count l g (r 0) (q 0) (cap 0) (f 0) (L 0)) (cwV 0 ht (g_V q_311 q_312 q_313 q_37 q_314) rfl rfl rfl hd_R_count ⟨Nat.le_of_ble_eq_true rfl, Nat.le_of_ble_eq_true rfl⟩) hK (hPc) (va_recv hK.1 hPc (ci := 0) (q0 := 0) rfl rfl) rfl hl.1 rfl (Nat.le_of_ble_eq_true rfl) dP_count_4 ⟨by show 0 ≤ 0; omega, by show 0 ≤ 0; omega⟩ ?_
  exact W.iret hx hb hr (fun t ht9 hW => ⟨_, rfl, rfl, ht9⟩) (fun q h => by cases h) dP_count_7
set_option maxHeartbeats 4000000 in
set_option maxRecDepth 100000 in
theorem cP_wallAt (l : Launch) (g : CX) (a : Nat) (r q cap : Nat → Nat) (f : Nat → Nat → Int32) (L : Nat → List Int32) (hrow : rows3 cap f L) (i : Int32) : Met l yP_wallAt (wm yP_wallAt kP_wallAt 2 (some .int)) ({ frames := 1, cells := 0, slots := 0, locals := 21 }) (ro g [.ref a, .int i] (va_P g.1 vwCl (piW g a r q cap f (fun k => (L k).length)))) (vp_Si (fun r => r = rAt (L 0) i)) 0 0 (fun _ => False) := by
  refine Met.ofW (cc := kP_wallAt) (maxL := 2) (ret := (some .int)) (by decide) rfl ?_
  intro p e s m args below meth c s₁ B hml hv
  obtain ⟨rfl, hK, hP⟩ := hv
  have hx := B.exec
  have hb := B.bytes
  have hr := B.returns
  have ht : ∀ w ∈ wT, w.before _ s = true := fun w h => atoms_spec (ws := wm yP_wallAt kP_wallAt 2 (some .int)) B.pre w (List.mem_cons_of_mem _ h)
  have hown : s.vm.findClass "NodeMaker$Pieces" = some m.cls := findClass_of_methodNamed B.named
  have hlocks := B.notSynchronized
  have hl := lv_entry ([.ref a, .int i]) (n := 2) (Nat.le_of_ble_eq_true rfl)
  rw [lg_entry_eq]
  generalize (lg_sl ([.ref a, .int i]) ++ List.replicate (2 - (lg_sl ([.ref a, .int i])).length) Slot.unset).toArray = ls at hl ⊢
  have hl : lv_has ls 2 [(0, .ref a), (1, .int i)] := hl
  refine lv_aload_n hx hb dP_wallAt_0 rfl (lv_at hl 0 rfl) ?_
  refine va_get (D := g.1) (ci := 1) (v := .ref (r 0)) (C := "NodeMaker$Pieces") (T := Fd_P) (N := 3) hx hb ht i_P hown hK.1 hP 0 rfl rfl 0 (by decide) (ht _ q_95) (fun _ h9 => h9) rfl dP_wallAt_1 ?_
  refine lv_iload_n hx hb dP_wallAt_4 rfl (lv_at hl 1 rfl) ?_
  have hPc := hP.sub (ws' := rowW g (r 0) (q 0) (cap 0) (f 0) (L 0).length) [1, 2] rfl
  refine ro_Vi (v := rAt (L 0) i) (As := [.int i]) (rest := []) ⟨hx, hb, hml, hown, ht⟩ (cR_at l g (r 0) (q 0) (cap 0) (f 0) (L 0) (hrow 0 (by decide)) i) (cwV 1 ht (g_V q_345 q_326 q_327 q_37 q_328) rfl rfl rfl hd_R_at ⟨Nat.le_of_ble_eq_true rfl, Nat.le_of_ble_eq_true rfl⟩) hK (hPc) (va_recv hK.1 hPc (ci := 0) (q0 := 0) rfl rfl) rfl hl.1 rfl (Nat.le_of_ble_eq_true rfl) dP_wallAt_5 ⟨by show 0 ≤ 0; omega, by show 0 ≤ 0; omega⟩ ?_
  exact W.iret hx hb hr (fun t ht9 hW => ⟨_, rfl, rfl, ht9⟩) (fun q h => by cases h) dP_wallAt_8
set_option maxHeartbeats 4000000 in
set_option maxRecDepth 100000 in
theorem cP_firstAt (l : Launch) (g : CX) (a : Nat) (r q cap : Nat → Nat) (f : Nat → Nat → Int32) (L : Nat → List Int32) (hrow : rows3 cap f L) (i : Int32) : Met l yP_firstAt (wm yP_firstAt kP_firstAt 2 (some .int)) ({ frames := 1, cells := 0, slots := 0, locals := 21 }) (ro g [.ref a, .int i] (va_P g.1 vwCl (piW g a r q cap f (fun k => (L k).length)))) (vp_Si (fun r => r = rAt (L 1) i)) 0 0 (fun _ => False) := by
  refine Met.ofW (cc := kP_firstAt) (maxL := 2) (ret := (some .int)) (by decide) rfl ?_
  intro p e s m args below meth c s₁ B hml hv
  obtain ⟨rfl, hK, hP⟩ := hv
  have hx := B.exec
  have hb := B.bytes
  have hr := B.returns
  have ht : ∀ w ∈ wT, w.before _ s = true := fun w h => atoms_spec (ws := wm yP_firstAt kP_firstAt 2 (some .int)) B.pre w (List.mem_cons_of_mem _ h)
  have hown : s.vm.findClass "NodeMaker$Pieces" = some m.cls := findClass_of_methodNamed B.named
  have hlocks := B.notSynchronized
  have hl := lv_entry ([.ref a, .int i]) (n := 2) (Nat.le_of_ble_eq_true rfl)
  rw [lg_entry_eq]
  generalize (lg_sl ([.ref a, .int i]) ++ List.replicate (2 - (lg_sl ([.ref a, .int i])).length) Slot.unset).toArray = ls at hl ⊢
  have hl : lv_has ls 2 [(0, .ref a), (1, .int i)] := hl
  refine lv_aload_n hx hb dP_firstAt_0 rfl (lv_at hl 0 rfl) ?_
  refine va_get (D := g.1) (ci := 1) (v := .ref (r 1)) (C := "NodeMaker$Pieces") (T := Fd_P) (N := 3) hx hb ht i_P hown hK.1 hP 0 rfl rfl 1 (by decide) (ht _ q_96) (fun _ h9 => h9) rfl dP_firstAt_1 ?_
  refine lv_iload_n hx hb dP_firstAt_4 rfl (lv_at hl 1 rfl) ?_
  have hPc := hP.sub (ws' := rowW g (r 1) (q 1) (cap 1) (f 1) (L 1).length) [3, 4] rfl
  refine ro_Vi (v := rAt (L 1) i) (As := [.int i]) (rest := []) ⟨hx, hb, hml, hown, ht⟩ (cR_at l g (r 1) (q 1) (cap 1) (f 1) (L 1) (hrow 1 (by decide)) i) (cwV 1 ht (g_V q_345 q_326 q_327 q_37 q_328) rfl rfl rfl hd_R_at ⟨Nat.le_of_ble_eq_true rfl, Nat.le_of_ble_eq_true rfl⟩) hK (hPc) (va_recv hK.1 hPc (ci := 0) (q0 := 0) rfl rfl) rfl hl.1 rfl (Nat.le_of_ble_eq_true rfl) dP_firstAt_5 ⟨by show 0 ≤ 0; omega, by show 0 ≤ 0; omega⟩ ?_
  exact W.iret hx hb hr (fun t ht9 hW => ⟨_, rfl, rfl, ht9⟩) (fun q h => by cases h) dP_firstAt_8
set_option maxHeartbeats 4000000 in
set_option maxRecDepth 100000 in
theorem cP_lastAt (l : Launch) (g : CX) (a : Nat) (r q cap : Nat → Nat) (f : Nat → Nat → Int32) (L : Nat → List Int32) (hrow : rows3 cap f L) (i : Int32) : Met l yP_lastAt (wm yP_lastAt kP_lastAt 2 (some .int)) ({ frames := 1, cells := 0, slots := 0, locals := 21 }) (ro g [.ref a, .int i] (va_P g.1 vwCl (piW g a r q cap f (fun k => (L k).length)))) (vp_Si (fun r => r = rAt (L 2) i)) 0 0 (fun _ => False) := by
  refine Met.ofW (cc := kP_lastAt) (maxL := 2) (ret := (some .int)) (by decide) rfl ?_
  intro p e s m args below meth c s₁ B hml hv
  obtain ⟨rfl, hK, hP⟩ := hv
  have hx := B.exec
  have hb := B.bytes
  have hr := B.returns
  have ht : ∀ w ∈ wT, w.before _ s = true := fun w h => atoms_spec (ws := wm yP_lastAt kP_lastAt 2 (some .int)) B.pre w (List.mem_cons_of_mem _ h)
  have hown : s.vm.findClass "NodeMaker$Pieces" = some m.cls := findClass_of_methodNamed B.named
  have hlocks := B.notSynchronized
  have hl := lv_entry ([.ref a, .int i]) (n := 2) (Nat.le_of_ble_eq_true rfl)
  rw [lg_entry_eq]
  generalize (lg_sl ([.ref a, .int i]) ++ List.replicate (2 - (lg_sl ([.ref a, .int i])).length) Slot.unset).toArray = ls at hl ⊢
  have hl : lv_has ls 2 [(0, .ref a), (1, .int i)] := hl
  refine lv_aload_n hx hb dP_lastAt_0 rfl (lv_at hl 0 rfl) ?_
  refine va_get (D := g.1) (ci := 1) (v := .ref (r 2)) (C := "NodeMaker$Pieces") (T := Fd_P) (N := 3) hx hb ht i_P hown hK.1 hP 0 rfl rfl 2 (by decide) (ht _ q_97) (fun _ h9 => h9) rfl dP_lastAt_1 ?_
  refine lv_iload_n hx hb dP_lastAt_4 rfl (lv_at hl 1 rfl) ?_
  have hPc := hP.sub (ws' := rowW g (r 2) (q 2) (cap 2) (f 2) (L 2).length) [5, 6] rfl
  refine ro_Vi (v := rAt (L 2) i) (As := [.int i]) (rest := []) ⟨hx, hb, hml, hown, ht⟩ (cR_at l g (r 2) (q 2) (cap 2) (f 2) (L 2) (hrow 2 (by decide)) i) (cwV 1 ht (g_V q_345 q_326 q_327 q_37 q_328) rfl rfl rfl hd_R_at ⟨Nat.le_of_ble_eq_true rfl, Nat.le_of_ble_eq_true rfl⟩) hK (hPc) (va_recv hK.1 hPc (ci := 0) (q0 := 0) rfl rfl) rfl hl.1 rfl (Nat.le_of_ble_eq_true rfl) dP_lastAt_5 ⟨by show 0 ≤ 0; omega, by show 0 ≤ 0; omega⟩ ?_
  exact W.iret hx hb hr (fun t ht9 hW => ⟨_, rfl, rfl, ht9⟩) (fun q h => by cases h) dP_lastAt_8
