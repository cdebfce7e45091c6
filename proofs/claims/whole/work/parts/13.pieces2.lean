set_option maxHeartbeats 4000000 in
set_option maxRecDepth 100000 in
theorem cP_add (l : Launch) (g : CX) (sz : Nat) (a : Nat) (r q cap : Nat → Nat) (f : Nat → Nat → Int32) (L : Nat → List Int32) (hrow : rows3 cap f L) (v0 v1 v2 : Int32) : Met l yP_add (wm yP_add kP_add 4 none) ({ frames := 3, cells := (aUse (cap 0) (L 0) + aUse (cap 1) (L 1) + aUse (cap 2) (L 2)), slots := (aUse (cap 0) (L 0) + aUse (cap 1) (L 1) + aUse (cap 2) (L 2)), locals := 103 }) (rw g [.ref a, .int v0, .int v1, .int v2] (piW g a r q cap f (fun k => (L k).length)) sz) (va_Qv (fun (u : (Nat → Nat) × (Nat → Nat → Int32)) => rows3 (fun k => aCap (cap k) (L k)) u.2 (fun k => rAdd (L k) (t3 v0 v1 v2 k))) (rB g (va_A (piW g a r q cap f (fun k => (L k).length)) sz) (fun u => (piW g a r u.1 (fun k => aCap (cap k) (L k)) u.2 (fun k => (rAdd (L k) (t3 v0 v1 v2 k)).length)))) (va_A (piW g a r q cap f (fun k => (L k).length)) sz)) (aUse (cap 0) (L 0) + aUse (cap 1) (L 1) + aUse (cap 2) (L 2)) (aUse (cap 0) (L 0) + aUse (cap 1) (L 1) + aUse (cap 2) (L 2)) (va_A (piW g a r q cap f (fun k => (L k).length)) sz) := by
  refine Met.ofW (cc := kP_add) (maxL := 4) (ret := none) (by decide) rfl ?_
  intro p e s m args below meth c s₁ B hml hv
  obtain ⟨rfl, hsz, hK, hP, hD0⟩ := hv
  have hx := B.exec
  have hb := B.bytes
  have hr := B.returns
  have ht : ∀ w ∈ wT, w.before _ s = true := fun w h => atoms_spec (ws := wm yP_add kP_add 4 none) B.pre w (List.mem_cons_of_mem _ h)
  have hown : s.vm.findClass "NodeMaker$Pieces" = some m.cls := findClass_of_methodNamed B.named
  have hlocks := B.notSynchronized
  subst hsz
  have hD := hD0.self (sz := s.heap.size)
  generalize hAe : va_A (piW g a r q cap f (fun k => (L k).length)) s.heap.size = A at hD ⊢
  have hA : ∀ q : Nat, s.heap.size ≤ q → A q := fun q h => by rw [← hAe]; exact Or.inr h
  have hS : va_S A s.heap s.heap [] := va_S.rf
  have hl := lv_entry ([.ref a, .int v0, .int v1, .int v2]) (n := 4) (Nat.le_of_ble_eq_true rfl)
  rw [lg_entry_eq]
  generalize (lg_sl ([.ref a, .int v0, .int v1, .int v2]) ++ List.replicate (4 - (lg_sl ([.ref a, .int v0, .int v1, .int v2])).length) Slot.unset).toArray = ls at hl ⊢
  have hl : lv_has ls 4 [(0, .ref a), (1, .int v0), (2, .int v1), (3, .int v2)] := hl
  refine lv_aload_n hx hb dP_add_0 rfl (lv_at hl 0 rfl) ?_
  refine va_get (D := g.1) (ci := 1) (v := .ref (r 0)) (C := "NodeMaker$Pieces") (T := Fd_P) (N := 3) hx hb ht i_P hown hK.1 hP 0 rfl rfl 0 (by decide) (ht _ q_95) (fun _ h9 => h9) rfl dP_add_1 ?_
  refine lv_iload_n hx hb dP_add_4 rfl (lv_at hl 1 rfl) ?_
  have hPc := hP.sub (ws' := (rowW g (r 0) (q 0) (cap 0) (f 0) (L 0).length)) [1, 2] rfl
  have hDc := hD.sub (ws' := (rowW g (r 0) (q 0) (cap 0) (f 0) (L 0).length)) [1, 2] (by decide) rfl
  refine rw_v (wr := [(a, .inr (1, [.ref (r 0), .ref (r 1), .ref (r 2)])), ((r 1), .inr (0, [.ref (q 1), .int (nI (L 1).length)])), ((q 1), .inl (g.2 0, (cap 1), .inl (f 1))), ((r 2), .inr (0, [.ref (q 2), .int (nI (L 2).length)])), ((q 2), .inl (g.2 0, (cap 2), .inl (f 2)))]) (va_runV (As := [.int v0]) (rest := []) ⟨hx, hb, hml, hown, ht⟩ (cR_add l g s.heap.size (r 0) (q 0) (cap 0) (f 0) (L 0) (hrow 0 (by decide)) v0) (cwV 1 ht (g_V q_289 q_290 q_291 q_37 q_292) rfl rfl rfl hd_R_add ⟨Nat.le_of_ble_eq_true rfl, Nat.le_of_ble_eq_true rfl⟩) (rw_V hK hPc hDc (va_recv hK.1 hPc (ci := 0) (q0 := 0) rfl rfl)) rfl rfl hl.1 rfl (lv_room (Nat.le_of_ble_eq_true rfl)) dP_add_5 ⟨by show 0 + (aUse (cap 0) (L 0)) ≤ (aUse (cap 0) (L 0) + aUse (cap 1) (L 1) + aUse (cap 2) (L 2)); omega, by show 0 + (aUse (cap 0) (L 0)) ≤ (aUse (cap 0) (L 0) + aUse (cap 1) (L 1) + aUse (cap 2) (L 2)); omega⟩) hP hD hS hA [1, 2] [0, 3, 4, 5, 6] rfl rfl (by decide) (by decide) (fun u0 H locs hw hP hD hS => ?_)
  have hP : va_P g.1 vwCl [(a, .inr (1, [.ref (r 0), .ref (r 1), .ref (r 2)])), ((r 1), .inr (0, [.ref (q 1), .int (nI (L 1).length)])), ((q 1), .inl (g.2 0, (cap 1), .inl (f 1))), ((r 2), .inr (0, [.ref (q 2), .int (nI (L 2).length)])), ((q 2), .inl (g.2 0, (cap 2), .inl (f 2))), ((r 0), .inr (0, [.ref u0.1, .int (nI (rAdd (L 0) v0).length)])), (u0.1, .inl (g.2 0, (aCap (cap 0) (L 0)), .inl u0.2))] H := hP
  have hD : va_D A [(a, .inr (1, [.ref (r 0), .ref (r 1), .ref (r 2)])), ((r 1), .inr (0, [.ref (q 1), .int (nI (L 1).length)])), ((q 1), .inl (g.2 0, (cap 1), .inl (f 1))), ((r 2), .inr (0, [.ref (q 2), .int (nI (L 2).length)])), ((q 2), .inl (g.2 0, (cap 2), .inl (f 2))), ((r 0), .inr (0, [.ref u0.1, .int (nI (rAdd (L 0) v0).length)])), (u0.1, .inl (g.2 0, (aCap (cap 0) (L 0)), .inl u0.2))] := hD
  have hw0 := hw
  refine lv_aload_n hx hb dP_add_8 rfl (lv_at hl 0 rfl) ?_
  refine va_get (D := g.1) (ci := 1) (v := .ref (r 1)) (C := "NodeMaker$Pieces") (T := Fd_P) (N := 3) hx hb ht i_P hown hK.1 hP 0 rfl rfl 1 (by decide) (ht _ q_96) (fun _ h9 => h9) rfl dP_add_9 ?_
  refine lv_iload_n hx hb dP_add_12 rfl (lv_at hl 2 rfl) ?_
  have hPc := hP.sub (ws' := (rowW g (r 1) (q 1) (cap 1) (f 1) (L 1).length)) [1, 2] rfl
  have hDc := hD.sub (ws' := (rowW g (r 1) (q 1) (cap 1) (f 1) (L 1).length)) [1, 2] (by decide) rfl
  refine rw_v (wr := [(a, .inr (1, [.ref (r 0), .ref (r 1), .ref (r 2)])), ((r 2), .inr (0, [.ref (q 2), .int (nI (L 2).length)])), ((q 2), .inl (g.2 0, (cap 2), .inl (f 2))), ((r 0), .inr (0, [.ref u0.1, .int (nI (rAdd (L 0) v0).length)])), (u0.1, .inl (g.2 0, (aCap (cap 0) (L 0)), .inl u0.2))]) (va_runV (As := [.int v1]) (rest := []) ⟨hx, hb, hml, hown, ht⟩ (cR_add l g H.size (r 1) (q 1) (cap 1) (f 1) (L 1) (hrow 1 (by decide)) v1) (cwV 1 ht (g_V q_289 q_290 q_291 q_37 q_292) rfl rfl rfl hd_R_add ⟨Nat.le_of_ble_eq_true rfl, Nat.le_of_ble_eq_true rfl⟩) (rw_V hK hPc hDc (va_recv hK.1 hPc (ci := 0) (q0 := 0) rfl rfl)) rfl rfl hl.1 rfl (lv_room (Nat.le_of_ble_eq_true rfl)) dP_add_13 ⟨by show 0 + (aUse (cap 0) (L 0)) + (aUse (cap 1) (L 1)) ≤ (aUse (cap 0) (L 0) + aUse (cap 1) (L 1) + aUse (cap 2) (L 2)); omega, by show 0 + (aUse (cap 0) (L 0)) + (aUse (cap 1) (L 1)) ≤ (aUse (cap 0) (L 0) + aUse (cap 1) (L 1) + aUse (cap 2) (L 2)); omega⟩) hP hD hS hA [1, 2] [0, 3, 4, 5, 6] rfl rfl (by decide) (by decide) (fun u1 H locs hw hP hD hS => ?_)
  have hP : va_P g.1 vwCl [(a, .inr (1, [.ref (r 0), .ref (r 1), .ref (r 2)])), ((r 2), .inr (0, [.ref (q 2), .int (nI (L 2).length)])), ((q 2), .inl (g.2 0, (cap 2), .inl (f 2))), ((r 0), .inr (0, [.ref u0.1, .int (nI (rAdd (L 0) v0).length)])), (u0.1, .inl (g.2 0, (aCap (cap 0) (L 0)), .inl u0.2)), ((r 1), .inr (0, [.ref u1.1, .int (nI (rAdd (L 1) v1).length)])), (u1.1, .inl (g.2 0, (aCap (cap 1) (L 1)), .inl u1.2))] H := hP
  have hD : va_D A [(a, .inr (1, [.ref (r 0), .ref (r 1), .ref (r 2)])), ((r 2), .inr (0, [.ref (q 2), .int (nI (L 2).length)])), ((q 2), .inl (g.2 0, (cap 2), .inl (f 2))), ((r 0), .inr (0, [.ref u0.1, .int (nI (rAdd (L 0) v0).length)])), (u0.1, .inl (g.2 0, (aCap (cap 0) (L 0)), .inl u0.2)), ((r 1), .inr (0, [.ref u1.1, .int (nI (rAdd (L 1) v1).length)])), (u1.1, .inl (g.2 0, (aCap (cap 1) (L 1)), .inl u1.2))] := hD
  have hw1 := hw
  refine lv_aload_n hx hb dP_add_16 rfl (lv_at hl 0 rfl) ?_
  refine va_get (D := g.1) (ci := 1) (v := .ref (r 2)) (C := "NodeMaker$Pieces") (T := Fd_P) (N := 3) hx hb ht i_P hown hK.1 hP 0 rfl rfl 2 (by decide) (ht _ q_97) (fun _ h9 => h9) rfl dP_add_17 ?_
  refine lv_iload_n hx hb dP_add_20 rfl (lv_at hl 3 rfl) ?_
  have hPc := hP.sub (ws' := (rowW g (r 2) (q 2) (cap 2) (f 2) (L 2).length)) [1, 2] rfl
  have hDc := hD.sub (ws' := (rowW g (r 2) (q 2) (cap 2) (f 2) (L 2).length)) [1, 2] (by decide) rfl
  refine rw_v (wr := [(a, .inr (1, [.ref (r 0), .ref (r 1), .ref (r 2)])), ((r 0), .inr (0, [.ref u0.1, .int (nI (rAdd (L 0) v0).length)])), (u0.1, .inl (g.2 0, (aCap (cap 0) (L 0)), .inl u0.2)), ((r 1), .inr (0, [.ref u1.1, .int (nI (rAdd (L 1) v1).length)])), (u1.1, .inl (g.2 0, (aCap (cap 1) (L 1)), .inl u1.2))]) (va_runV (As := [.int v2]) (rest := []) ⟨hx, hb, hml, hown, ht⟩ (cR_add l g H.size (r 2) (q 2) (cap 2) (f 2) (L 2) (hrow 2 (by decide)) v2) (cwV 1 ht (g_V q_289 q_290 q_291 q_37 q_292) rfl rfl rfl hd_R_add ⟨Nat.le_of_ble_eq_true rfl, Nat.le_of_ble_eq_true rfl⟩) (rw_V hK hPc hDc (va_recv hK.1 hPc (ci := 0) (q0 := 0) rfl rfl)) rfl rfl hl.1 rfl (lv_room (Nat.le_of_ble_eq_true rfl)) dP_add_21 ⟨by show 0 + (aUse (cap 0) (L 0)) + (aUse (cap 1) (L 1)) + (aUse (cap 2) (L 2)) ≤ (aUse (cap 0) (L 0) + aUse (cap 1) (L 1) + aUse (cap 2) (L 2)); omega, by show 0 + (aUse (cap 0) (L 0)) + (aUse (cap 1) (L 1)) + (aUse (cap 2) (L 2)) ≤ (aUse (cap 0) (L 0) + aUse (cap 1) (L 1) + aUse (cap 2) (L 2)); omega⟩) hP hD hS hA [1, 2] [0, 3, 4, 5, 6] rfl rfl (by decide) (by decide) (fun u2 H locs hw hP hD hS => ?_)
  have hP : va_P g.1 vwCl [(a, .inr (1, [.ref (r 0), .ref (r 1), .ref (r 2)])), ((r 0), .inr (0, [.ref u0.1, .int (nI (rAdd (L 0) v0).length)])), (u0.1, .inl (g.2 0, (aCap (cap 0) (L 0)), .inl u0.2)), ((r 1), .inr (0, [.ref u1.1, .int (nI (rAdd (L 1) v1).length)])), (u1.1, .inl (g.2 0, (aCap (cap 1) (L 1)), .inl u1.2)), ((r 2), .inr (0, [.ref u2.1, .int (nI (rAdd (L 2) v2).length)])), (u2.1, .inl (g.2 0, (aCap (cap 2) (L 2)), .inl u2.2))] H := hP
  have hD : va_D A [(a, .inr (1, [.ref (r 0), .ref (r 1), .ref (r 2)])), ((r 0), .inr (0, [.ref u0.1, .int (nI (rAdd (L 0) v0).length)])), (u0.1, .inl (g.2 0, (aCap (cap 0) (L 0)), .inl u0.2)), ((r 1), .inr (0, [.ref u1.1, .int (nI (rAdd (L 1) v1).length)])), (u1.1, .inl (g.2 0, (aCap (cap 1) (L 1)), .inl u1.2)), ((r 2), .inr (0, [.ref u2.1, .int (nI (rAdd (L 2) v2).length)])), (u2.1, .inl (g.2 0, (aCap (cap 2) (L 2)), .inl u2.2))] := hD
  have hw2 := hw
  have hP9 := hP.sub (ws' := (piW g a r (t3 u0.1 u1.1 u2.1) (fun k => aCap (cap k) (L k)) (t3 u0.2 u1.2 u2.2) (fun k => (rAdd (L k) (t3 v0 v1 v2 k)).length))) [0, 1, 2, 3, 4, 5, 6] rfl
  have hD9 := hD.sub (ws' := (piW g a r (t3 u0.1 u1.1 u2.1) (fun k => aCap (cap k) (L k)) (t3 u0.2 u1.2 u2.2) (fun k => (rAdd (L k) (t3 v0 v1 v2 k)).length))) [0, 1, 2, 3, 4, 5, 6] (by decide) rfl
  refine W.widen (k := (aUse (cap 0) (L 0) + aUse (cap 1) (L 1) + aUse (cap 2) (L 2))) (n := (aUse (cap 0) (L 0) + aUse (cap 1) (L 1) + aUse (cap 2) (L 2))) (by omega) (by omega) ?_
  exact W.vret hx hb hr (fun t ht9 hW => ⟨⟨(t3 u0.1 u1.1 u2.1, t3 u0.2 u1.2 u2.2), rfl, rows3_of hw0 hw1 hw2, by rw [ht9]; exact hP9, hD9⟩, hS.F ht9⟩) hS.2.2 dP_add_24
set_option maxHeartbeats 4000000 in
set_option maxRecDepth 100000 in
theorem cP_set (l : Launch) (g : CX) (sz : Nat) (a : Nat) (r q cap : Nat → Nat) (f : Nat → Nat → Int32) (L : Nat → List Int32) (hrow : rows3 cap f L) (i v0 v1 v2 : Int32) : Met l yP_set (wm yP_set kP_set 5 none) ({ frames := 1, cells := 0, slots := 0, locals := 22 }) (rw g [.ref a, .int i, .int v0, .int v1, .int v2] (piW g a r q cap f (fun k => (L k).length)) sz) (va_Qv (fun (u : Nat → Nat → Int32) => rows3 cap u (fun k => rSet (L k) i (t3 v0 v1 v2 k))) (rB g (va_A (piW g a r q cap f (fun k => (L k).length)) sz) (fun u => (piW g a r q cap u (fun k => (rSet (L k) i (t3 v0 v1 v2 k)).length)))) (va_A (piW g a r q cap f (fun k => (L k).length)) sz)) 0 0 (va_A (piW g a r q cap f (fun k => (L k).length)) sz) := by
  refine Met.ofW (cc := kP_set) (maxL := 5) (ret := none) (by decide) rfl ?_
  intro p e s m args below meth c s₁ B hml hv
  obtain ⟨rfl, hsz, hK, hP, hD0⟩ := hv
  have hx := B.exec
  have hb := B.bytes
  have hr := B.returns
  have ht : ∀ w ∈ wT, w.before _ s = true := fun w h => atoms_spec (ws := wm yP_set kP_set 5 none) B.pre w (List.mem_cons_of_mem _ h)
  have hown : s.vm.findClass "NodeMaker$Pieces" = some m.cls := findClass_of_methodNamed B.named
  have hlocks := B.notSynchronized
  subst hsz
  have hD := hD0.self (sz := s.heap.size)
  generalize hAe : va_A (piW g a r q cap f (fun k => (L k).length)) s.heap.size = A at hD ⊢
  have hA : ∀ q : Nat, s.heap.size ≤ q → A q := fun q h => by rw [← hAe]; exact Or.inr h
  have hS : va_S A s.heap s.heap [] := va_S.rf
  have hl := lv_entry ([.ref a, .int i, .int v0, .int v1, .int v2]) (n := 5) (Nat.le_of_ble_eq_true rfl)
  rw [lg_entry_eq]
  generalize (lg_sl ([.ref a, .int i, .int v0, .int v1, .int v2]) ++ List.replicate (5 - (lg_sl ([.ref a, .int i, .int v0, .int v1, .int v2])).length) Slot.unset).toArray = ls at hl ⊢
  have hl : lv_has ls 5 [(0, .ref a), (1, .int i), (2, .int v0), (3, .int v1), (4, .int v2)] := hl
  refine lv_aload_n hx hb dP_set_0 rfl (lv_at hl 0 rfl) ?_
  refine va_get (D := g.1) (ci := 1) (v := .ref (r 0)) (C := "NodeMaker$Pieces") (T := Fd_P) (N := 3) hx hb ht i_P hown hK.1 hP 0 rfl rfl 0 (by decide) (ht _ q_95) (fun _ h9 => h9) rfl dP_set_1 ?_
  refine lv_iload_n hx hb dP_set_4 rfl (lv_at hl 1 rfl) ?_
  refine lv_iload_n hx hb dP_set_5 rfl (lv_at hl 2 rfl) ?_
  have hPc := hP.sub (ws' := (rowW g (r 0) (q 0) (cap 0) (f 0) (L 0).length)) [1, 2] rfl
  have hDc := hD.sub (ws' := (rowW g (r 0) (q 0) (cap 0) (f 0) (L 0).length)) [1, 2] (by decide) rfl
  refine rw_v (wr := [(a, .inr (1, [.ref (r 0), .ref (r 1), .ref (r 2)])), ((r 1), .inr (0, [.ref (q 1), .int (nI (L 1).length)])), ((q 1), .inl (g.2 0, (cap 1), .inl (f 1))), ((r 2), .inr (0, [.ref (q 2), .int (nI (L 2).length)])), ((q 2), .inl (g.2 0, (cap 2), .inl (f 2)))]) (va_runV (As := [.int i, .int v0]) (rest := []) ⟨hx, hb, hml, hown, ht⟩ (cR_set l g s.heap.size (r 0) (q 0) (cap 0) (f 0) (L 0) (hrow 0 (by decide)) i v0) (cwV 2 ht (g_V q_385 q_330 q_331 q_37 q_332) rfl rfl rfl hd_R_set ⟨Nat.le_of_ble_eq_true rfl, Nat.le_of_ble_eq_true rfl⟩) (rw_V hK hPc hDc (va_recv hK.1 hPc (ci := 0) (q0 := 0) rfl rfl)) rfl rfl hl.1 rfl (lv_room (Nat.le_of_ble_eq_true rfl)) dP_set_6 ⟨by show 0 + 0 ≤ 0; omega, by show 0 + 0 ≤ 0; omega⟩) hP hD hS hA [1, 2] [0, 3, 4, 5, 6] rfl rfl (by decide) (by decide) (fun u0 H locs hw hP hD hS => ?_)
  have hP : va_P g.1 vwCl [(a, .inr (1, [.ref (r 0), .ref (r 1), .ref (r 2)])), ((r 1), .inr (0, [.ref (q 1), .int (nI (L 1).length)])), ((q 1), .inl (g.2 0, (cap 1), .inl (f 1))), ((r 2), .inr (0, [.ref (q 2), .int (nI (L 2).length)])), ((q 2), .inl (g.2 0, (cap 2), .inl (f 2))), ((r 0), .inr (0, [.ref (q 0), .int (nI (rSet (L 0) i v0).length)])), ((q 0), .inl (g.2 0, (cap 0), .inl u0))] H := hP
  have hD : va_D A [(a, .inr (1, [.ref (r 0), .ref (r 1), .ref (r 2)])), ((r 1), .inr (0, [.ref (q 1), .int (nI (L 1).length)])), ((q 1), .inl (g.2 0, (cap 1), .inl (f 1))), ((r 2), .inr (0, [.ref (q 2), .int (nI (L 2).length)])), ((q 2), .inl (g.2 0, (cap 2), .inl (f 2))), ((r 0), .inr (0, [.ref (q 0), .int (nI (rSet (L 0) i v0).length)])), ((q 0), .inl (g.2 0, (cap 0), .inl u0))] := hD
  have hw0 := hw
  refine lv_aload_n hx hb dP_set_9 rfl (lv_at hl 0 rfl) ?_
  refine va_get (D := g.1) (ci := 1) (v := .ref (r 1)) (C := "NodeMaker$Pieces") (T := Fd_P) (N := 3) hx hb ht i_P hown hK.1 hP 0 rfl rfl 1 (by decide) (ht _ q_96) (fun _ h9 => h9) rfl dP_set_10 ?_
  refine lv_iload_n hx hb dP_set_13 rfl (lv_at hl 1 rfl) ?_
  refine lv_iload_n hx hb dP_set_14 rfl (lv_at hl 3 rfl) ?_
  have hPc := hP.sub (ws' := (rowW g (r 1) (q 1) (cap 1) (f 1) (L 1).length)) [1, 2] rfl
  have hDc := hD.sub (ws' := (rowW g (r 1) (q 1) (cap 1) (f 1) (L 1).length)) [1, 2] (by decide) rfl
  refine rw_v (wr := [(a, .inr (1, [.ref (r 0), .ref (r 1), .ref (r 2)])), ((r 2), .inr (0, [.ref (q 2), .int (nI (L 2).length)])), ((q 2), .inl (g.2 0, (cap 2), .inl (f 2))), ((r 0), .inr (0, [.ref (q 0), .int (nI (rSet (L 0) i v0).length)])), ((q 0), .inl (g.2 0, (cap 0), .inl u0))]) (va_runV (As := [.int i, .int v1]) (rest := []) ⟨hx, hb, hml, hown, ht⟩ (cR_set l g H.size (r 1) (q 1) (cap 1) (f 1) (L 1) (hrow 1 (by decide)) i v1) (cwV 2 ht (g_V q_385 q_330 q_331 q_37 q_332) rfl rfl rfl hd_R_set ⟨Nat.le_of_ble_eq_true rfl, Nat.le_of_ble_eq_true rfl⟩) (rw_V hK hPc hDc (va_recv hK.1 hPc (ci := 0) (q0 := 0) rfl rfl)) rfl rfl hl.1 rfl (lv_room (Nat.le_of_ble_eq_true rfl)) dP_set_15 ⟨by show 0 + 0 + 0 ≤ 0; omega, by show 0 + 0 + 0 ≤ 0; omega⟩) hP hD hS hA [1, 2] [0, 3, 4, 5, 6] rfl rfl (by decide) (by decide) (fun u1 H locs hw hP hD hS => ?_)
  have hP : va_P g.1 vwCl [(a, .inr (1, [.ref (r 0), .ref (r 1), .ref (r 2)])), ((r 2), .inr (0, [.ref (q 2), .int (nI (L 2).length)])), ((q 2), .inl (g.2 0, (cap 2), .inl (f 2))), ((r 0), .inr (0, [.ref (q 0), .int (nI (rSet (L 0) i v0).length)])), ((q 0), .inl (g.2 0, (cap 0), .inl u0)), ((r 1), .inr (0, [.ref (q 1), .int (nI (rSet (L 1) i v1).length)])), ((q 1), .inl (g.2 0, (cap 1), .inl u1))] H := hP
  have hD : va_D A [(a, .inr (1, [.ref (r 0), .ref (r 1), .ref (r 2)])), ((r 2), .inr (0, [.ref (q 2), .int (nI (L 2).length)])), ((q 2), .inl (g.2 0, (cap 2), .inl (f 2))), ((r 0), .inr (0, [.ref (q 0), .int (nI (rSet (L 0) i v0).length)])), ((q 0), .inl (g.2 0, (cap 0), .inl u0)), ((r 1), .inr (0, [.ref (q 1), .int (nI (rSet (L 1) i v1).length)])), ((q 1), .inl (g.2 0, (cap 1), .inl u1))] := hD
  have hw1 := hw
  refine lv_aload_n hx hb dP_set_18 rfl (lv_at hl 0 rfl) ?_
  refine va_get (D := g.1) (ci := 1) (v := .ref (r 2)) (C := "NodeMaker$Pieces") (T := Fd_P) (N := 3) hx hb ht i_P hown hK.1 hP 0 rfl rfl 2 (by decide) (ht _ q_97) (fun _ h9 => h9) rfl dP_set_19 ?_
  refine lv_iload_n hx hb dP_set_22 rfl (lv_at hl 1 rfl) ?_
  refine lv_iload hx hb dP_set_23 (lv_at hl 4 rfl) ?_
  have hPc := hP.sub (ws' := (rowW g (r 2) (q 2) (cap 2) (f 2) (L 2).length)) [1, 2] rfl
  have hDc := hD.sub (ws' := (rowW g (r 2) (q 2) (cap 2) (f 2) (L 2).length)) [1, 2] (by decide) rfl
  refine rw_v (wr := [(a, .inr (1, [.ref (r 0), .ref (r 1), .ref (r 2)])), ((r 0), .inr (0, [.ref (q 0), .int (nI (rSet (L 0) i v0).length)])), ((q 0), .inl (g.2 0, (cap 0), .inl u0)), ((r 1), .inr (0, [.ref (q 1), .int (nI (rSet (L 1) i v1).length)])), ((q 1), .inl (g.2 0, (cap 1), .inl u1))]) (va_runV (As := [.int i, .int v2]) (rest := []) ⟨hx, hb, hml, hown, ht⟩ (cR_set l g H.size (r 2) (q 2) (cap 2) (f 2) (L 2) (hrow 2 (by decide)) i v2) (cwV 2 ht (g_V q_385 q_330 q_331 q_37 q_332) rfl rfl rfl hd_R_set ⟨Nat.le_of_ble_eq_true rfl, Nat.le_of_ble_eq_true rfl⟩) (rw_V hK hPc hDc (va_recv hK.1 hPc (ci := 0) (q0 := 0) rfl rfl)) rfl rfl hl.1 rfl (lv_room (Nat.le_of_ble_eq_true rfl)) dP_set_25 ⟨by show 0 + 0 + 0 + 0 ≤ 0; omega, by show 0 + 0 + 0 + 0 ≤ 0; omega⟩) hP hD hS hA [1, 2] [0, 3, 4, 5, 6] rfl rfl (by decide) (by decide) (fun u2 H locs hw hP hD hS => ?_)
  have hP : va_P g.1 vwCl [(a, .inr (1, [.ref (r 0), .ref (r 1), .ref (r 2)])), ((r 0), .inr (0, [.ref (q 0), .int (nI (rSet (L 0) i v0).length)])), ((q 0), .inl (g.2 0, (cap 0), .inl u0)), ((r 1), .inr (0, [.ref (q 1), .int (nI (rSet (L 1) i v1).length)])), ((q 1), .inl (g.2 0, (cap 1), .inl u1)), ((r 2), .inr (0, [.ref (q 2), .int (nI (rSet (L 2) i v2).length)])), ((q 2), .inl (g.2 0, (cap 2), .inl u2))] H := hP
  have hD : va_D A [(a, .inr (1, [.ref (r 0), .ref (r 1), .ref (r 2)])), ((r 0), .inr (0, [.ref (q 0), .int (nI (rSet (L 0) i v0).length)])), ((q 0), .inl (g.2 0, (cap 0), .inl u0)), ((r 1), .inr (0, [.ref (q 1), .int (nI (rSet (L 1) i v1).length)])), ((q 1), .inl (g.2 0, (cap 1), .inl u1)), ((r 2), .inr (0, [.ref (q 2), .int (nI (rSet (L 2) i v2).length)])), ((q 2), .inl (g.2 0, (cap 2), .inl u2))] := hD
  have hw2 := hw
  have hP9 := hP.sub (ws' := (piW g a r q cap (t3 u0 u1 u2) (fun k => (rSet (L k) i (t3 v0 v1 v2 k)).length))) [0, 1, 2, 3, 4, 5, 6] rfl
  have hD9 := hD.sub (ws' := (piW g a r q cap (t3 u0 u1 u2) (fun k => (rSet (L k) i (t3 v0 v1 v2 k)).length))) [0, 1, 2, 3, 4, 5, 6] (by decide) rfl
  exact W.vret hx hb hr (fun t ht9 hW => ⟨⟨t3 u0 u1 u2, rfl, rows3_of hw0 hw1 hw2, by rw [ht9]; exact hP9, hD9⟩, hS.F ht9⟩) hS.2.2 dP_set_28
set_option maxHeartbeats 4000000 in
set_option maxRecDepth 100000 in
theorem cP_shorten (l : Launch) (g : CX) (sz : Nat) (a : Nat) (r q cap : Nat → Nat) (f : Nat → Nat → Int32) (L : Nat → List Int32) (hrow : rows3 cap f L) (i : Int32) : Met l yP_shorten (wm yP_shorten kP_shorten 2 none) ({ frames := 1, cells := 0, slots := 0, locals := 21 }) (rw g [.ref a, .int i] (piW g a r q cap f (fun k => (L k).length)) sz) (va_Qv (fun (_u : Unit) => rows3 cap f (fun k => rCut (L k) i)) (rB g (va_A (piW g a r q cap f (fun k => (L k).length)) sz) (fun _u => (piW g a r q cap f (fun k => (rCut (L k) i).length)))) (va_A (piW g a r q cap f (fun k => (L k).length)) sz)) 0 0 (va_A (piW g a r q cap f (fun k => (L k).length)) sz) := by
  refine Met.ofW (cc := kP_shorten) (maxL := 2) (ret := none) (by decide) rfl ?_
  intro p e s m args below meth c s₁ B hml hv
  obtain ⟨rfl, hsz, hK, hP, hD0⟩ := hv
  have hx := B.exec
  have hb := B.bytes
  have hr := B.returns
  have ht : ∀ w ∈ wT, w.before _ s = true := fun w h => atoms_spec (ws := wm yP_shorten kP_shorten 2 none) B.pre w (List.mem_cons_of_mem _ h)
  have hown : s.vm.findClass "NodeMaker$Pieces" = some m.cls := findClass_of_methodNamed B.named
  have hlocks := B.notSynchronized
  subst hsz
  have hD := hD0.self (sz := s.heap.size)
  generalize hAe : va_A (piW g a r q cap f (fun k => (L k).length)) s.heap.size = A at hD ⊢
  have hA : ∀ q : Nat, s.heap.size ≤ q → A q := fun q h => by rw [← hAe]; exact Or.inr h
  have hS : va_S A s.heap s.heap [] := va_S.rf
  have hl := lv_entry ([.ref a, .int i]) (n := 2) (Nat.le_of_ble_eq_true rfl)
  rw [lg_entry_eq]
  generalize (lg_sl ([.ref a, .int i]) ++ List.replicate (2 - (lg_sl ([.ref a, .int i])).length) Slot.unset).toArray = ls at hl ⊢
  have hl : lv_has ls 2 [(0, .ref a), (1, .int i)] := hl
  refine lv_aload_n hx hb dP_shorten_0 rfl (lv_at hl 0 rfl) ?_
  refine va_get (D := g.1) (ci := 1) (v := .ref (r 0)) (C := "NodeMaker$Pieces") (T := Fd_P) (N := 3) hx hb ht i_P hown hK.1 hP 0 rfl rfl 0 (by decide) (ht _ q_95) (fun _ h9 => h9) rfl dP_shorten_1 ?_
  refine lv_iload_n hx hb dP_shorten_4 rfl (lv_at hl 1 rfl) ?_
  have hPc := hP.sub (ws' := (rowW g (r 0) (q 0) (cap 0) (f 0) (L 0).length)) [1, 2] rfl
  have hDc := hD.sub (ws' := (rowW g (r 0) (q 0) (cap 0) (f 0) (L 0).length)) [1, 2] (by decide) rfl
  refine rw_v (wr := [(a, .inr (1, [.ref (r 0), .ref (r 1), .ref (r 2)])), ((r 1), .inr (0, [.ref (q 1), .int (nI (L 1).length)])), ((q 1), .inl (g.2 0, (cap 1), .inl (f 1))), ((r 2), .inr (0, [.ref (q 2), .int (nI (L 2).length)])), ((q 2), .inl (g.2 0, (cap 2), .inl (f 2)))]) (va_runV (As := [.int i]) (rest := []) ⟨hx, hb, hml, hown, ht⟩ (cR_shorten l g s.heap.size (r 0) (q 0) (cap 0) (f 0) (L 0) (hrow 0 (by decide)) i) (cwV 1 ht (g_V q_283 q_276 q_277 q_37 q_278) rfl rfl rfl hd_R_shorten ⟨Nat.le_of_ble_eq_true rfl, Nat.le_of_ble_eq_true rfl⟩) (rw_V hK hPc hDc (va_recv hK.1 hPc (ci := 0) (q0 := 0) rfl rfl)) rfl rfl hl.1 rfl (lv_room (Nat.le_of_ble_eq_true rfl)) dP_shorten_5 ⟨by show 0 + 0 ≤ 0; omega, by show 0 + 0 ≤ 0; omega⟩) hP hD hS hA [1, 2] [0, 3, 4, 5, 6] rfl rfl (by decide) (by decide) (fun _ H locs hw hP hD hS => ?_)
  have hP : va_P g.1 vwCl [(a, .inr (1, [.ref (r 0), .ref (r 1), .ref (r 2)])), ((r 1), .inr (0, [.ref (q 1), .int (nI (L 1).length)])), ((q 1), .inl (g.2 0, (cap 1), .inl (f 1))), ((r 2), .inr (0, [.ref (q 2), .int (nI (L 2).length)])), ((q 2), .inl (g.2 0, (cap 2), .inl (f 2))), ((r 0), .inr (0, [.ref (q 0), .int (nI (rCut (L 0) i).length)])), ((q 0), .inl (g.2 0, (cap 0), .inl (f 0)))] H := hP
  have hD : va_D A [(a, .inr (1, [.ref (r 0), .ref (r 1), .ref (r 2)])), ((r 1), .inr (0, [.ref (q 1), .int (nI (L 1).length)])), ((q 1), .inl (g.2 0, (cap 1), .inl (f 1))), ((r 2), .inr (0, [.ref (q 2), .int (nI (L 2).length)])), ((q 2), .inl (g.2 0, (cap 2), .inl (f 2))), ((r 0), .inr (0, [.ref (q 0), .int (nI (rCut (L 0) i).length)])), ((q 0), .inl (g.2 0, (cap 0), .inl (f 0)))] := hD
  have hw0 := hw
  refine lv_aload_n hx hb dP_shorten_8 rfl (lv_at hl 0 rfl) ?_
  refine va_get (D := g.1) (ci := 1) (v := .ref (r 1)) (C := "NodeMaker$Pieces") (T := Fd_P) (N := 3) hx hb ht i_P hown hK.1 hP 0 rfl rfl 1 (by decide) (ht _ q_96) (fun _ h9 => h9) rfl dP_shorten_9 ?_
  refine lv_iload_n hx hb dP_shorten_12 rfl (lv_at hl 1 rfl) ?_
  have hPc := hP.sub (ws' := (rowW g (r 1) (q 1) (cap 1) (f 1) (L 1).length)) [1, 2] rfl
  have hDc := hD.sub (ws' := (rowW g (r 1) (q 1) (cap 1) (f 1) (L 1).length)) [1, 2] (by decide) rfl
  refine rw_v (wr := [(a, .inr (1, [.ref (r 0), .ref (r 1), .ref (r 2)])), ((r 2), .inr (0, [.ref (q 2), .int (nI (L 2).length)])), ((q 2), .inl (g.2 0, (cap 2), .inl (f 2))), ((r 0), .inr (0, [.ref (q 0), .int (nI (rCut (L 0) i).length)])), ((q 0), .inl (g.2 0, (cap 0), .inl (f 0)))]) (va_runV (As := [.int i]) (rest := []) ⟨hx, hb, hml, hown, ht⟩ (cR_shorten l g H.size (r 1) (q 1) (cap 1) (f 1) (L 1) (hrow 1 (by decide)) i) (cwV 1 ht (g_V q_283 q_276 q_277 q_37 q_278) rfl rfl rfl hd_R_shorten ⟨Nat.le_of_ble_eq_true rfl, Nat.le_of_ble_eq_true rfl⟩) (rw_V hK hPc hDc (va_recv hK.1 hPc (ci := 0) (q0 := 0) rfl rfl)) rfl rfl hl.1 rfl (lv_room (Nat.le_of_ble_eq_true rfl)) dP_shorten_13 ⟨by show 0 + 0 + 0 ≤ 0; omega, by show 0 + 0 + 0 ≤ 0; omega⟩) hP hD hS hA [1, 2] [0, 3, 4, 5, 6] rfl rfl (by decide) (by decide) (fun _ H locs hw hP hD hS => ?_)
  have hP : va_P g.1 vwCl [(a, .inr (1, [.ref (r 0), .ref (r 1), .ref (r 2)])), ((r 2), .inr (0, [.ref (q 2), .int (nI (L 2).length)])), ((q 2), .inl (g.2 0, (cap 2), .inl (f 2))), ((r 0), .inr (0, [.ref (q 0), .int (nI (rCut (L 0) i).length)])), ((q 0), .inl (g.2 0, (cap 0), .inl (f 0))), ((r 1), .inr (0, [.ref (q 1), .int (nI (rCut (L 1) i).length)])), ((q 1), .inl (g.2 0, (cap 1), .inl (f 1)))] H := hP
  have hD : va_D A [(a, .inr (1, [.ref (r 0), .ref (r 1), .ref (r 2)])), ((r 2), .inr (0, [.ref (q 2), .int (nI (L 2).length)])), ((q 2), .inl (g.2 0, (cap 2), .inl (f 2))), ((r 0), .inr (0, [.ref (q 0), .int (nI (rCut (L 0) i).length)])), ((q 0), .inl (g.2 0, (cap 0), .inl (f 0))), ((r 1), .inr (0, [.ref (q 1), .int (nI (rCut (L 1) i).length)])), ((q 1), .inl (g.2 0, (cap 1), .inl (f 1)))] := hD
  have hw1 := hw
  refine lv_aload_n hx hb dP_shorten_16 rfl (lv_at hl 0 rfl) ?_
  refine va_get (D := g.1) (ci := 1) (v := .ref (r 2)) (C := "NodeMaker$Pieces") (T := Fd_P) (N := 3) hx hb ht i_P hown hK.1 hP 0 rfl rfl 2 (by decide) (ht _ q_97) (fun _ h9 => h9) rfl dP_shorten_17 ?_
  refine lv_iload_n hx hb dP_shorten_20 rfl (lv_at hl 1 rfl) ?_
  have hPc := hP.sub (ws' := (rowW g (r 2) (q 2) (cap 2) (f 2) (L 2).length)) [1, 2] rfl
  have hDc := hD.sub (ws' := (rowW g (r 2) (q 2) (cap 2) (f 2) (L 2).length)) [1, 2] (by decide) rfl
  refine rw_v (wr := [(a, .inr (1, [.ref (r 0), .ref (r 1), .ref (r 2)])), ((r 0), .inr (0, [.ref (q 0), .int (nI (rCut (L 0) i).length)])), ((q 0), .inl (g.2 0, (cap 0), .inl (f 0))), ((r 1), .inr (0, [.ref (q 1), .int (nI (rCut (L 1) i).length)])), ((q 1), .inl (g.2 0, (cap 1), .inl (f 1)))]) (va_runV (As := [.int i]) (rest := []) ⟨hx, hb, hml, hown, ht⟩ (cR_shorten l g H.size (r 2) (q 2) (cap 2) (f 2) (L 2) (hrow 2 (by decide)) i) (cwV 1 ht (g_V q_283 q_276 q_277 q_37 q_278) rfl rfl rfl hd_R_shorten ⟨Nat.le_of_ble_eq_true rfl, Nat.le_of_ble_eq_true rfl⟩) (rw_V hK hPc hDc (va_recv hK.1 hPc (ci := 0) (q0 := 0) rfl rfl)) rfl rfl hl.1 rfl (lv_room (Nat.le_of_ble_eq_true rfl)) dP_shorten_21 ⟨by show 0 + 0 + 0 + 0 ≤ 0; omega, by show 0 + 0 + 0 + 0 ≤ 0; omega⟩) hP hD hS hA [1, 2] [0, 3, 4, 5, 6] rfl rfl (by decide) (by decide) (fun _ H locs hw hP hD hS => ?_)
  have hP : va_P g.1 vwCl [(a, .inr (1, [.ref (r 0), .ref (r 1), .ref (r 2)])), ((r 0), .inr (0, [.ref (q 0), .int (nI (rCut (L 0) i).length)])), ((q 0), .inl (g.2 0, (cap 0), .inl (f 0))), ((r 1), .inr (0, [.ref (q 1), .int (nI (rCut (L 1) i).length)])), ((q 1), .inl (g.2 0, (cap 1), .inl (f 1))), ((r 2), .inr (0, [.ref (q 2), .int (nI (rCut (L 2) i).length)])), ((q 2), .inl (g.2 0, (cap 2), .inl (f 2)))] H := hP
  have hD : va_D A [(a, .inr (1, [.ref (r 0), .ref (r 1), .ref (r 2)])), ((r 0), .inr (0, [.ref (q 0), .int (nI (rCut (L 0) i).length)])), ((q 0), .inl (g.2 0, (cap 0), .inl (f 0))), ((r 1), .inr (0, [.ref (q 1), .int (nI (rCut (L 1) i).length)])), ((q 1), .inl (g.2 0, (cap 1), .inl (f 1))), ((r 2), .inr (0, [.ref (q 2), .int (nI (rCut (L 2) i).length)])), ((q 2), .inl (g.2 0, (cap 2), .inl (f 2)))] := hD
  have hw2 := hw
  have hP9 := hP.sub (ws' := (piW g a r q cap f (fun k => (rCut (L k) i).length))) [0, 1, 2, 3, 4, 5, 6] rfl
  have hD9 := hD.sub (ws' := (piW g a r q cap f (fun k => (rCut (L k) i).length))) [0, 1, 2, 3, 4, 5, 6] (by decide) rfl
  exact W.vret hx hb hr (fun t ht9 hW => ⟨⟨(), rfl, rows3_of hw0 hw1 hw2, by rw [ht9]; exact hP9, hD9⟩, hS.F ht9⟩) hS.2.2 dP_shorten_24
theorem nwm_P_9 {U : State} (h : NW U) : va_Nw (.methodLinkNest "NodeMaker$Pieces" 9 yR_init "NodeMaker") U := h.2.2.2.2.1
theorem nwm_T_42 {U : State} (h : NW U) : va_Nw (.methodLinkNest "NodeMaker$Tree" 42 yP_init "NodeMaker") U := h.2.2.2.1
theorem nwm_T_20 {U : State} (h : NW U) : va_Nw (.methodLinkNest "NodeMaker$Tree" 20 yR_init "NodeMaker") U := h.2.2.1
theorem nwm_T_11 {U : State} (h : NW U) : va_Nw (.methodLinkNest "NodeMaker$Tree" 11 yS_init "NodeMaker") U := h.2.1
theorem nwm_N_11 {U : State} (h : NW U) : va_Nw (.methodLinkNest "NodeMaker" 11 yT_init "NodeMaker") U := h.1
set_option maxHeartbeats 4000000 in
set_option maxRecDepth 100000 in
theorem cP_init (l : Launch) (g : CX) (sz : Nat) (a : Nat) : Met l yP_init (wm yP_init kP_init 1 none) ({ frames := 2, cells := 6, slots := 198, locals := 32 }) (rw g [.ref a] [(a, .inr (1, [.null, .null, .null]))] sz) (va_Qv (fun (u : (Nat → Nat) × (Nat → Nat)) => True) (rB g (va_A [(a, .inr (1, [.null, .null, .null]))] sz) (fun u => (piW g a u.1 u.2 (fun _ => 64) (fun _ _ => 0) (fun _ => 0)))) (va_A [(a, .inr (1, [.null, .null, .null]))] sz)) 6 198 (va_A [(a, .inr (1, [.null, .null, .null]))] sz) := by
  refine Met.ofW (cc := kP_init) (maxL := 1) (ret := none) (by decide) rfl ?_
  intro p e s m args below meth c s₁ B hml hv
  obtain ⟨rfl, hsz, hK, hP, hD0⟩ := hv
  have hx := B.exec
  have hb := B.bytes
  have hr := B.returns
  have ht : ∀ w ∈ wT, w.before _ s = true := fun w h => atoms_spec (ws := wm yP_init kP_init 1 none) B.pre w (List.mem_cons_of_mem _ h)
  have hown : s.vm.findClass "NodeMaker$Pieces" = some m.cls := findClass_of_methodNamed B.named
  have hlocks := B.notSynchronized
  have hin : meth.name = "<init>" := (name_of_methodNamed B.named B.method).1
  subst hsz
  have hD := hD0.self (sz := s.heap.size)
  generalize hAe : va_A [(a, .inr (1, [.null, .null, .null]))] s.heap.size = A at hD ⊢
  have hA : ∀ q : Nat, s.heap.size ≤ q → A q := fun q h => by rw [← hAe]; exact Or.inr h
  have hS : va_S A s.heap s.heap [] := va_S.rf
  have hl := lv_entry ([.ref a]) (n := 1) (Nat.le_of_ble_eq_true rfl)
  rw [lg_entry_eq]
  generalize (lg_sl ([.ref a]) ++ List.replicate (1 - (lg_sl ([.ref a])).length) Slot.unset).toArray = ls at hl ⊢
  have hl : lv_has ls 1 [(0, .ref a)] := hl
  refine lv_aload_n hx hb dP_init_0 rfl (lv_at hl 0 rfl) ?_
  refine W.objInit hx hb hown (ht _ q_92) (ht _ q_50) (ht _ q_51) rfl (by rw [hml]; exact hl.1) rfl dP_init_1 (Nat.le_of_ble_eq_true rfl) (Nat.le_of_ble_eq_true rfl) ?_
  refine W.eq (g2 := F0 m 4 ls []) rfl ?_
  refine lv_aload_n hx hb dP_init_4 rfl (lv_at hl 0 rfl) ?_
  refine va_new (ci := 0) (fs := [.null, .int 0]) (C := "NodeMaker$Row") (T := Fd_R) (N := 2) hx hb ht i_R ty_R ty_R_ok hown (ht _ q_93) (ht _ q_74) (ht _ q_37) hK.1 hP hD hS hA rfl (fun j hj => by rcases (show j = 0 ∨ j = 1 by omega) with rfl | rfl <;> rfl) (by show 0 + 1 ≤ 6; omega) (by show 0 + 2 ≤ 198; omega) dP_init_5 (fun o_2 H hP hD hS => ?_)
  have hP : va_P g.1 vwCl [(a, .inr (1, [.null, .null, .null])), (o_2, .inr (0, [.null, .int 0]))] H := hP
  have hD : va_D A [(a, .inr (1, [.null, .null, .null])), (o_2, .inr (0, [.null, .int 0]))] := hD
  refine lv_dup hx hb dP_init_8 rfl ?_
  have hPc := hP.sub (ws' := [(o_2, .inr (0, [.null, .int 0]))]) [1] rfl
  have hDc := hD.sub (ws' := [(o_2, .inr (0, [.null, .int 0]))]) [1] (by decide) rfl
  refine rw_v (wr := [(a, .inr (1, [.null, .null, .null]))]) (va_runIN (As := []) (rest := [.ref o_2, .ref a]) ⟨hx, hb, hml, hown, ht⟩ (cR_init l g H.size o_2) ⟨va_cnB 0 ht (g_all q_77) rfl rfl rfl (nwm_P_9 hK.2) (ht _ q_37) hd_R_init ⟨Nat.le_of_ble_eq_true rfl, Nat.le_of_ble_eq_true rfl⟩, rfl, ht _ q_76⟩ (rw_S hK hPc hDc) rfl rfl hl.1 rfl (lv_room (Nat.le_of_ble_eq_true rfl)) dP_init_9 ⟨by show 0 + 1 + 1 ≤ 6; omega, by show 0 + 2 + 64 ≤ 198; omega⟩) hP hD hS hA [1] [0] rfl rfl (by decide) (by decide) (fun u_3 H locs hw hP hD hS => ?_)
  have hP : va_P g.1 vwCl [(a, .inr (1, [.null, .null, .null])), (o_2, .inr (0, [.ref u_3, .int (nI 0)])), (u_3, .inl (g.2 0, 64, .inl (fun _ => 0)))] H := hP
  have hD : va_D A [(a, .inr (1, [.null, .null, .null])), (o_2, .inr (0, [.ref u_3, .int (nI 0)])), (u_3, .inl (g.2 0, 64, .inl (fun _ => 0)))] := hD
  refine va_putF (D := g.1) (ci := 1) (v := .ref o_2) (ty := (.object "NodeMaker$Row")) (C := "NodeMaker$Pieces") (T := Fd_P) (N := 3) hx hb ht i_P ty_P ty_P_ok nm_P hown hK.1 hP hD hS 0 rfl rfl 0 (by decide) (ht _ q_95) (fun _ h9 => h9) rfl hin rfl (by decide +kernel) rfl rfl (Nat.le_of_ble_eq_true rfl) dP_init_12 (fun H locs hP hD hS => ?_)
  have hP : va_P g.1 vwCl [(a, .inr (1, [.ref o_2, .null, .null])), (o_2, .inr (0, [.ref u_3, .int (nI 0)])), (u_3, .inl (g.2 0, 64, .inl (fun _ => 0)))] H := hP
  have hD : va_D A [(a, .inr (1, [.ref o_2, .null, .null])), (o_2, .inr (0, [.ref u_3, .int (nI 0)])), (u_3, .inl (g.2 0, 64, .inl (fun _ => 0)))] := hD
  refine lv_aload_n hx hb dP_init_15 rfl (lv_at hl 0 rfl) ?_
  refine va_new (ci := 0) (fs := [.null, .int 0]) (C := "NodeMaker$Row") (T := Fd_R) (N := 2) hx hb ht i_R ty_R ty_R_ok hown (ht _ q_93) (ht _ q_74) (ht _ q_37) hK.1 hP hD hS hA rfl (fun j hj => by rcases (show j = 0 ∨ j = 1 by omega) with rfl | rfl <;> rfl) (by show 0 + 1 + 1 + 1 ≤ 6; omega) (by show 0 + 2 + 64 + 2 ≤ 198; omega) dP_init_16 (fun o_4 H hP hD hS => ?_)
  have hP : va_P g.1 vwCl [(a, .inr (1, [.ref o_2, .null, .null])), (o_2, .inr (0, [.ref u_3, .int (nI 0)])), (u_3, .inl (g.2 0, 64, .inl (fun _ => 0))), (o_4, .inr (0, [.null, .int 0]))] H := hP
  have hD : va_D A [(a, .inr (1, [.ref o_2, .null, .null])), (o_2, .inr (0, [.ref u_3, .int (nI 0)])), (u_3, .inl (g.2 0, 64, .inl (fun _ => 0))), (o_4, .inr (0, [.null, .int 0]))] := hD
  refine lv_dup hx hb dP_init_19 rfl ?_
  have hPc := hP.sub (ws' := [(o_4, .inr (0, [.null, .int 0]))]) [3] rfl
  have hDc := hD.sub (ws' := [(o_4, .inr (0, [.null, .int 0]))]) [3] (by decide) rfl
  refine rw_v (wr := [(a, .inr (1, [.ref o_2, .null, .null])), (o_2, .inr (0, [.ref u_3, .int (nI 0)])), (u_3, .inl (g.2 0, 64, .inl (fun _ => 0)))]) (va_runIN (As := []) (rest := [.ref o_4, .ref a]) ⟨hx, hb, hml, hown, ht⟩ (cR_init l g H.size o_4) ⟨va_cnB 0 ht (g_all q_77) rfl rfl rfl (nwm_P_9 hK.2) (ht _ q_37) hd_R_init ⟨Nat.le_of_ble_eq_true rfl, Nat.le_of_ble_eq_true rfl⟩, rfl, ht _ q_76⟩ (rw_S hK hPc hDc) rfl rfl hl.1 rfl (lv_room (Nat.le_of_ble_eq_true rfl)) dP_init_20 ⟨by show 0 + 1 + 1 + 1 + 1 ≤ 6; omega, by show 0 + 2 + 64 + 2 + 64 ≤ 198; omega⟩) hP hD hS hA [3] [0, 1, 2] rfl rfl (by decide) (by decide) (fun u_5 H locs hw hP hD hS => ?_)
  have hP : va_P g.1 vwCl [(a, .inr (1, [.ref o_2, .null, .null])), (o_2, .inr (0, [.ref u_3, .int (nI 0)])), (u_3, .inl (g.2 0, 64, .inl (fun _ => 0))), (o_4, .inr (0, [.ref u_5, .int (nI 0)])), (u_5, .inl (g.2 0, 64, .inl (fun _ => 0)))] H := hP
  have hD : va_D A [(a, .inr (1, [.ref o_2, .null, .null])), (o_2, .inr (0, [.ref u_3, .int (nI 0)])), (u_3, .inl (g.2 0, 64, .inl (fun _ => 0))), (o_4, .inr (0, [.ref u_5, .int (nI 0)])), (u_5, .inl (g.2 0, 64, .inl (fun _ => 0)))] := hD
  refine va_putF (D := g.1) (ci := 1) (v := .ref o_4) (ty := (.object "NodeMaker$Row")) (C := "NodeMaker$Pieces") (T := Fd_P) (N := 3) hx hb ht i_P ty_P ty_P_ok nm_P hown hK.1 hP hD hS 0 rfl rfl 1 (by decide) (ht _ q_96) (fun _ h9 => h9) rfl hin rfl (by decide +kernel) rfl rfl (Nat.le_of_ble_eq_true rfl) dP_init_23 (fun H locs hP hD hS => ?_)
  have hP : va_P g.1 vwCl [(a, .inr (1, [.ref o_2, .ref o_4, .null])), (o_2, .inr (0, [.ref u_3, .int (nI 0)])), (u_3, .inl (g.2 0, 64, .inl (fun _ => 0))), (o_4, .inr (0, [.ref u_5, .int (nI 0)])), (u_5, .inl (g.2 0, 64, .inl (fun _ => 0)))] H := hP
  have hD : va_D A [(a, .inr (1, [.ref o_2, .ref o_4, .null])), (o_2, .inr (0, [.ref u_3, .int (nI 0)])), (u_3, .inl (g.2 0, 64, .inl (fun _ => 0))), (o_4, .inr (0, [.ref u_5, .int (nI 0)])), (u_5, .inl (g.2 0, 64, .inl (fun _ => 0)))] := hD
  refine lv_aload_n hx hb dP_init_26 rfl (lv_at hl 0 rfl) ?_
  refine va_new (ci := 0) (fs := [.null, .int 0]) (C := "NodeMaker$Row") (T := Fd_R) (N := 2) hx hb ht i_R ty_R ty_R_ok hown (ht _ q_93) (ht _ q_74) (ht _ q_37) hK.1 hP hD hS hA rfl (fun j hj => by rcases (show j = 0 ∨ j = 1 by omega) with rfl | rfl <;> rfl) (by show 0 + 1 + 1 + 1 + 1 + 1 ≤ 6; omega) (by show 0 + 2 + 64 + 2 + 64 + 2 ≤ 198; omega) dP_init_27 (fun o_6 H hP hD hS => ?_)
  have hP : va_P g.1 vwCl [(a, .inr (1, [.ref o_2, .ref o_4, .null])), (o_2, .inr (0, [.ref u_3, .int (nI 0)])), (u_3, .inl (g.2 0, 64, .inl (fun _ => 0))), (o_4, .inr (0, [.ref u_5, .int (nI 0)])), (u_5, .inl (g.2 0, 64, .inl (fun _ => 0))), (o_6, .inr (0, [.null, .int 0]))] H := hP
  have hD : va_D A [(a, .inr (1, [.ref o_2, .ref o_4, .null])), (o_2, .inr (0, [.ref u_3, .int (nI 0)])), (u_3, .inl (g.2 0, 64, .inl (fun _ => 0))), (o_4, .inr (0, [.ref u_5, .int (nI 0)])), (u_5, .inl (g.2 0, 64, .inl (fun _ => 0))), (o_6, .inr (0, [.null, .int 0]))] := hD
  refine lv_dup hx hb dP_init_30 rfl ?_
  have hPc := hP.sub (ws' := [(o_6, .inr (0, [.null, .int 0]))]) [5] rfl
  have hDc := hD.sub (ws' := [(o_6, .inr (0, [.null, .int 0]))]) [5] (by decide) rfl
  refine rw_v (wr := [(a, .inr (1, [.ref o_2, .ref o_4, .null])), (o_2, .inr (0, [.ref u_3, .int (nI 0)])), (u_3, .inl (g.2 0, 64, .inl (fun _ => 0))), (o_4, .inr (0, [.ref u_5, .int (nI 0)])), (u_5, .inl (g.2 0, 64, .inl (fun _ => 0)))]) (va_runIN (As := []) (rest := [.ref o_6, .ref a]) ⟨hx, hb, hml, hown, ht⟩ (cR_init l g H.size o_6) ⟨va_cnB 0 ht (g_all q_77) rfl rfl rfl (nwm_P_9 hK.2) (ht _ q_37) hd_R_init ⟨Nat.le_of_ble_eq_true rfl, Nat.le_of_ble_eq_true rfl⟩, rfl, ht _ q_76⟩ (rw_S hK hPc hDc) rfl rfl hl.1 rfl (lv_room (Nat.le_of_ble_eq_true rfl)) dP_init_31 ⟨by show 0 + 1 + 1 + 1 + 1 + 1 + 1 ≤ 6; omega, by show 0 + 2 + 64 + 2 + 64 + 2 + 64 ≤ 198; omega⟩) hP hD hS hA [5] [0, 1, 2, 3, 4] rfl rfl (by decide) (by decide) (fun u_7 H locs hw hP hD hS => ?_)
  have hP : va_P g.1 vwCl [(a, .inr (1, [.ref o_2, .ref o_4, .null])), (o_2, .inr (0, [.ref u_3, .int (nI 0)])), (u_3, .inl (g.2 0, 64, .inl (fun _ => 0))), (o_4, .inr (0, [.ref u_5, .int (nI 0)])), (u_5, .inl (g.2 0, 64, .inl (fun _ => 0))), (o_6, .inr (0, [.ref u_7, .int (nI 0)])), (u_7, .inl (g.2 0, 64, .inl (fun _ => 0)))] H := hP
  have hD : va_D A [(a, .inr (1, [.ref o_2, .ref o_4, .null])), (o_2, .inr (0, [.ref u_3, .int (nI 0)])), (u_3, .inl (g.2 0, 64, .inl (fun _ => 0))), (o_4, .inr (0, [.ref u_5, .int (nI 0)])), (u_5, .inl (g.2 0, 64, .inl (fun _ => 0))), (o_6, .inr (0, [.ref u_7, .int (nI 0)])), (u_7, .inl (g.2 0, 64, .inl (fun _ => 0)))] := hD
  refine va_putF (D := g.1) (ci := 1) (v := .ref o_6) (ty := (.object "NodeMaker$Row")) (C := "NodeMaker$Pieces") (T := Fd_P) (N := 3) hx hb ht i_P ty_P ty_P_ok nm_P hown hK.1 hP hD hS 0 rfl rfl 2 (by decide) (ht _ q_97) (fun _ h9 => h9) rfl hin rfl (by decide +kernel) rfl rfl (Nat.le_of_ble_eq_true rfl) dP_init_34 (fun H locs hP hD hS => ?_)
  have hP : va_P g.1 vwCl [(a, .inr (1, [.ref o_2, .ref o_4, .ref o_6])), (o_2, .inr (0, [.ref u_3, .int (nI 0)])), (u_3, .inl (g.2 0, 64, .inl (fun _ => 0))), (o_4, .inr (0, [.ref u_5, .int (nI 0)])), (u_5, .inl (g.2 0, 64, .inl (fun _ => 0))), (o_6, .inr (0, [.ref u_7, .int (nI 0)])), (u_7, .inl (g.2 0, 64, .inl (fun _ => 0)))] H := hP
  have hD : va_D A [(a, .inr (1, [.ref o_2, .ref o_4, .ref o_6])), (o_2, .inr (0, [.ref u_3, .int (nI 0)])), (u_3, .inl (g.2 0, 64, .inl (fun _ => 0))), (o_4, .inr (0, [.ref u_5, .int (nI 0)])), (u_5, .inl (g.2 0, 64, .inl (fun _ => 0))), (o_6, .inr (0, [.ref u_7, .int (nI 0)])), (u_7, .inl (g.2 0, 64, .inl (fun _ => 0)))] := hD
  have hP9 := hP.sub (ws' := (piW g a (t3 o_2 o_4 o_6) (t3 u_3 u_5 u_7) (fun _ => 64) (fun _ _ => 0) (fun _ => 0))) [0, 1, 2, 3, 4, 5, 6] rfl
  have hD9 := hD.sub (ws' := (piW g a (t3 o_2 o_4 o_6) (t3 u_3 u_5 u_7) (fun _ => 64) (fun _ _ => 0) (fun _ => 0))) [0, 1, 2, 3, 4, 5, 6] (by decide) rfl
  exact W.vret hx hb hr (fun t ht9 hW => ⟨⟨(t3 o_2 o_4 o_6, t3 u_3 u_5 u_7), rfl, trivial, by rw [ht9]; exact hP9, hD9⟩, hS.F ht9⟩) hS.2.2 dP_init_37
