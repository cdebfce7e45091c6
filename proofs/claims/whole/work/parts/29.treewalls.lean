set_option maxHeartbeats 4000000 in
set_option maxRecDepth 100000 in
theorem cS_dropAll2 (l : Launch) (g : CX) (sz : Nat) (a q : Nat) (sl : Nat → Option Nat) (cnt : Int32) (LW : List Nat) (wv : Nat → WV) (hsl : slOK sl LW) : Met l yS_dropAll (wm yS_dropAll kS_dropAll 2 none) ({ frames := 0, cells := 0, slots := 0, locals := 0 }) (rw g [.ref a] (wsX g a q sl cnt ++ plW LW wv) sz) (va_Qv (fun (u : Nat → Option Nat) => (∀ j, j < 64 → u j = none) ∧ slOK u LW) (rB g (va_A (wsX g a q sl cnt ++ plW LW wv) sz) (fun u => (wsX g a q u 0 ++ plW LW wv))) (va_A (wsX g a q sl cnt ++ plW LW wv) sz)) 0 0 (va_A (wsX g a q sl cnt ++ plW LW wv) sz) := by
  refine Met.ofW (cc := kS_dropAll) (maxL := 2) (ret := none) (by decide) rfl ?_
  intro p e s m args below meth c s₁ B hml hv
  obtain ⟨rfl, hsz, hK, hP, hD0⟩ := hv
  have hx := B.exec
  have hb := B.bytes
  have hr := B.returns
  have ht : ∀ w ∈ wT, w.before _ s = true := fun w h => atoms_spec (ws := wm yS_dropAll kS_dropAll 2 none) B.pre w (List.mem_cons_of_mem _ h)
  have hown : s.vm.findClass "NodeMaker$Walls" = some m.cls := findClass_of_methodNamed B.named
  have hlocks := B.notSynchronized
  subst hsz
  have hD := hD0.self (sz := s.heap.size)
  generalize hAe : va_A (wsX g a q sl cnt ++ plW LW wv) s.heap.size = A at hD ⊢
  have hA : ∀ q : Nat, s.heap.size ≤ q → A q := fun q h => by rw [← hAe]; exact Or.inr h
  have hS : va_S A s.heap s.heap [] := va_S.rf
  have hl := lv_entry ([.ref a]) (n := 2) (Nat.le_of_ble_eq_true rfl)
  rw [lg_entry_eq]
  generalize (lg_sl ([.ref a]) ++ List.replicate (2 - (lg_sl ([.ref a])).length) Slot.unset).toArray = ls at hl ⊢
  have hl : lv_has ls 2 [(0, .ref a)] := hl
  refine lv_iconst (v := 0) hx hb dS_dropAll_0 (by decide) ?_
  refine lv_istore_n (lv' := [(1, .int 0), (0, .ref a)]) hx hb dS_dropAll_1 rfl hl (by decide) rfl (fun ls hl => ?_)
  have loop : ∀ (n k : Nat) (i : Int32) (sl : Nat → Option Nat) (H : Heap) (locs : List Loc) (ls : Array Slot), k + n = 64 → i = nI k → (∀ j, j < k → sl j = none) → slOK sl LW → va_P g.1 vwCl (wsX g a q sl cnt ++ plW LW wv) H → va_D A (wsX g a q sl cnt ++ plW LW wv) → va_S A s.heap H locs → lv_has ls 2 [(1, .int i), (0, .ref a)] → W p l e (headSpec (wm yS_dropAll kS_dropAll 2 none) ({ frames := 0, cells := 0, slots := 0, locals := 0 })).room s m ([.ref a] : List Value).toArray below meth c H locs (0) (0) (MQ below (va_Qv (fun (u : Nat → Option Nat) => (∀ j, j < 64 → u j = none) ∧ slOK u LW) (rB g A (fun u => (wsX g a q u 0 ++ plW LW wv))) A) ([.ref a] : List Value).toArray s 0 0 A) (F0 m 2 ls []) := by
    intro n
    induction n with
    | zero =>
      intro k i sl H locs ls hk hi hs hsl hP hD hS hl
      refine lv_iload_n hx hb dS_dropAll_2 rfl (lv_at hl 0 rfl) ?_
      refine lv_bipush (v := 64) hx hb dS_dropAll_3 (by decide) ?_
      refine lv_icmp_ge (tgt := 21) hx hb dS_dropAll_5 (by decide) (fun c_1 => ?_) (fun c_1 => ?_)
      · skip
        refine lv_aload_n hx hb dS_dropAll_21 rfl (lv_at hl 1 rfl) ?_
        refine lv_iconst (v := 0) hx hb dS_dropAll_22 (by decide) ?_
        refine va_put (D := g.1) (ci := 3) (v := .int 0) (ty := .int) (C := "NodeMaker$Walls") (T := Fd_S) (N := 2) hx hb ht i_S ty_S ty_S_ok nm_S hown hK.1 hP hD hS 0 rfl rfl 1 (by decide) (ht _ q_67) (fun _ h9 => h9) rfl (by decide +kernel) rfl rfl (Nat.le_of_ble_eq_true rfl) dS_dropAll_23 (fun H locs hP hD hS => ?_)
        have hP : va_P g.1 vwCl ([(a, .inr (3, [.ref q, .int 0])), (q, .inl (g.2 1, 64, .inr (.inr (.inr (.inr sl)))))] ++ plW LW wv) H := hP
        have hD : va_D A ([(a, .inr (3, [.ref q, .int 0])), (q, .inl (g.2 1, 64, .inr (.inr (.inr (.inr sl)))))] ++ plW LW wv) := hD
        exact W.vret hx hb hr (fun t ht9 hW => ⟨⟨sl, rfl, ⟨fun j hj => hs j (by omega), hsl⟩, by rw [ht9]; exact hP, hD⟩, hS.F ht9⟩) hS.2.2 dS_dropAll_26
      · skip
        exact absurd (by rw [hi]; exact nI_le (a := 64) (by omega) (by omega)) c_1
    | succ n ih =>
      intro k i sl H locs ls hk hi hs hsl hP hD hS hl
      refine lv_iload_n hx hb dS_dropAll_2 rfl (lv_at hl 0 rfl) ?_
      refine lv_bipush (v := 64) hx hb dS_dropAll_3 (by decide) ?_
      refine lv_icmp_ge (tgt := 21) hx hb dS_dropAll_5 (by decide) (fun c_2 => ?_) (fun c_2 => ?_)
      · skip
        exact absurd c_2 (by rw [hi]; exact nI_ge (b := 64) (by omega) (by omega))
      · skip
        refine lv_aload_n hx hb dS_dropAll_8 rfl (lv_at hl 1 rfl) ?_
        refine va_get (D := g.1) (ci := 3) (v := .ref q) (C := "NodeMaker$Walls") (T := Fd_S) (N := 2) hx hb ht i_S hown hK.1 hP 0 rfl rfl 0 (by decide) (ht _ q_66) (fun _ h9 => h9) rfl dS_dropAll_9 ?_
        refine lv_iload_n hx hb dS_dropAll_12 rfl (lv_at hl 0 rfl) ?_
        refine lv_null hx hb dS_dropAll_13 ?_
        refine va_astqN hx hb hK.1 hP hD hS 1 1 rfl rfl (by rw [hi]; exact vp_in_nI (by omega) (by omega)) dS_dropAll_14 (fun H locs hP hD hS => ?_)
        have hP : va_P g.1 vwCl ([(a, .inr (3, [.ref q, .int cnt])), (q, .inl (g.2 1, 64, .inr (.inr (.inr (.inr (va_up sl i.toNatClampNeg none))))))] ++ plW LW wv) H := hP
        have hD : va_D A ([(a, .inr (3, [.ref q, .int cnt])), (q, .inl (g.2 1, 64, .inr (.inr (.inr (.inr (va_up sl i.toNatClampNeg none))))))] ++ plW LW wv) := hD
        refine lv_iinc (v := i + 1) (lv' := [(1, .int (i + 1)), (0, .ref a)]) hx hb dS_dropAll_15 hl (k := 0) rfl rfl (by decide) rfl (fun ls hl => ?_)
        refine lv_goto (tgt := 2) hx hb dS_dropAll_18 (by decide) ?_
        have hs2 : ∀ j, j < k + 1 → va_up sl i.toNatClampNeg none j = none := lt_s (fun j hj => (va_up_ne _ _ (by rw [hi, nI_clamp (by omega)]; omega)).trans (hs j hj)) (by rw [hi, nI_clamp (by omega)]; exact va_up_self _ _ _)
        have hsl2 : slOK (va_up sl i.toNatClampNeg none) LW := fun j x h => by unfold va_up at h; split at h; cases h; exact hsl j x h
        exact ih (k + 1) (i + 1) (va_up sl i.toNatClampNeg none) _ _ ls (by omega) (by rw [hi]; exact nI_1 k) hs2 hsl2 hP hD hS hl
  exact loop 64 0 0 sl _ _ ls (by omega) rfl (fun j hj => absurd hj (Nat.not_lt_zero j)) hsl hP hD hS hl
set_option maxHeartbeats 4000000 in
set_option maxRecDepth 100000 in
theorem cT_addWall (l : Launch) (g : CX) (sz : Nat) (ad q : Nat → Nat) (f : Nat → Nat → Int32) (s0 : TSt) (sl : Nat → Option Nat) (cnt h st : Int32) (LW : List Nat) (wv : Nat → WV) (hz : rowsT s0.1 f s0.2) (hsl : slOK sl LW) (b : Nat) (hbL : b ∈ LW) : Met l yT_addWall (wm yT_addWall kT_addWall 3 (some .int)) ({ frames := 4, cells := 0, slots := 0, locals := 92 }) (rw g [.ref (ad 0), .ref b] (TW g ad q s0.1 f s0.2 sl cnt h st LW wv) sz) (va_Qi (fun (r : Int32) (u : (Nat → Nat) × (Nat → Nat → Int32)) => r = sS_add (wOf sl wv) (wv b) ∧ rowsT s0.1 u.2 s0.2) (rB g (va_A (TW g ad q s0.1 f s0.2 sl cnt h st LW wv) sz) (fun u => (TW g ad u.1 s0.1 u.2 s0.2 (slAdd sl (sS_add (wOf sl wv) (wv b)) b) (if sS_add (wOf sl wv) (wv b) = -1 then cnt else cnt + 1) h (if st = 0 then (if sS_add (wOf sl wv) (wv b) = -1 then 0 else 1) else 1 : Int32) LW wv))) (va_A (TW g ad q s0.1 f s0.2 sl cnt h st LW wv) sz)) 0 0 (va_A (TW g ad q s0.1 f s0.2 sl cnt h st LW wv) sz) := by
  refine Met.ofW (cc := kT_addWall) (maxL := 3) (ret := (some .int)) (by decide) rfl ?_
  intro p e s m args below meth c s₁ B hml hv
  obtain ⟨rfl, hsz, hK, hP, hD0⟩ := hv
  have hx := B.exec
  have hb := B.bytes
  have hr := B.returns
  have ht : ∀ w ∈ wT, w.before _ s = true := fun w h => atoms_spec (ws := wm yT_addWall kT_addWall 3 (some .int)) B.pre w (List.mem_cons_of_mem _ h)
  have hown : s.vm.findClass "NodeMaker$Tree" = some m.cls := findClass_of_methodNamed B.named
  have hlocks := B.notSynchronized
  subst hsz
  have hD := hD0.self (sz := s.heap.size)
  generalize hAe : va_A (TW g ad q s0.1 f s0.2 sl cnt h st LW wv) s.heap.size = A at hD ⊢
  have hA : ∀ q : Nat, s.heap.size ≤ q → A q := fun q h => by rw [← hAe]; exact Or.inr h
  have hS : va_S A s.heap s.heap [] := va_S.rf
  have hl := lv_entry ([.ref (ad 0), .ref b]) (n := 3) (Nat.le_of_ble_eq_true rfl)
  rw [lg_entry_eq]
  generalize (lg_sl ([.ref (ad 0), .ref b]) ++ List.replicate (3 - (lg_sl ([.ref (ad 0), .ref b])).length) Slot.unset).toArray = ls at hl ⊢
  have hl : lv_has ls 3 [(0, .ref (ad 0)), (1, .ref b)] := hl
  refine lv_aload_n hx hb dT_addWall_0 rfl (lv_at hl 0 rfl) ?_
  refine va_get (D := g.1) (ci := 4) (v := .ref (ad 1)) (C := "NodeMaker$Tree") (T := Fd_T) (N := 16) hx hb ht i_T hown hK.1 hP 0 rfl rfl 0 (by decide) (ht _ q_105) (fun _ h9 => h9) rfl dT_addWall_1 ?_
  refine lv_aload_n hx hb dT_addWall_4 rfl (lv_at hl 1 rfl) ?_
  have hPc := pl_P (cx := wsX g (ad 1) (ad 2) sl cnt) hP [1, 2] rfl
  have hDc := pl_D (cx := wsX g (ad 1) (ad 2) sl cnt) hD [1, 2] (by decide) rfl
  refine rw_iP (X := treeX g ad q s0.1 f s0.2 sl cnt h st) (pl := plW LW wv) (cx := wsX g (ad 1) (ad 2) sl cnt) (rx := fun u => wsX g (ad 1) (ad 2) (slAdd sl (sS_add (wOf sl wv) (wv b)) b) (if sS_add (wOf sl wv) (wv b) = -1 then cnt else cnt + 1)) (pl1 := fun _ => plW LW wv) (wr := ([0, 3, 4, 5, 6, 7, 8, 9, 10, 11, 12, 13, 14, 15, 16, 17, 18, 19, 20, 21, 22, 23, 24, 25, 26, 27, 28, 29, 30, 31, 32, 33, 34, 35, 36, 37, 38, 39, 40, 41, 42, 43] : List Nat).filterMap (fun i => (treeX g ad q s0.1 f s0.2 sl cnt h st)[i]?)) (va_runV (As := [.ref b]) (rest := []) ⟨hx, hb, hml, hown, ht⟩ (cS_add l g s.heap.size (ad 1) (ad 2) sl cnt LW wv hsl b hbL) (cwV 1 ht (g_V q_205 q_206 q_207 q_36 q_208) rfl rfl rfl hd_S_add ⟨Nat.le_of_ble_eq_true rfl, Nat.le_of_ble_eq_true rfl⟩) (rw_V hK hPc hDc (va_recv hK.1 hPc (ci := 3) (q0 := 0) rfl rfl)) rfl rfl hl.1 rfl (lv_room (Nat.le_of_ble_eq_true rfl)) dT_addWall_5 ⟨Nat.zero_le _, Nat.zero_le _⟩) hP hD hS hA [1, 2] [0, 3, 4, 5, 6, 7, 8, 9, 10, 11, 12, 13, 14, 15, 16, 17, 18, 19, 20, 21, 22, 23, 24, 25, 26, 27, 28, 29, 30, 31, 32, 33, 34, 35, 36, 37, 38, 39, 40, 41, 42, 43] rfl rfl (by decide) (by decide) (fun r u H locs hw hP hD hS => ?_)
  have hP : va_P g.1 vwCl (TW g ad q s0.1 f s0.2 (slAdd sl (sS_add (wOf sl wv) (wv b)) b) (if sS_add (wOf sl wv) (wv b) = -1 then cnt else cnt + 1) h st LW wv) H := pl_P (cx := treeX g ad q s0.1 f s0.2 (slAdd sl (sS_add (wOf sl wv) (wv b)) b) (if sS_add (wOf sl wv) (wv b) = -1 then cnt else cnt + 1) h st) hP [0, 42, 43, 1, 2, 3, 4, 5, 6, 7, 8, 9, 10, 11, 12, 13, 14, 15, 16, 17, 18, 19, 20, 21, 22, 23, 24, 25, 26, 27, 28, 29, 30, 31, 32, 33, 34, 35, 36, 37, 38, 39, 40, 41] rfl
  have hD : va_D A (TW g ad q s0.1 f s0.2 (slAdd sl (sS_add (wOf sl wv) (wv b)) b) (if sS_add (wOf sl wv) (wv b) = -1 then cnt else cnt + 1) h st LW wv) := pl_D (cx := treeX g ad q s0.1 f s0.2 (slAdd sl (sS_add (wOf sl wv) (wv b)) b) (if sS_add (wOf sl wv) (wv b) = -1 then cnt else cnt + 1) h st) hD [0, 42, 43, 1, 2, 3, 4, 5, 6, 7, 8, 9, 10, 11, 12, 13, 14, 15, 16, 17, 18, 19, 20, 21, 22, 23, 24, 25, 26, 27, 28, 29, 30, 31, 32, 33, 34, 35, 36, 37, 38, 39, 40, 41] (by decide) rfl
  subst hw
  refine lv_istore_n (lv' := [(2, .int (sS_add (wOf sl wv) (wv b))), (0, .ref (ad 0)), (1, .ref b)]) hx hb dT_addWall_8 rfl hl (by decide) rfl (fun ls hl => ?_)
  refine lv_aload_n hx hb dT_addWall_9 rfl (lv_at hl 1 rfl) ?_
  refine lv_aload_n hx hb dT_addWall_10 rfl (lv_at hl 1 rfl) ?_
  refine va_get (D := g.1) (ci := 4) (v := .int st) (C := "NodeMaker$Tree") (T := Fd_T) (N := 16) hx hb ht i_T hown hK.1 hP 0 rfl rfl 15 (by decide) (ht _ q_120) (fun _ h9 => h9) rfl dT_addWall_11 ?_
  refine lv_if_ne (tgt := 22) hx hb dT_addWall_14 (by decide) (fun c_3 => ?_) (fun c_3 => ?_)
  · skip
    refine lv_iconst (v := 1) hx hb dT_addWall_22 (by decide) ?_
    refine lv_goto (tgt := 27) hx hb dT_addWall_23 (by decide) ?_
    refine va_put (D := g.1) (ci := 4) (v := .int 1) (ty := .boolean) (C := "NodeMaker$Tree") (T := Fd_T) (N := 16) hx hb ht i_T ty_T ty_T_ok nm_T hown hK.1 hP hD hS 0 rfl rfl 15 (by decide) (ht _ q_120) (fun _ h9 => h9) rfl (by decide +kernel) rfl rfl (Nat.le_of_ble_eq_true rfl) dT_addWall_27 (fun H locs hP hD hS => ?_)
    have hP : va_P g.1 vwCl (TW g ad q s0.1 f s0.2 (slAdd sl (sS_add (wOf sl wv) (wv b)) b) (if sS_add (wOf sl wv) (wv b) = -1 then cnt else cnt + 1) h 1 LW wv) H := hP
    have hD : va_D A (TW g ad q s0.1 f s0.2 (slAdd sl (sS_add (wOf sl wv) (wv b)) b) (if sS_add (wOf sl wv) (wv b) = -1 then cnt else cnt + 1) h 1 LW wv) := hD
    refine lv_iload_n hx hb dT_addWall_30 rfl (lv_at hl 0 rfl) ?_
    have e9 : (if st = 0 then (if sS_add (wOf sl wv) (wv b) = -1 then 0 else 1) else 1 : Int32) = 1 := by rw [if_neg c_3]
    have hP9 : va_P g.1 vwCl (TW g ad q s0.1 f s0.2 (slAdd sl (sS_add (wOf sl wv) (wv b)) b) (if sS_add (wOf sl wv) (wv b) = -1 then cnt else cnt + 1) h (if st = 0 then (if sS_add (wOf sl wv) (wv b) = -1 then 0 else 1) else 1 : Int32) LW wv) H := by rw [e9]; exact hP
    have hD9 : va_D A (TW g ad q s0.1 f s0.2 (slAdd sl (sS_add (wOf sl wv) (wv b)) b) (if sS_add (wOf sl wv) (wv b) = -1 then cnt else cnt + 1) h (if st = 0 then (if sS_add (wOf sl wv) (wv b) = -1 then 0 else 1) else 1 : Int32) LW wv) := by rw [e9]; exact hD
    exact W.iret hx hb hr (fun t ht9 hW => ⟨⟨_, (q, f), rfl, ⟨rfl, hz⟩, by rw [ht9]; exact hP9, hD9⟩, hS.F ht9⟩) hS.2.2 dT_addWall_31
  · skip
    refine lv_iload_n hx hb dT_addWall_17 rfl (lv_at hl 0 rfl) ?_
    refine lv_iconst (v := -1) hx hb dT_addWall_18 (by decide) ?_
    refine lv_icmp_eq (tgt := 26) hx hb dT_addWall_19 (by decide) (fun c_4 => ?_) (fun c_4 => ?_)
    · skip
      refine lv_iconst (v := 0) hx hb dT_addWall_26 (by decide) ?_
      refine va_put (D := g.1) (ci := 4) (v := .int 0) (ty := .boolean) (C := "NodeMaker$Tree") (T := Fd_T) (N := 16) hx hb ht i_T ty_T ty_T_ok nm_T hown hK.1 hP hD hS 0 rfl rfl 15 (by decide) (ht _ q_120) (fun _ h9 => h9) rfl (by decide +kernel) rfl rfl (Nat.le_of_ble_eq_true rfl) dT_addWall_27 (fun H locs hP hD hS => ?_)
      have hP : va_P g.1 vwCl (TW g ad q s0.1 f s0.2 (slAdd sl (sS_add (wOf sl wv) (wv b)) b) (if sS_add (wOf sl wv) (wv b) = -1 then cnt else cnt + 1) h 0 LW wv) H := hP
      have hD : va_D A (TW g ad q s0.1 f s0.2 (slAdd sl (sS_add (wOf sl wv) (wv b)) b) (if sS_add (wOf sl wv) (wv b) = -1 then cnt else cnt + 1) h 0 LW wv) := hD
      refine lv_iload_n hx hb dT_addWall_30 rfl (lv_at hl 0 rfl) ?_
      have e9 : (if st = 0 then (if sS_add (wOf sl wv) (wv b) = -1 then 0 else 1) else 1 : Int32) = 0 := by rw [if_pos c_3, if_pos c_4]
      have hP9 : va_P g.1 vwCl (TW g ad q s0.1 f s0.2 (slAdd sl (sS_add (wOf sl wv) (wv b)) b) (if sS_add (wOf sl wv) (wv b) = -1 then cnt else cnt + 1) h (if st = 0 then (if sS_add (wOf sl wv) (wv b) = -1 then 0 else 1) else 1 : Int32) LW wv) H := by rw [e9]; exact hP
      have hD9 : va_D A (TW g ad q s0.1 f s0.2 (slAdd sl (sS_add (wOf sl wv) (wv b)) b) (if sS_add (wOf sl wv) (wv b) = -1 then cnt else cnt + 1) h (if st = 0 then (if sS_add (wOf sl wv) (wv b) = -1 then 0 else 1) else 1 : Int32) LW wv) := by rw [e9]; exact hD
      exact W.iret hx hb hr (fun t ht9 hW => ⟨⟨_, (q, f), rfl, ⟨rfl, hz⟩, by rw [ht9]; exact hP9, hD9⟩, hS.F ht9⟩) hS.2.2 dT_addWall_31
    · skip
      refine lv_iconst (v := 1) hx hb dT_addWall_22 (by decide) ?_
      refine lv_goto (tgt := 27) hx hb dT_addWall_23 (by decide) ?_
      refine va_put (D := g.1) (ci := 4) (v := .int 1) (ty := .boolean) (C := "NodeMaker$Tree") (T := Fd_T) (N := 16) hx hb ht i_T ty_T ty_T_ok nm_T hown hK.1 hP hD hS 0 rfl rfl 15 (by decide) (ht _ q_120) (fun _ h9 => h9) rfl (by decide +kernel) rfl rfl (Nat.le_of_ble_eq_true rfl) dT_addWall_27 (fun H locs hP hD hS => ?_)
      have hP : va_P g.1 vwCl (TW g ad q s0.1 f s0.2 (slAdd sl (sS_add (wOf sl wv) (wv b)) b) (if sS_add (wOf sl wv) (wv b) = -1 then cnt else cnt + 1) h 1 LW wv) H := hP
      have hD : va_D A (TW g ad q s0.1 f s0.2 (slAdd sl (sS_add (wOf sl wv) (wv b)) b) (if sS_add (wOf sl wv) (wv b) = -1 then cnt else cnt + 1) h 1 LW wv) := hD
      refine lv_iload_n hx hb dT_addWall_30 rfl (lv_at hl 0 rfl) ?_
      have e9 : (if st = 0 then (if sS_add (wOf sl wv) (wv b) = -1 then 0 else 1) else 1 : Int32) = 1 := by rw [if_pos c_3, if_neg c_4]
      have hP9 : va_P g.1 vwCl (TW g ad q s0.1 f s0.2 (slAdd sl (sS_add (wOf sl wv) (wv b)) b) (if sS_add (wOf sl wv) (wv b) = -1 then cnt else cnt + 1) h (if st = 0 then (if sS_add (wOf sl wv) (wv b) = -1 then 0 else 1) else 1 : Int32) LW wv) H := by rw [e9]; exact hP
      have hD9 : va_D A (TW g ad q s0.1 f s0.2 (slAdd sl (sS_add (wOf sl wv) (wv b)) b) (if sS_add (wOf sl wv) (wv b) = -1 then cnt else cnt + 1) h (if st = 0 then (if sS_add (wOf sl wv) (wv b) = -1 then 0 else 1) else 1 : Int32) LW wv) := by rw [e9]; exact hD
      exact W.iret hx hb hr (fun t ht9 hW => ⟨⟨_, (q, f), rfl, ⟨rfl, hz⟩, by rw [ht9]; exact hP9, hD9⟩, hS.F ht9⟩) hS.2.2 dT_addWall_31
set_option maxHeartbeats 4000000 in
set_option maxRecDepth 100000 in
theorem cT_dropWall (l : Launch) (g : CX) (sz : Nat) (ad q : Nat → Nat) (f : Nat → Nat → Int32) (s0 : TSt) (sl : Nat → Option Nat) (cnt h st : Int32) (LW : List Nat) (wv : Nat → WV) (hz : rowsT s0.1 f s0.2) (hsl : slOK sl LW) (i : Int32) : Met l yT_dropWall (wm yT_dropWall kT_dropWall 3 (some .boolean)) ({ frames := 2, cells := 0, slots := 0, locals := 42 }) (rw g [.ref (ad 0), .int i] (TW g ad q s0.1 f s0.2 sl cnt h st LW wv) sz) (va_Qi (fun (r : Int32) (u : (Nat → Nat) × (Nat → Nat → Int32)) => r = (if wAt (wOf sl wv) i = none then 0 else 1 : Int32) ∧ rowsT s0.1 u.2 s0.2) (rB g (va_A (TW g ad q s0.1 f s0.2 sl cnt h st LW wv) sz) (fun u => (TW g ad u.1 s0.1 u.2 s0.2 (slDrop (wOf sl wv) sl i) (if wAt (wOf sl wv) i = none then cnt else cnt - 1) h (if st = 0 then (if (if wAt (wOf sl wv) i = none then 0 else 1 : Int32) = 0 then 0 else 1) else 1 : Int32) LW wv))) (va_A (TW g ad q s0.1 f s0.2 sl cnt h st LW wv) sz)) 0 0 (va_A (TW g ad q s0.1 f s0.2 sl cnt h st LW wv) sz) := by
  refine Met.ofW (cc := kT_dropWall) (maxL := 3) (ret := (some .boolean)) (by decide) rfl ?_
  intro p e s m args below meth c s₁ B hml hv
  obtain ⟨rfl, hsz, hK, hP, hD0⟩ := hv
  have hx := B.exec
  have hb := B.bytes
  have hr := B.returns
  have ht : ∀ w ∈ wT, w.before _ s = true := fun w h => atoms_spec (ws := wm yT_dropWall kT_dropWall 3 (some .boolean)) B.pre w (List.mem_cons_of_mem _ h)
  have hown : s.vm.findClass "NodeMaker$Tree" = some m.cls := findClass_of_methodNamed B.named
  have hlocks := B.notSynchronized
  subst hsz
  have hD := hD0.self (sz := s.heap.size)
  generalize hAe : va_A (TW g ad q s0.1 f s0.2 sl cnt h st LW wv) s.heap.size = A at hD ⊢
  have hA : ∀ q : Nat, s.heap.size ≤ q → A q := fun q h => by rw [← hAe]; exact Or.inr h
  have hS : va_S A s.heap s.heap [] := va_S.rf
  have hl := lv_entry ([.ref (ad 0), .int i]) (n := 3) (Nat.le_of_ble_eq_true rfl)
  rw [lg_entry_eq]
  generalize (lg_sl ([.ref (ad 0), .int i]) ++ List.replicate (3 - (lg_sl ([.ref (ad 0), .int i])).length) Slot.unset).toArray = ls at hl ⊢
  have hl : lv_has ls 3 [(0, .ref (ad 0)), (1, .int i)] := hl
  refine lv_aload_n hx hb dT_dropWall_0 rfl (lv_at hl 0 rfl) ?_
  refine va_get (D := g.1) (ci := 4) (v := .ref (ad 1)) (C := "NodeMaker$Tree") (T := Fd_T) (N := 16) hx hb ht i_T hown hK.1 hP 0 rfl rfl 0 (by decide) (ht _ q_105) (fun _ h9 => h9) rfl dT_dropWall_1 ?_
  refine lv_iload_n hx hb dT_dropWall_4 rfl (lv_at hl 1 rfl) ?_
  have hPc := pl_P (cx := wsX g (ad 1) (ad 2) sl cnt) hP [1, 2] rfl
  have hDc := pl_D (cx := wsX g (ad 1) (ad 2) sl cnt) hD [1, 2] (by decide) rfl
  refine rw_iP (X := treeX g ad q s0.1 f s0.2 sl cnt h st) (pl := plW LW wv) (cx := wsX g (ad 1) (ad 2) sl cnt) (rx := fun u => wsX g (ad 1) (ad 2) (slDrop (wOf sl wv) sl i) (if wAt (wOf sl wv) i = none then cnt else cnt - 1)) (pl1 := fun _ => plW LW wv) (wr := ([0, 3, 4, 5, 6, 7, 8, 9, 10, 11, 12, 13, 14, 15, 16, 17, 18, 19, 20, 21, 22, 23, 24, 25, 26, 27, 28, 29, 30, 31, 32, 33, 34, 35, 36, 37, 38, 39, 40, 41, 42, 43] : List Nat).filterMap (fun i => (treeX g ad q s0.1 f s0.2 sl cnt h st)[i]?)) (va_runV (As := [.int i]) (rest := []) ⟨hx, hb, hml, hown, ht⟩ (cS_drop l g s.heap.size (ad 1) (ad 2) sl cnt LW wv hsl i) (cwV 1 ht (g_V q_243 q_244 q_245 q_36 q_246) rfl rfl rfl hd_S_drop ⟨Nat.le_of_ble_eq_true rfl, Nat.le_of_ble_eq_true rfl⟩) (rw_V hK hPc hDc (va_recv hK.1 hPc (ci := 3) (q0 := 0) rfl rfl)) rfl rfl hl.1 rfl (lv_room (Nat.le_of_ble_eq_true rfl)) dT_dropWall_5 ⟨Nat.zero_le _, Nat.zero_le _⟩) hP hD hS hA [1, 2] [0, 3, 4, 5, 6, 7, 8, 9, 10, 11, 12, 13, 14, 15, 16, 17, 18, 19, 20, 21, 22, 23, 24, 25, 26, 27, 28, 29, 30, 31, 32, 33, 34, 35, 36, 37, 38, 39, 40, 41, 42, 43] rfl rfl (by decide) (by decide) (fun r u H locs hw hP hD hS => ?_)
  have hP : va_P g.1 vwCl (TW g ad q s0.1 f s0.2 (slDrop (wOf sl wv) sl i) (if wAt (wOf sl wv) i = none then cnt else cnt - 1) h st LW wv) H := pl_P (cx := treeX g ad q s0.1 f s0.2 (slDrop (wOf sl wv) sl i) (if wAt (wOf sl wv) i = none then cnt else cnt - 1) h st) hP [0, 42, 43, 1, 2, 3, 4, 5, 6, 7, 8, 9, 10, 11, 12, 13, 14, 15, 16, 17, 18, 19, 20, 21, 22, 23, 24, 25, 26, 27, 28, 29, 30, 31, 32, 33, 34, 35, 36, 37, 38, 39, 40, 41] rfl
  have hD : va_D A (TW g ad q s0.1 f s0.2 (slDrop (wOf sl wv) sl i) (if wAt (wOf sl wv) i = none then cnt else cnt - 1) h st LW wv) := pl_D (cx := treeX g ad q s0.1 f s0.2 (slDrop (wOf sl wv) sl i) (if wAt (wOf sl wv) i = none then cnt else cnt - 1) h st) hD [0, 42, 43, 1, 2, 3, 4, 5, 6, 7, 8, 9, 10, 11, 12, 13, 14, 15, 16, 17, 18, 19, 20, 21, 22, 23, 24, 25, 26, 27, 28, 29, 30, 31, 32, 33, 34, 35, 36, 37, 38, 39, 40, 41] (by decide) rfl
  subst hw
  refine lv_istore_n (lv' := [(2, .int (if wAt (wOf sl wv) i = none then 0 else 1 : Int32)), (0, .ref (ad 0)), (1, .int i)]) hx hb dT_dropWall_8 rfl hl (by decide) rfl (fun ls hl => ?_)
  refine lv_aload_n hx hb dT_dropWall_9 rfl (lv_at hl 1 rfl) ?_
  refine lv_aload_n hx hb dT_dropWall_10 rfl (lv_at hl 1 rfl) ?_
  refine va_get (D := g.1) (ci := 4) (v := .int st) (C := "NodeMaker$Tree") (T := Fd_T) (N := 16) hx hb ht i_T hown hK.1 hP 0 rfl rfl 15 (by decide) (ht _ q_120) (fun _ h9 => h9) rfl dT_dropWall_11 ?_
  refine lv_if_ne (tgt := 21) hx hb dT_dropWall_14 (by decide) (fun c_5 => ?_) (fun c_5 => ?_)
  · skip
    refine lv_iconst (v := 1) hx hb dT_dropWall_21 (by decide) ?_
    refine lv_goto (tgt := 26) hx hb dT_dropWall_22 (by decide) ?_
    refine va_put (D := g.1) (ci := 4) (v := .int 1) (ty := .boolean) (C := "NodeMaker$Tree") (T := Fd_T) (N := 16) hx hb ht i_T ty_T ty_T_ok nm_T hown hK.1 hP hD hS 0 rfl rfl 15 (by decide) (ht _ q_120) (fun _ h9 => h9) rfl (by decide +kernel) rfl rfl (Nat.le_of_ble_eq_true rfl) dT_dropWall_26 (fun H locs hP hD hS => ?_)
    have hP : va_P g.1 vwCl (TW g ad q s0.1 f s0.2 (slDrop (wOf sl wv) sl i) (if wAt (wOf sl wv) i = none then cnt else cnt - 1) h 1 LW wv) H := hP
    have hD : va_D A (TW g ad q s0.1 f s0.2 (slDrop (wOf sl wv) sl i) (if wAt (wOf sl wv) i = none then cnt else cnt - 1) h 1 LW wv) := hD
    refine lv_iload_n hx hb dT_dropWall_29 rfl (lv_at hl 0 rfl) ?_
    have e9 : (if st = 0 then (if (if wAt (wOf sl wv) i = none then 0 else 1 : Int32) = 0 then 0 else 1) else 1 : Int32) = 1 := by rw [if_neg c_5]
    have hP9 : va_P g.1 vwCl (TW g ad q s0.1 f s0.2 (slDrop (wOf sl wv) sl i) (if wAt (wOf sl wv) i = none then cnt else cnt - 1) h (if st = 0 then (if (if wAt (wOf sl wv) i = none then 0 else 1 : Int32) = 0 then 0 else 1) else 1 : Int32) LW wv) H := by rw [e9]; exact hP
    have hD9 : va_D A (TW g ad q s0.1 f s0.2 (slDrop (wOf sl wv) sl i) (if wAt (wOf sl wv) i = none then cnt else cnt - 1) h (if st = 0 then (if (if wAt (wOf sl wv) i = none then 0 else 1 : Int32) = 0 then 0 else 1) else 1 : Int32) LW wv) := by rw [e9]; exact hD
    exact W.zret hx hb hr (by split <;> rfl) (fun t ht9 hW => ⟨⟨_, (q, f), rfl, ⟨rfl, hz⟩, by rw [ht9]; exact hP9, hD9⟩, hS.F ht9⟩) hS.2.2 dT_dropWall_30
  · skip
    refine lv_iload_n hx hb dT_dropWall_17 rfl (lv_at hl 0 rfl) ?_
    refine lv_if_eq (tgt := 25) hx hb dT_dropWall_18 (by decide) (fun c_6 => ?_) (fun c_6 => ?_)
    · skip
      refine lv_iconst (v := 0) hx hb dT_dropWall_25 (by decide) ?_
      refine va_put (D := g.1) (ci := 4) (v := .int 0) (ty := .boolean) (C := "NodeMaker$Tree") (T := Fd_T) (N := 16) hx hb ht i_T ty_T ty_T_ok nm_T hown hK.1 hP hD hS 0 rfl rfl 15 (by decide) (ht _ q_120) (fun _ h9 => h9) rfl (by decide +kernel) rfl rfl (Nat.le_of_ble_eq_true rfl) dT_dropWall_26 (fun H locs hP hD hS => ?_)
      have hP : va_P g.1 vwCl (TW g ad q s0.1 f s0.2 (slDrop (wOf sl wv) sl i) (if wAt (wOf sl wv) i = none then cnt else cnt - 1) h 0 LW wv) H := hP
      have hD : va_D A (TW g ad q s0.1 f s0.2 (slDrop (wOf sl wv) sl i) (if wAt (wOf sl wv) i = none then cnt else cnt - 1) h 0 LW wv) := hD
      refine lv_iload_n hx hb dT_dropWall_29 rfl (lv_at hl 0 rfl) ?_
      have e9 : (if st = 0 then (if (if wAt (wOf sl wv) i = none then 0 else 1 : Int32) = 0 then 0 else 1) else 1 : Int32) = 0 := by rw [if_pos c_5, if_pos c_6]
      have hP9 : va_P g.1 vwCl (TW g ad q s0.1 f s0.2 (slDrop (wOf sl wv) sl i) (if wAt (wOf sl wv) i = none then cnt else cnt - 1) h (if st = 0 then (if (if wAt (wOf sl wv) i = none then 0 else 1 : Int32) = 0 then 0 else 1) else 1 : Int32) LW wv) H := by rw [e9]; exact hP
      have hD9 : va_D A (TW g ad q s0.1 f s0.2 (slDrop (wOf sl wv) sl i) (if wAt (wOf sl wv) i = none then cnt else cnt - 1) h (if st = 0 then (if (if wAt (wOf sl wv) i = none then 0 else 1 : Int32) = 0 then 0 else 1) else 1 : Int32) LW wv) := by rw [e9]; exact hD
      exact W.zret hx hb hr (by split <;> rfl) (fun t ht9 hW => ⟨⟨_, (q, f), rfl, ⟨rfl, hz⟩, by rw [ht9]; exact hP9, hD9⟩, hS.F ht9⟩) hS.2.2 dT_dropWall_30
    · skip
      refine lv_iconst (v := 1) hx hb dT_dropWall_21 (by decide) ?_
      refine lv_goto (tgt := 26) hx hb dT_dropWall_22 (by decide) ?_
      refine va_put (D := g.1) (ci := 4) (v := .int 1) (ty := .boolean) (C := "NodeMaker$Tree") (T := Fd_T) (N := 16) hx hb ht i_T ty_T ty_T_ok nm_T hown hK.1 hP hD hS 0 rfl rfl 15 (by decide) (ht _ q_120) (fun _ h9 => h9) rfl (by decide +kernel) rfl rfl (Nat.le_of_ble_eq_true rfl) dT_dropWall_26 (fun H locs hP hD hS => ?_)
      have hP : va_P g.1 vwCl (TW g ad q s0.1 f s0.2 (slDrop (wOf sl wv) sl i) (if wAt (wOf sl wv) i = none then cnt else cnt - 1) h 1 LW wv) H := hP
      have hD : va_D A (TW g ad q s0.1 f s0.2 (slDrop (wOf sl wv) sl i) (if wAt (wOf sl wv) i = none then cnt else cnt - 1) h 1 LW wv) := hD
      refine lv_iload_n hx hb dT_dropWall_29 rfl (lv_at hl 0 rfl) ?_
      have e9 : (if st = 0 then (if (if wAt (wOf sl wv) i = none then 0 else 1 : Int32) = 0 then 0 else 1) else 1 : Int32) = 1 := by rw [if_pos c_5, if_neg c_6]
      have hP9 : va_P g.1 vwCl (TW g ad q s0.1 f s0.2 (slDrop (wOf sl wv) sl i) (if wAt (wOf sl wv) i = none then cnt else cnt - 1) h (if st = 0 then (if (if wAt (wOf sl wv) i = none then 0 else 1 : Int32) = 0 then 0 else 1) else 1 : Int32) LW wv) H := by rw [e9]; exact hP
      have hD9 : va_D A (TW g ad q s0.1 f s0.2 (slDrop (wOf sl wv) sl i) (if wAt (wOf sl wv) i = none then cnt else cnt - 1) h (if st = 0 then (if (if wAt (wOf sl wv) i = none then 0 else 1 : Int32) = 0 then 0 else 1) else 1 : Int32) LW wv) := by rw [e9]; exact hD
      exact W.zret hx hb hr (by split <;> rfl) (fun t ht9 hW => ⟨⟨_, (q, f), rfl, ⟨rfl, hz⟩, by rw [ht9]; exact hP9, hD9⟩, hS.F ht9⟩) hS.2.2 dT_dropWall_30
set_option maxHeartbeats 4000000 in
set_option maxRecDepth 100000 in
theorem cT_dropAllWalls (l : Launch) (g : CX) (sz : Nat) (ad q : Nat → Nat) (f : Nat → Nat → Int32) (s0 : TSt) (sl : Nat → Option Nat) (cnt h st : Int32) (LW : List Nat) (wv : Nat → WV) (hz : rowsT s0.1 f s0.2) (hsl : slOK sl LW) : Met l yT_dropAllWalls (wm yT_dropAllWalls kT_dropAllWalls 1 none) ({ frames := 1, cells := 0, slots := 0, locals := 21 }) (rw g [.ref (ad 0)] (TW g ad q s0.1 f s0.2 sl cnt h st LW wv) sz) (va_Qv (fun (u : ((Nat → Nat) × (Nat → Nat → Int32)) × (Nat → Option Nat)) => rowsT s0.1 u.1.2 s0.2 ∧ (∀ j, j < 64 → u.2 j = none) ∧ slOK u.2 LW) (rB g (va_A (TW g ad q s0.1 f s0.2 sl cnt h st LW wv) sz) (fun u => (TW g ad u.1.1 s0.1 u.1.2 s0.2 u.2 0 h 1 LW wv))) (va_A (TW g ad q s0.1 f s0.2 sl cnt h st LW wv) sz)) 0 0 (va_A (TW g ad q s0.1 f s0.2 sl cnt h st LW wv) sz) := by
  refine Met.ofW (cc := kT_dropAllWalls) (maxL := 1) (ret := none) (by decide) rfl ?_
  intro p e s m args below meth c s₁ B hml hv
  obtain ⟨rfl, hsz, hK, hP, hD0⟩ := hv
  have hx := B.exec
  have hb := B.bytes
  have hr := B.returns
  have ht : ∀ w ∈ wT, w.before _ s = true := fun w h => atoms_spec (ws := wm yT_dropAllWalls kT_dropAllWalls 1 none) B.pre w (List.mem_cons_of_mem _ h)
  have hown : s.vm.findClass "NodeMaker$Tree" = some m.cls := findClass_of_methodNamed B.named
  have hlocks := B.notSynchronized
  subst hsz
  have hD := hD0.self (sz := s.heap.size)
  generalize hAe : va_A (TW g ad q s0.1 f s0.2 sl cnt h st LW wv) s.heap.size = A at hD ⊢
  have hA : ∀ q : Nat, s.heap.size ≤ q → A q := fun q h => by rw [← hAe]; exact Or.inr h
  have hS : va_S A s.heap s.heap [] := va_S.rf
  have hl := lv_entry ([.ref (ad 0)]) (n := 1) (Nat.le_of_ble_eq_true rfl)
  rw [lg_entry_eq]
  generalize (lg_sl ([.ref (ad 0)]) ++ List.replicate (1 - (lg_sl ([.ref (ad 0)])).length) Slot.unset).toArray = ls at hl ⊢
  have hl : lv_has ls 1 [(0, .ref (ad 0))] := hl
  refine lv_aload_n hx hb dT_dropAllWalls_0 rfl (lv_at hl 0 rfl) ?_
  refine va_get (D := g.1) (ci := 4) (v := .ref (ad 1)) (C := "NodeMaker$Tree") (T := Fd_T) (N := 16) hx hb ht i_T hown hK.1 hP 0 rfl rfl 0 (by decide) (ht _ q_105) (fun _ h9 => h9) rfl dT_dropAllWalls_1 ?_
  have hPc := pl_P (cx := wsX g (ad 1) (ad 2) sl cnt) hP [1, 2] rfl
  have hDc := pl_D (cx := wsX g (ad 1) (ad 2) sl cnt) hD [1, 2] (by decide) rfl
  refine rw_vP (X := treeX g ad q s0.1 f s0.2 sl cnt h st) (pl := plW LW wv) (cx := wsX g (ad 1) (ad 2) sl cnt) (rx := fun u => wsX g (ad 1) (ad 2) u 0) (pl1 := fun _ => plW LW wv) (wr := ([0, 3, 4, 5, 6, 7, 8, 9, 10, 11, 12, 13, 14, 15, 16, 17, 18, 19, 20, 21, 22, 23, 24, 25, 26, 27, 28, 29, 30, 31, 32, 33, 34, 35, 36, 37, 38, 39, 40, 41, 42, 43] : List Nat).filterMap (fun i => (treeX g ad q s0.1 f s0.2 sl cnt h st)[i]?)) (va_runV (As := []) (rest := []) ⟨hx, hb, hml, hown, ht⟩ (cS_dropAll2 l g s.heap.size (ad 1) (ad 2) sl cnt LW wv hsl) (cwV 0 ht (g_V q_259 q_260 q_261 q_36 q_262) rfl rfl rfl hd_S_dropAll ⟨Nat.le_of_ble_eq_true rfl, Nat.le_of_ble_eq_true rfl⟩) (rw_V hK hPc hDc (va_recv hK.1 hPc (ci := 3) (q0 := 0) rfl rfl)) rfl rfl hl.1 rfl (lv_room (Nat.le_of_ble_eq_true rfl)) dT_dropAllWalls_4 ⟨Nat.zero_le _, Nat.zero_le _⟩) hP hD hS hA [1, 2] [0, 3, 4, 5, 6, 7, 8, 9, 10, 11, 12, 13, 14, 15, 16, 17, 18, 19, 20, 21, 22, 23, 24, 25, 26, 27, 28, 29, 30, 31, 32, 33, 34, 35, 36, 37, 38, 39, 40, 41, 42, 43] rfl rfl (by decide) (by decide) (fun u H locs hw hP hD hS => ?_)
  have hP : va_P g.1 vwCl (TW g ad q s0.1 f s0.2 u 0 h st LW wv) H := pl_P (cx := treeX g ad q s0.1 f s0.2 u 0 h st) hP [0, 42, 43, 1, 2, 3, 4, 5, 6, 7, 8, 9, 10, 11, 12, 13, 14, 15, 16, 17, 18, 19, 20, 21, 22, 23, 24, 25, 26, 27, 28, 29, 30, 31, 32, 33, 34, 35, 36, 37, 38, 39, 40, 41] rfl
  have hD : va_D A (TW g ad q s0.1 f s0.2 u 0 h st LW wv) := pl_D (cx := treeX g ad q s0.1 f s0.2 u 0 h st) hD [0, 42, 43, 1, 2, 3, 4, 5, 6, 7, 8, 9, 10, 11, 12, 13, 14, 15, 16, 17, 18, 19, 20, 21, 22, 23, 24, 25, 26, 27, 28, 29, 30, 31, 32, 33, 34, 35, 36, 37, 38, 39, 40, 41] (by decide) rfl
  refine lv_aload_n hx hb dT_dropAllWalls_7 rfl (lv_at hl 0 rfl) ?_
  refine lv_iconst (v := 1) hx hb dT_dropAllWalls_8 (by decide) ?_
  refine va_put (D := g.1) (ci := 4) (v := .int 1) (ty := .boolean) (C := "NodeMaker$Tree") (T := Fd_T) (N := 16) hx hb ht i_T ty_T ty_T_ok nm_T hown hK.1 hP hD hS 0 rfl rfl 15 (by decide) (ht _ q_120) (fun _ h9 => h9) rfl (by decide +kernel) rfl rfl (Nat.le_of_ble_eq_true rfl) dT_dropAllWalls_9 (fun H locs hP hD hS => ?_)
  have hP : va_P g.1 vwCl (TW g ad q s0.1 f s0.2 u 0 h 1 LW wv) H := hP
  have hD : va_D A (TW g ad q s0.1 f s0.2 u 0 h 1 LW wv) := hD
  exact W.vret hx hb hr (fun t ht9 hW => ⟨⟨((q, f), u), rfl, ⟨hz, hw⟩, by rw [ht9]; exact hP, hD⟩, hS.F ht9⟩) hS.2.2 dT_dropAllWalls_12
