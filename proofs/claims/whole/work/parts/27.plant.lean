set_option maxHeartbeats 4000000 in
set_option maxRecDepth 100000 in
theorem cT_await (l : Launch) (g : CX) (sz : Nat) (ad q : Nat → Nat) (f : Nat → Nat → Int32) (s0 : TSt) (sl : Nat → Option Nat) (cnt h st : Int32) (LW : List Nat) (wv : Nat → WV) (hz : rowsT s0.1 f s0.2) (hsl : slOK sl LW) (a b d : Int32) : Met l yT_await (wm yT_await kT_await 4 none) ({ frames := 3, cells := (mu (awt a b d s0).1 - mu s0.1), slots := (mu (awt a b d s0).1 - mu s0.1), locals := 103 }) (rw g [.ref (ad 0), .int a, .int b, .int d] (TW g ad q s0.1 f s0.2 sl cnt h st LW wv) sz) (va_Qv (fun (u : (Nat → Nat) × (Nat → Nat → Int32)) => rowsT (awt a b d s0).1 u.2 (awt a b d s0).2) (rB g (va_A (TW g ad q s0.1 f s0.2 sl cnt h st LW wv) sz) (fun u => (TW g ad u.1 (awt a b d s0).1 u.2 (awt a b d s0).2 sl cnt h st LW wv))) (va_A (TW g ad q s0.1 f s0.2 sl cnt h st LW wv) sz)) (mu (awt a b d s0).1 - mu s0.1) (mu (awt a b d s0).1 - mu s0.1) (va_A (TW g ad q s0.1 f s0.2 sl cnt h st LW wv) sz) := by
  refine Met.ofW (cc := kT_await) (maxL := 4) (ret := none) (by decide) rfl ?_
  intro p e s m args below meth c s₁ B hml hv
  obtain ⟨rfl, hsz, hK, hP, hD0⟩ := hv
  have hx := B.exec
  have hb := B.bytes
  have hr := B.returns
  have ht : ∀ w ∈ wT, w.before _ s = true := fun w h => atoms_spec (ws := wm yT_await kT_await 4 none) B.pre w (List.mem_cons_of_mem _ h)
  have hown : s.vm.findClass "NodeMaker$Tree" = some m.cls := findClass_of_methodNamed B.named
  have hlocks := B.notSynchronized
  subst hsz
  have hD := hD0.self (sz := s.heap.size)
  generalize hAe : va_A (TW g ad q s0.1 f s0.2 sl cnt h st LW wv) s.heap.size = A at hD ⊢
  have hA : ∀ q : Nat, s.heap.size ≤ q → A q := fun q h => by rw [← hAe]; exact Or.inr h
  have hS : va_S A s.heap s.heap [] := va_S.rf
  have hl := lv_entry ([.ref (ad 0), .int a, .int b, .int d]) (n := 4) (Nat.le_of_ble_eq_true rfl)
  rw [lg_entry_eq]
  generalize (lg_sl ([.ref (ad 0), .int a, .int b, .int d]) ++ List.replicate (4 - (lg_sl ([.ref (ad 0), .int a, .int b, .int d])).length) Slot.unset).toArray = ls at hl ⊢
  have hl : lv_has ls 4 [(0, .ref (ad 0)), (1, .int a), (2, .int b), (3, .int d)] := hl
  refine lv_aload_n hx hb dT_await_0 rfl (lv_at hl 0 rfl) ?_
  refine va_get (D := g.1) (ci := 4) (v := .ref (ad 22)) (C := "NodeMaker$Tree") (T := Fd_T) (N := 16) hx hb ht i_T hown hK.1 hP 0 rfl rfl 10 (by decide) (ht _ q_115) (fun _ h9 => h9) rfl dT_await_1 ?_
  refine lv_iload_n hx hb dT_await_4 rfl (lv_at hl 1 rfl) ?_
  have hmu : mu (oAdd 16 a s0).1 = mu s0.1 + aUse (s0.1 16) (s0.2 16) := mu_oAdd (K := 16) (v := a) (s := s0) (by decide)
  have hfit : mu (oAdd 16 a s0).1 ≤ mu (awt a b d s0).1 := (show mu (oAdd 16 a s0).1 ≤ mu (awt a b d s0).1 from Nat.le_trans (mu_oAdd_le (by decide)) (mu_oAdd_le (by decide)))
  refine tr_add_16 ⟨hx, hb, hml, hown, ht⟩ q_319 ⟨Nat.le_of_ble_eq_true rfl, Nat.le_of_ble_eq_true rfl⟩ hK hz hP hD hS hA hl.1 (Nat.le_of_ble_eq_true rfl) dT_await_5 ⟨by show 0 + aUse (s0.1 16) (s0.2 16) ≤ (mu (awt a b d s0).1 - mu s0.1); omega, by show 0 + aUse (s0.1 16) (s0.2 16) ≤ (mu (awt a b d s0).1 - mu s0.1); omega⟩ (fun q f H locs hz hP hD hS => ?_)
  have hz : rowsT (oAdd 16 a s0).1 f (oAdd 16 a s0).2 := hz
  have hP : va_P g.1 vwCl (TW g ad q (oAdd 16 a s0).1 f (oAdd 16 a s0).2 sl cnt h st LW wv) H := hP
  have hD : va_D A (TW g ad q (oAdd 16 a s0).1 f (oAdd 16 a s0).2 sl cnt h st LW wv) := hD
  have hle : mu s0.1 ≤ mu (oAdd 16 a s0).1 := by omega
  refine W.widen (k := mu (oAdd 16 a s0).1 - mu s0.1) (n := mu (oAdd 16 a s0).1 - mu s0.1) (by omega) (by omega) ?_
  refine lv_aload_n hx hb dT_await_8 rfl (lv_at hl 0 rfl) ?_
  refine va_get (D := g.1) (ci := 4) (v := .ref (ad 23)) (C := "NodeMaker$Tree") (T := Fd_T) (N := 16) hx hb ht i_T hown hK.1 hP 0 rfl rfl 11 (by decide) (ht _ q_116) (fun _ h9 => h9) rfl dT_await_9 ?_
  refine lv_iload_n hx hb dT_await_12 rfl (lv_at hl 2 rfl) ?_
  have hmu : mu (oAdd 17 b (oAdd 16 a s0)).1 = mu (oAdd 16 a s0).1 + aUse ((oAdd 16 a s0).1 17) ((oAdd 16 a s0).2 17) := mu_oAdd (K := 17) (v := b) (s := oAdd 16 a s0) (by decide)
  have hfit : mu (oAdd 17 b (oAdd 16 a s0)).1 ≤ mu (awt a b d s0).1 := (show mu (oAdd 17 b (oAdd 16 a s0)).1 ≤ mu (awt a b d s0).1 from mu_oAdd_le (by decide))
  refine tr_add_17 ⟨hx, hb, hml, hown, ht⟩ q_319 ⟨Nat.le_of_ble_eq_true rfl, Nat.le_of_ble_eq_true rfl⟩ hK hz hP hD hS hA hl.1 (Nat.le_of_ble_eq_true rfl) dT_await_13 ⟨by show mu (oAdd 16 a s0).1 - mu s0.1 + aUse ((oAdd 16 a s0).1 17) ((oAdd 16 a s0).2 17) ≤ (mu (awt a b d s0).1 - mu s0.1); omega, by show mu (oAdd 16 a s0).1 - mu s0.1 + aUse ((oAdd 16 a s0).1 17) ((oAdd 16 a s0).2 17) ≤ (mu (awt a b d s0).1 - mu s0.1); omega⟩ (fun q f H locs hz hP hD hS => ?_)
  have hz : rowsT (oAdd 17 b (oAdd 16 a s0)).1 f (oAdd 17 b (oAdd 16 a s0)).2 := hz
  have hP : va_P g.1 vwCl (TW g ad q (oAdd 17 b (oAdd 16 a s0)).1 f (oAdd 17 b (oAdd 16 a s0)).2 sl cnt h st LW wv) H := hP
  have hD : va_D A (TW g ad q (oAdd 17 b (oAdd 16 a s0)).1 f (oAdd 17 b (oAdd 16 a s0)).2 sl cnt h st LW wv) := hD
  have hle : mu s0.1 ≤ mu (oAdd 17 b (oAdd 16 a s0)).1 := by omega
  refine W.widen (k := mu (oAdd 17 b (oAdd 16 a s0)).1 - mu s0.1) (n := mu (oAdd 17 b (oAdd 16 a s0)).1 - mu s0.1) (by omega) (by omega) ?_
  refine lv_aload_n hx hb dT_await_16 rfl (lv_at hl 0 rfl) ?_
  refine va_get (D := g.1) (ci := 4) (v := .ref (ad 24)) (C := "NodeMaker$Tree") (T := Fd_T) (N := 16) hx hb ht i_T hown hK.1 hP 0 rfl rfl 12 (by decide) (ht _ q_117) (fun _ h9 => h9) rfl dT_await_17 ?_
  refine lv_iload_n hx hb dT_await_20 rfl (lv_at hl 3 rfl) ?_
  have hmu : mu (oAdd 18 d (oAdd 17 b (oAdd 16 a s0))).1 = mu (oAdd 17 b (oAdd 16 a s0)).1 + aUse ((oAdd 17 b (oAdd 16 a s0)).1 18) ((oAdd 17 b (oAdd 16 a s0)).2 18) := mu_oAdd (K := 18) (v := d) (s := oAdd 17 b (oAdd 16 a s0)) (by decide)
  have hfit : mu (oAdd 18 d (oAdd 17 b (oAdd 16 a s0))).1 ≤ mu (awt a b d s0).1 := (show mu (oAdd 18 d (oAdd 17 b (oAdd 16 a s0))).1 ≤ mu (awt a b d s0).1 from Nat.le_refl _)
  refine tr_add_18 ⟨hx, hb, hml, hown, ht⟩ q_319 ⟨Nat.le_of_ble_eq_true rfl, Nat.le_of_ble_eq_true rfl⟩ hK hz hP hD hS hA hl.1 (Nat.le_of_ble_eq_true rfl) dT_await_21 ⟨by show mu (oAdd 17 b (oAdd 16 a s0)).1 - mu s0.1 + aUse ((oAdd 17 b (oAdd 16 a s0)).1 18) ((oAdd 17 b (oAdd 16 a s0)).2 18) ≤ (mu (awt a b d s0).1 - mu s0.1); omega, by show mu (oAdd 17 b (oAdd 16 a s0)).1 - mu s0.1 + aUse ((oAdd 17 b (oAdd 16 a s0)).1 18) ((oAdd 17 b (oAdd 16 a s0)).2 18) ≤ (mu (awt a b d s0).1 - mu s0.1); omega⟩ (fun q f H locs hz hP hD hS => ?_)
  have hz : rowsT (oAdd 18 d (oAdd 17 b (oAdd 16 a s0))).1 f (oAdd 18 d (oAdd 17 b (oAdd 16 a s0))).2 := hz
  have hP : va_P g.1 vwCl (TW g ad q (oAdd 18 d (oAdd 17 b (oAdd 16 a s0))).1 f (oAdd 18 d (oAdd 17 b (oAdd 16 a s0))).2 sl cnt h st LW wv) H := hP
  have hD : va_D A (TW g ad q (oAdd 18 d (oAdd 17 b (oAdd 16 a s0))).1 f (oAdd 18 d (oAdd 17 b (oAdd 16 a s0))).2 sl cnt h st LW wv) := hD
  have hle : mu s0.1 ≤ mu (oAdd 18 d (oAdd 17 b (oAdd 16 a s0))).1 := by omega
  refine W.widen (k := mu (oAdd 18 d (oAdd 17 b (oAdd 16 a s0))).1 - mu s0.1) (n := mu (oAdd 18 d (oAdd 17 b (oAdd 16 a s0))).1 - mu s0.1) (by omega) (by omega) ?_
  have hEF : oAdd 18 d (oAdd 17 b (oAdd 16 a s0)) = awt a b d s0 := rfl
  rw [hEF] at hz hP hD
  rw [hEF] at hle
  refine W.widen (k := (mu (awt a b d s0).1 - mu s0.1)) (n := (mu (awt a b d s0).1 - mu s0.1)) (by omega) (by omega) ?_
  exact W.vret hx hb hr (fun t ht9 hW => ⟨⟨(q, f), rfl, hz, by rw [ht9]; exact hP, hD⟩, hS.F ht9⟩) hS.2.2 dT_await_24
set_option maxHeartbeats 4000000 in
set_option maxRecDepth 100000 in
theorem cT_countSizes (l : Launch) (g : CX) (sz : Nat) (ad q : Nat → Nat) (f : Nat → Nat → Int32) (s0 : TSt) (sl : Nat → Option Nat) (cnt h st : Int32) (LW : List Nat) (wv : Nat → WV) (hz : rowsT s0.1 f s0.2) (hsl : slOK sl LW) : Met l yT_countSizes (wm yT_countSizes kT_countSizes 2 none) ({ frames := 3, cells := 0, slots := 0, locals := 62 }) (rw g [.ref (ad 0)] (TW g ad q s0.1 f s0.2 sl cnt h st LW wv) sz) (va_Qv (fun (u : (Nat → Nat) × (Nat → Nat → Int32)) => rowsT (sT_countSizes (wOf sl wv) s0).1 u.2 (sT_countSizes (wOf sl wv) s0).2) (rB g (va_A (TW g ad q s0.1 f s0.2 sl cnt h st LW wv) sz) (fun u => (TW g ad u.1 (sT_countSizes (wOf sl wv) s0).1 u.2 (sT_countSizes (wOf sl wv) s0).2 sl cnt h st LW wv))) (va_A (TW g ad q s0.1 f s0.2 sl cnt h st LW wv) sz)) 0 0 (va_A (TW g ad q s0.1 f s0.2 sl cnt h st LW wv) sz) := by
  refine Met.ofW (cc := kT_countSizes) (maxL := 2) (ret := none) (by decide) rfl ?_
  intro p e s m args below meth c s₁ B hml hv
  obtain ⟨rfl, hsz, hK, hP, hD0⟩ := hv
  have hx := B.exec
  have hb := B.bytes
  have hr := B.returns
  have ht : ∀ w ∈ wT, w.before _ s = true := fun w h => atoms_spec (ws := wm yT_countSizes kT_countSizes 2 none) B.pre w (List.mem_cons_of_mem _ h)
  have hown : s.vm.findClass "NodeMaker$Tree" = some m.cls := findClass_of_methodNamed B.named
  have hlocks := B.notSynchronized
  subst hsz
  have hD := hD0.self (sz := s.heap.size)
  generalize hAe : va_A (TW g ad q s0.1 f s0.2 sl cnt h st LW wv) s.heap.size = A at hD ⊢
  have hA : ∀ q : Nat, s.heap.size ≤ q → A q := fun q h => by rw [← hAe]; exact Or.inr h
  have hS : va_S A s.heap s.heap [] := va_S.rf
  have hl := lv_entry ([.ref (ad 0)]) (n := 2) (Nat.le_of_ble_eq_true rfl)
  rw [lg_entry_eq]
  generalize (lg_sl ([.ref (ad 0)]) ++ List.replicate (2 - (lg_sl ([.ref (ad 0)])).length) Slot.unset).toArray = ls at hl ⊢
  have hl : lv_has ls 2 [(0, .ref (ad 0))] := hl
  have hl0 := rowsT_lt hz 0 (by decide)
  refine lv_aload_n hx hb dT_countSizes_0 rfl (lv_at hl 0 rfl) ?_
  refine va_get (D := g.1) (ci := 4) (v := .ref (ad 6)) (C := "NodeMaker$Tree") (T := Fd_T) (N := 16) hx hb ht i_T hown hK.1 hP 0 rfl rfl 1 (by decide) (ht _ q_106) (fun _ h9 => h9) rfl dT_countSizes_1 ?_
  have hPc := hP.sub (ws' := rowW g (ad 6) (q 0) (s0.1 0) (f 0) (s0.2 0).length) [6, 7] rfl
  refine ro_Vi (v := nI (s0.2 0).length) (As := []) (rest := []) ⟨hx, hb, hml, hown, ht⟩ (cR_count l g (ad 6) (q 0) (s0.1 0) (f 0) (s0.2 0)) (cwV 0 ht (g_V q_320 q_312 q_313 q_37 q_314) rfl rfl rfl hd_R_count ⟨Nat.le_of_ble_eq_true rfl, Nat.le_of_ble_eq_true rfl⟩) hK (hPc) (va_recv hK.1 hPc (ci := 0) (q0 := 0) rfl rfl) rfl hl.1 rfl (Nat.le_of_ble_eq_true rfl) dT_countSizes_4 ⟨by show 0 ≤ 0; omega, by show 0 ≤ 0; omega⟩ ?_
  refine lv_iconst (v := 1) hx hb dT_countSizes_7 (by decide) ?_
  refine lv_isub hx hb dT_countSizes_8 ?_
  refine lv_istore_n (lv' := [(1, .int ((nI (s0.2 0).length) - 1)), (0, .ref (ad 0))]) hx hb dT_countSizes_9 rfl hl (by decide) rfl (fun ls hl => ?_)
  have loop10 : ∀ (n : Nat) (s9 : TSt) (i : Int32) (q : Nat → Nat) (f : Nat → Nat → Int32) (H : Heap) (locs : List Loc) (ls : Array Slot), n ≤ 4096 → i = nI n - 1 → csL (wOf sl wv) n s9 = (sT_countSizes (wOf sl wv) s0) → rowsT s9.1 f s9.2 → va_P g.1 vwCl (TW g ad q s9.1 f s9.2 sl cnt h st LW wv) H → va_D A (TW g ad q s9.1 f s9.2 sl cnt h st LW wv) → va_S A s.heap H locs → lv_has ls 2 [(1, .int i), (0, .ref (ad 0))] → W p l e (headSpec (wm yT_countSizes kT_countSizes 2 none) ({ frames := 3, cells := 0, slots := 0, locals := 62 })).room s m ([.ref (ad 0)] : List Value).toArray below meth c H locs (0) (0) (MQ below (va_Qv (fun (u : (Nat → Nat) × (Nat → Nat → Int32)) => rowsT (sT_countSizes (wOf sl wv) s0).1 u.2 (sT_countSizes (wOf sl wv) s0).2) (rB g A (fun u => (TW g ad u.1 (sT_countSizes (wOf sl wv) s0).1 u.2 (sT_countSizes (wOf sl wv) s0).2 sl cnt h st LW wv))) A) ([.ref (ad 0)] : List Value).toArray s 0 0 A) (F0 m 10 ls []) := by
    intro n
    induction n with
    | zero =>
      intro s9 i q f H locs ls hn hi hR hz hP hD hS hl
      refine lv_iload_n hx hb dT_countSizes_10 rfl (lv_at hl 0 rfl) ?_
      refine lv_if_lt (tgt := 55) hx hb dT_countSizes_11 (by decide) (fun c_1 => ?_) (fun c_1 => ?_)
      · skip
        have hEF : s9 = (sT_countSizes (wOf sl wv) s0) := hR
        rw [hEF] at hz hP hD
        exact W.vret hx hb hr (fun t ht9 hW => ⟨⟨(q, f), rfl, hz, by rw [ht9]; exact hP, hD⟩, hS.F ht9⟩) hS.2.2 dT_countSizes_55
      · skip
        exact absurd (show i < 0 by rw [hi]; decide) c_1
    | succ n ih =>
      intro s9 i q f H locs ls hn hi hR hz hP hD hS hl
      have hi2 : i = nI n := by rw [hi]; exact nI_pred n
      refine lv_iload_n hx hb dT_countSizes_10 rfl (lv_at hl 0 rfl) ?_
      refine lv_if_lt (tgt := 55) hx hb dT_countSizes_11 (by decide) (fun c_2 => ?_) (fun c_2 => ?_)
      · skip
        exact absurd c_2 (by rw [hi2]; exact nI_pos (by omega))
      · skip
        refine lv_aload_n hx hb dT_countSizes_14 rfl (lv_at hl 1 rfl) ?_
        refine va_get (D := g.1) (ci := 4) (v := .ref (ad 9)) (C := "NodeMaker$Tree") (T := Fd_T) (N := 16) hx hb ht i_T hown hK.1 hP 0 rfl rfl 4 (by decide) (ht _ q_109) (fun _ h9 => h9) rfl dT_countSizes_15 ?_
        refine lv_iload_n hx hb dT_countSizes_18 rfl (lv_at hl 0 rfl) ?_
        refine lv_iconst (v := 1) hx hb dT_countSizes_19 (by decide) ?_
        refine lv_aload_n hx hb dT_countSizes_20 rfl (lv_at hl 1 rfl) ?_
        refine lv_aload_n hx hb dT_countSizes_21 rfl (lv_at hl 1 rfl) ?_
        refine va_get (D := g.1) (ci := 4) (v := .ref (ad 7)) (C := "NodeMaker$Tree") (T := Fd_T) (N := 16) hx hb ht i_T hown hK.1 hP 0 rfl rfl 2 (by decide) (ht _ q_107) (fun _ h9 => h9) rfl dT_countSizes_22 ?_
        refine lv_iload_n hx hb dT_countSizes_25 rfl (lv_at hl 0 rfl) ?_
        have hPc := hP.sub (ws' := rowW g (ad 7) (q 1) (s9.1 1) (f 1) (s9.2 1).length) [8, 9] rfl
        refine ro_Vi (v := rAt (s9.2 1) i) (As := [.int i]) (rest := [.ref (ad 0), .int 1, .int i, .ref (ad 9)]) ⟨hx, hb, hml, hown, ht⟩ (cR_at l g (ad 7) (q 1) (s9.1 1) (f 1) (s9.2 1) (hz 1 (by decide)) i) (cwV 1 ht (g_V q_325 q_326 q_327 q_37 q_328) rfl rfl rfl hd_R_at ⟨Nat.le_of_ble_eq_true rfl, Nat.le_of_ble_eq_true rfl⟩) hK (hPc) (va_recv hK.1 hPc (ci := 0) (q0 := 0) rfl rfl) rfl hl.1 rfl (Nat.le_of_ble_eq_true rfl) dT_countSizes_26 ⟨by show 0 ≤ 0; omega, by show 0 ≤ 0; omega⟩ ?_
        refine ro_Vi (v := sT_nodesIn s9.2 (wOf sl wv) (rAt (s9.2 1) i)) (As := [.int (rAt (s9.2 1) i)]) (rest := [.int 1, .int i, .ref (ad 9)]) ⟨hx, hb, hml, hown, ht⟩ (cT_nodesIn l g ad q s9.1 f s9.2 sl cnt h st LW wv hz hsl (rAt (s9.2 1) i)) (cwV 1 ht (g_V q_390 q_391 q_392 q_35 q_393) rfl rfl rfl hd_T_nodesIn ⟨Nat.le_of_ble_eq_true rfl, Nat.le_of_ble_eq_true rfl⟩) hK (hP) (va_recv hK.1 hP (ci := 4) (q0 := 0) rfl rfl) rfl hl.1 rfl (Nat.le_of_ble_eq_true rfl) dT_countSizes_29 ⟨by show 0 ≤ 0; omega, by show 0 ≤ 0; omega⟩ ?_
        refine lv_iadd hx hb dT_countSizes_32 ?_
        refine lv_aload_n hx hb dT_countSizes_33 rfl (lv_at hl 1 rfl) ?_
        refine lv_aload_n hx hb dT_countSizes_34 rfl (lv_at hl 1 rfl) ?_
        refine va_get (D := g.1) (ci := 4) (v := .ref (ad 8)) (C := "NodeMaker$Tree") (T := Fd_T) (N := 16) hx hb ht i_T hown hK.1 hP 0 rfl rfl 3 (by decide) (ht _ q_108) (fun _ h9 => h9) rfl dT_countSizes_35 ?_
        refine lv_iload_n hx hb dT_countSizes_38 rfl (lv_at hl 0 rfl) ?_
        have hPc := hP.sub (ws' := rowW g (ad 8) (q 2) (s9.1 2) (f 2) (s9.2 2).length) [10, 11] rfl
        refine ro_Vi (v := rAt (s9.2 2) i) (As := [.int i]) (rest := [.ref (ad 0), .int (1 + (sT_nodesIn s9.2 (wOf sl wv) (rAt (s9.2 1) i))), .int i, .ref (ad 9)]) ⟨hx, hb, hml, hown, ht⟩ (cR_at l g (ad 8) (q 2) (s9.1 2) (f 2) (s9.2 2) (hz 2 (by decide)) i) (cwV 1 ht (g_V q_325 q_326 q_327 q_37 q_328) rfl rfl rfl hd_R_at ⟨Nat.le_of_ble_eq_true rfl, Nat.le_of_ble_eq_true rfl⟩) hK (hPc) (va_recv hK.1 hPc (ci := 0) (q0 := 0) rfl rfl) rfl hl.1 rfl (Nat.le_of_ble_eq_true rfl) dT_countSizes_39 ⟨by show 0 ≤ 0; omega, by show 0 ≤ 0; omega⟩ ?_
        refine ro_Vi (v := sT_nodesIn s9.2 (wOf sl wv) (rAt (s9.2 2) i)) (As := [.int (rAt (s9.2 2) i)]) (rest := [.int (1 + (sT_nodesIn s9.2 (wOf sl wv) (rAt (s9.2 1) i))), .int i, .ref (ad 9)]) ⟨hx, hb, hml, hown, ht⟩ (cT_nodesIn l g ad q s9.1 f s9.2 sl cnt h st LW wv hz hsl (rAt (s9.2 2) i)) (cwV 1 ht (g_V q_390 q_391 q_392 q_35 q_393) rfl rfl rfl hd_T_nodesIn ⟨Nat.le_of_ble_eq_true rfl, Nat.le_of_ble_eq_true rfl⟩) hK (hP) (va_recv hK.1 hP (ci := 4) (q0 := 0) rfl rfl) rfl hl.1 rfl (Nat.le_of_ble_eq_true rfl) dT_countSizes_42 ⟨by show 0 ≤ 0; omega, by show 0 ≤ 0; omega⟩ ?_
        refine lv_iadd hx hb dT_countSizes_45 ?_
        refine tr_set_3 ⟨hx, hb, hml, hown, ht⟩ q_329 ⟨Nat.le_of_ble_eq_true rfl, Nat.le_of_ble_eq_true rfl⟩ hK hz hP hD hS hA hl.1 (Nat.le_of_ble_eq_true rfl) dT_countSizes_46 ⟨by show 0 + 0 ≤ 0; omega, by show 0 + 0 ≤ 0; omega⟩ (fun q f H locs hz hP hD hS => ?_)
        have hz : rowsT (oSet 3 i ((1 + (sT_nodesIn s9.2 (wOf sl wv) (rAt (s9.2 1) i))) + (sT_nodesIn s9.2 (wOf sl wv) (rAt (s9.2 2) i))) s9).1 f (oSet 3 i ((1 + (sT_nodesIn s9.2 (wOf sl wv) (rAt (s9.2 1) i))) + (sT_nodesIn s9.2 (wOf sl wv) (rAt (s9.2 2) i))) s9).2 := hz
        have hP : va_P g.1 vwCl (TW g ad q (oSet 3 i ((1 + (sT_nodesIn s9.2 (wOf sl wv) (rAt (s9.2 1) i))) + (sT_nodesIn s9.2 (wOf sl wv) (rAt (s9.2 2) i))) s9).1 f (oSet 3 i ((1 + (sT_nodesIn s9.2 (wOf sl wv) (rAt (s9.2 1) i))) + (sT_nodesIn s9.2 (wOf sl wv) (rAt (s9.2 2) i))) s9).2 sl cnt h st LW wv) H := hP
        have hD : va_D A (TW g ad q (oSet 3 i ((1 + (sT_nodesIn s9.2 (wOf sl wv) (rAt (s9.2 1) i))) + (sT_nodesIn s9.2 (wOf sl wv) (rAt (s9.2 2) i))) s9).1 f (oSet 3 i ((1 + (sT_nodesIn s9.2 (wOf sl wv) (rAt (s9.2 1) i))) + (sT_nodesIn s9.2 (wOf sl wv) (rAt (s9.2 2) i))) s9).2 sl cnt h st LW wv) := hD
        refine lv_iinc (v := i + (-1)) (lv' := [(1, .int (i + (-1))), (0, .ref (ad 0))]) hx hb dT_countSizes_49 hl (k := 0) rfl rfl (by decide) rfl (fun ls hl => ?_)
        refine lv_goto (tgt := 10) hx hb dT_countSizes_52 (by decide) ?_
        exact ih (oSet 3 i ((1 + (sT_nodesIn s9.2 (wOf sl wv) (rAt (s9.2 1) i))) + (sT_nodesIn s9.2 (wOf sl wv) (rAt (s9.2 2) i))) s9) (i + (-1)) q f H locs ls (by omega) (by rw [hi2]; exact (Int32.sub_eq_add_neg _ _).symm) (by rw [hi2]; exact hR) hz hP hD hS (lv_sub hl [0, 1] rfl)
  exact loop10 (s0.2 0).length s0 (nI (s0.2 0).length - 1) q f _ _ ls hl0 rfl rfl hz hP hD hS (lv_sub hl [0, 1] rfl)
set_option maxHeartbeats 4000000 in
set_option maxRecDepth 100000 in
theorem cT_plantNext (l : Launch) (g : CX) (sz : Nat) (ad q : Nat → Nat) (f : Nat → Nat → Int32) (s0 : TSt) (sl : Nat → Option Nat) (cnt h st : Int32) (LW : List Nat) (wv : Nat → WV) (hz : rowsT s0.1 f s0.2) (hsl : slOK sl LW) (t fr : Nat) (ht16 : (s0.2 16).length = t + 1) (hfr : rAt (s0.2 16) (nI t) = nI fr) (hfl : fr ≤ (s0.2 10).length) : Met l yT_plantNext (wm yT_plantNext kT_plantNext 8 none) ({ frames := 5, cells := (mu ((sPN (wOf sl wv) t fr s0 h).1).1 - mu s0.1), slots := (mu ((sPN (wOf sl wv) t fr s0 h).1).1 - mu s0.1), locals := 158 }) (rw g [.ref (ad 0)] (TW g ad q s0.1 f s0.2 sl cnt h st LW wv) sz) (va_Qv (fun (u : (Nat → Nat) × (Nat → Nat → Int32)) => rowsT ((sPN (wOf sl wv) t fr s0 h).1).1 u.2 ((sPN (wOf sl wv) t fr s0 h).1).2) (rB g (va_A (TW g ad q s0.1 f s0.2 sl cnt h st LW wv) sz) (fun u => (TW g ad u.1 ((sPN (wOf sl wv) t fr s0 h).1).1 u.2 ((sPN (wOf sl wv) t fr s0 h).1).2 sl cnt ((sPN (wOf sl wv) t fr s0 h).2) st LW wv))) (va_A (TW g ad q s0.1 f s0.2 sl cnt h st LW wv) sz)) (mu ((sPN (wOf sl wv) t fr s0 h).1).1 - mu s0.1) (mu ((sPN (wOf sl wv) t fr s0 h).1).1 - mu s0.1) (va_A (TW g ad q s0.1 f s0.2 sl cnt h st LW wv) sz) := by
  refine Met.ofW (cc := kT_plantNext) (maxL := 8) (ret := none) (by decide) rfl ?_
  intro p e s m args below meth c s₁ B hml hv
  obtain ⟨rfl, hsz, hK, hP, hD0⟩ := hv
  have hx := B.exec
  have hb := B.bytes
  have hr := B.returns
  have ht : ∀ w ∈ wT, w.before _ s = true := fun w h => atoms_spec (ws := wm yT_plantNext kT_plantNext 8 none) B.pre w (List.mem_cons_of_mem _ h)
  have hown : s.vm.findClass "NodeMaker$Tree" = some m.cls := findClass_of_methodNamed B.named
  have hlocks := B.notSynchronized
  subst hsz
  have hD := hD0.self (sz := s.heap.size)
  generalize hAe : va_A (TW g ad q s0.1 f s0.2 sl cnt h st LW wv) s.heap.size = A at hD ⊢
  have hA : ∀ q : Nat, s.heap.size ≤ q → A q := fun q h => by rw [← hAe]; exact Or.inr h
  have hS : va_S A s.heap s.heap [] := va_S.rf
  have hl := lv_entry ([.ref (ad 0)]) (n := 8) (Nat.le_of_ble_eq_true rfl)
  rw [lg_entry_eq]
  generalize (lg_sl ([.ref (ad 0)]) ++ List.replicate (8 - (lg_sl ([.ref (ad 0)])).length) Slot.unset).toArray = ls at hl ⊢
  have hl : lv_has ls 8 [(0, .ref (ad 0))] := hl
  have hl10 := rowsT_lt hz 10 (by decide)
  obtain ⟨pr, hpr⟩ : ∃ x, x = rAt (s0.2 17) (nI t) := ⟨_, rfl⟩
  obtain ⟨kk, hkk⟩ : ∃ x, x = nI (s0.2 0).length := ⟨_, rfl⟩
  obtain ⟨dd, hdd⟩ : ∃ x, x = pnDiv (wOf sl wv) t fr s0 := ⟨_, rfl⟩
  obtain ⟨s5, hs5⟩ : ∃ x, x = pnR fr kk dd := ⟨_, rfl⟩
  have hF0 : (sPN (wOf sl wv) t fr s0 h) = (pnL kk dd.2 s5, plHI (pnDep (pnCut t s0).2 (wOf sl wv) pr) h) := by rw [hs5, hdd, hkk, hpr]; rfl
  have hm5 : mu s5.1 ≤ mu ((sPN (wOf sl wv) t fr s0 h).1).1 := by rw [hF0]; exact pnL_mono _ _ _
  have hm4 : mu dd.1.1 ≤ mu s5.1 := by rw [hs5]; exact pnR_mono _ _ _
  refine lv_aload_n hx hb dT_plantNext_0 rfl (lv_at hl 0 rfl) ?_
  refine va_get (D := g.1) (ci := 4) (v := .ref (ad 22)) (C := "NodeMaker$Tree") (T := Fd_T) (N := 16) hx hb ht i_T hown hK.1 hP 0 rfl rfl 10 (by decide) (ht _ q_115) (fun _ h9 => h9) rfl dT_plantNext_1 ?_
  have hPc := hP.sub (ws' := rowW g (ad 22) (q 16) (s0.1 16) (f 16) (s0.2 16).length) [38, 39] rfl
  refine ro_Vi (v := nI (s0.2 16).length) (As := []) (rest := []) ⟨hx, hb, hml, hown, ht⟩ (cR_count l g (ad 22) (q 16) (s0.1 16) (f 16) (s0.2 16)) (cwV 0 ht (g_V q_320 q_312 q_313 q_37 q_314) rfl rfl rfl hd_R_count ⟨Nat.le_of_ble_eq_true rfl, Nat.le_of_ble_eq_true rfl⟩) hK (hPc) (va_recv hK.1 hPc (ci := 0) (q0 := 0) rfl rfl) rfl hl.1 rfl (Nat.le_of_ble_eq_true rfl) dT_plantNext_4 ⟨by show 0 ≤ (mu ((sPN (wOf sl wv) t fr s0 h).1).1 - mu s0.1); omega, by show 0 ≤ (mu ((sPN (wOf sl wv) t fr s0 h).1).1 - mu s0.1); omega⟩ ?_
  refine lv_iconst (v := 1) hx hb dT_plantNext_7 (by decide) ?_
  refine lv_isub hx hb dT_plantNext_8 ?_
  rw [show (nI (s0.2 16).length - 1 : Int32) = nI t from by rw [ht16]; exact nI_pred t]
  refine lv_istore_n (lv' := [(1, .int (nI t)), (0, .ref (ad 0))]) hx hb dT_plantNext_9 rfl hl (by decide) rfl (fun ls hl => ?_)
  refine lv_aload_n hx hb dT_plantNext_10 rfl (lv_at hl 1 rfl) ?_
  refine va_get (D := g.1) (ci := 4) (v := .ref (ad 22)) (C := "NodeMaker$Tree") (T := Fd_T) (N := 16) hx hb ht i_T hown hK.1 hP 0 rfl rfl 10 (by decide) (ht _ q_115) (fun _ h9 => h9) rfl dT_plantNext_11 ?_
  refine lv_iload_n hx hb dT_plantNext_14 rfl (lv_at hl 0 rfl) ?_
  have hPc := hP.sub (ws' := rowW g (ad 22) (q 16) (s0.1 16) (f 16) (s0.2 16).length) [38, 39] rfl
  refine ro_Vi (v := rAt (s0.2 16) (nI t)) (As := [.int (nI t)]) (rest := []) ⟨hx, hb, hml, hown, ht⟩ (cR_at l g (ad 22) (q 16) (s0.1 16) (f 16) (s0.2 16) (hz 16 (by decide)) (nI t)) (cwV 1 ht (g_V q_325 q_326 q_327 q_37 q_328) rfl rfl rfl hd_R_at ⟨Nat.le_of_ble_eq_true rfl, Nat.le_of_ble_eq_true rfl⟩) hK (hPc) (va_recv hK.1 hPc (ci := 0) (q0 := 0) rfl rfl) rfl hl.1 rfl (Nat.le_of_ble_eq_true rfl) dT_plantNext_15 ⟨by show 0 ≤ (mu ((sPN (wOf sl wv) t fr s0 h).1).1 - mu s0.1); omega, by show 0 ≤ (mu ((sPN (wOf sl wv) t fr s0 h).1).1 - mu s0.1); omega⟩ ?_
  rw [hfr]
  refine lv_istore_n (lv' := [(2, .int (nI fr)), (1, .int (nI t)), (0, .ref (ad 0))]) hx hb dT_plantNext_18 rfl hl (by decide) rfl (fun ls hl => ?_)
  refine lv_aload_n hx hb dT_plantNext_19 rfl (lv_at hl 2 rfl) ?_
  refine va_get (D := g.1) (ci := 4) (v := .ref (ad 23)) (C := "NodeMaker$Tree") (T := Fd_T) (N := 16) hx hb ht i_T hown hK.1 hP 0 rfl rfl 11 (by decide) (ht _ q_116) (fun _ h9 => h9) rfl dT_plantNext_20 ?_
  refine lv_iload_n hx hb dT_plantNext_23 rfl (lv_at hl 1 rfl) ?_
  have hPc := hP.sub (ws' := rowW g (ad 23) (q 17) (s0.1 17) (f 17) (s0.2 17).length) [40, 41] rfl
  refine ro_Vi (v := rAt (s0.2 17) (nI t)) (As := [.int (nI t)]) (rest := []) ⟨hx, hb, hml, hown, ht⟩ (cR_at l g (ad 23) (q 17) (s0.1 17) (f 17) (s0.2 17) (hz 17 (by decide)) (nI t)) (cwV 1 ht (g_V q_325 q_326 q_327 q_37 q_328) rfl rfl rfl hd_R_at ⟨Nat.le_of_ble_eq_true rfl, Nat.le_of_ble_eq_true rfl⟩) hK (hPc) (va_recv hK.1 hPc (ci := 0) (q0 := 0) rfl rfl) rfl hl.1 rfl (Nat.le_of_ble_eq_true rfl) dT_plantNext_24 ⟨by show 0 ≤ (mu ((sPN (wOf sl wv) t fr s0 h).1).1 - mu s0.1); omega, by show 0 ≤ (mu ((sPN (wOf sl wv) t fr s0 h).1).1 - mu s0.1); omega⟩ ?_
  rw [← hpr]
  refine lv_istore_n (lv' := [(3, .int pr), (2, .int (nI fr)), (1, .int (nI t)), (0, .ref (ad 0))]) hx hb dT_plantNext_27 rfl hl (by decide) rfl (fun ls hl => ?_)
  refine lv_aload_n hx hb dT_plantNext_28 rfl (lv_at hl 3 rfl) ?_
  refine va_get (D := g.1) (ci := 4) (v := .ref (ad 6)) (C := "NodeMaker$Tree") (T := Fd_T) (N := 16) hx hb ht i_T hown hK.1 hP 0 rfl rfl 1 (by decide) (ht _ q_106) (fun _ h9 => h9) rfl dT_plantNext_29 ?_
  have hPc := hP.sub (ws' := rowW g (ad 6) (q 0) (s0.1 0) (f 0) (s0.2 0).length) [6, 7] rfl
  refine ro_Vi (v := nI (s0.2 0).length) (As := []) (rest := []) ⟨hx, hb, hml, hown, ht⟩ (cR_count l g (ad 6) (q 0) (s0.1 0) (f 0) (s0.2 0)) (cwV 0 ht (g_V q_320 q_312 q_313 q_37 q_314) rfl rfl rfl hd_R_count ⟨Nat.le_of_ble_eq_true rfl, Nat.le_of_ble_eq_true rfl⟩) hK (hPc) (va_recv hK.1 hPc (ci := 0) (q0 := 0) rfl rfl) rfl hl.1 rfl (Nat.le_of_ble_eq_true rfl) dT_plantNext_32 ⟨by show 0 ≤ (mu ((sPN (wOf sl wv) t fr s0 h).1).1 - mu s0.1); omega, by show 0 ≤ (mu ((sPN (wOf sl wv) t fr s0 h).1).1 - mu s0.1); omega⟩ ?_
  rw [← hkk]
  refine lv_istore (lv' := [(4, .int kk), (3, .int pr), (2, .int (nI fr)), (1, .int (nI t)), (0, .ref (ad 0))]) hx hb dT_plantNext_35 hl (by decide) rfl (fun ls hl => ?_)
  have join72 : ∀ (s1 : TSt) (q : Nat → Nat) (f : Nat → Nat → Int32) (H : Heap) (locs : List Loc) (ls : Array Slot), s1 = pnSet t s0 → rowsT s1.1 f s1.2 → va_P g.1 vwCl (TW g ad q s1.1 f s1.2 sl cnt h st LW wv) H → va_D A (TW g ad q s1.1 f s1.2 sl cnt h st LW wv) → va_S A s.heap H locs → lv_has ls 8 [(4, .int kk), (3, .int pr), (2, .int (nI fr)), (1, .int (nI t)), (0, .ref (ad 0))] → W p l e (headSpec (wm yT_plantNext kT_plantNext 8 none) ({ frames := 5, cells := (mu ((sPN (wOf sl wv) t fr s0 h).1).1 - mu s0.1), slots := (mu ((sPN (wOf sl wv) t fr s0 h).1).1 - mu s0.1), locals := 158 })).room s m ([.ref (ad 0)] : List Value).toArray below meth c H locs (0) (0) (MQ below (va_Qv (fun (u : (Nat → Nat) × (Nat → Nat → Int32)) => rowsT ((sPN (wOf sl wv) t fr s0 h).1).1 u.2 ((sPN (wOf sl wv) t fr s0 h).1).2) (rB g A (fun u => (TW g ad u.1 ((sPN (wOf sl wv) t fr s0 h).1).1 u.2 ((sPN (wOf sl wv) t fr s0 h).1).2 sl cnt ((sPN (wOf sl wv) t fr s0 h).2) st LW wv))) A) ([.ref (ad 0)] : List Value).toArray s (mu ((sPN (wOf sl wv) t fr s0 h).1).1 - mu s0.1) (mu ((sPN (wOf sl wv) t fr s0 h).1).1 - mu s0.1) A) (F0 m 72 ls []) := by
    intro s1 q f H locs ls hs1 hz hP hD hS hl
    refine lv_aload_n hx hb dT_plantNext_72 rfl (lv_at hl 4 rfl) ?_
    refine va_get (D := g.1) (ci := 4) (v := .ref (ad 22)) (C := "NodeMaker$Tree") (T := Fd_T) (N := 16) hx hb ht i_T hown hK.1 hP 0 rfl rfl 10 (by decide) (ht _ q_115) (fun _ h9 => h9) rfl dT_plantNext_73 ?_
    refine lv_iload_n hx hb dT_plantNext_76 rfl (lv_at hl 3 rfl) ?_
    refine tr_cut_16 ⟨hx, hb, hml, hown, ht⟩ q_275 ⟨Nat.le_of_ble_eq_true rfl, Nat.le_of_ble_eq_true rfl⟩ hK hz hP hD hS hA hl.1 (Nat.le_of_ble_eq_true rfl) dT_plantNext_77 ⟨by show 0 + 0 ≤ (mu ((sPN (wOf sl wv) t fr s0 h).1).1 - mu s0.1); omega, by show 0 + 0 ≤ (mu ((sPN (wOf sl wv) t fr s0 h).1).1 - mu s0.1); omega⟩ (fun q f H locs hz hP hD hS => ?_)
    have hz : rowsT (oCut 16 (nI t) s1).1 f (oCut 16 (nI t) s1).2 := hz
    have hP : va_P g.1 vwCl (TW g ad q (oCut 16 (nI t) s1).1 f (oCut 16 (nI t) s1).2 sl cnt h st LW wv) H := hP
    have hD : va_D A (TW g ad q (oCut 16 (nI t) s1).1 f (oCut 16 (nI t) s1).2 sl cnt h st LW wv) := hD
    refine lv_aload_n hx hb dT_plantNext_80 rfl (lv_at hl 4 rfl) ?_
    refine va_get (D := g.1) (ci := 4) (v := .ref (ad 23)) (C := "NodeMaker$Tree") (T := Fd_T) (N := 16) hx hb ht i_T hown hK.1 hP 0 rfl rfl 11 (by decide) (ht _ q_116) (fun _ h9 => h9) rfl dT_plantNext_81 ?_
    refine lv_iload_n hx hb dT_plantNext_84 rfl (lv_at hl 3 rfl) ?_
    refine tr_cut_17 ⟨hx, hb, hml, hown, ht⟩ q_275 ⟨Nat.le_of_ble_eq_true rfl, Nat.le_of_ble_eq_true rfl⟩ hK hz hP hD hS hA hl.1 (Nat.le_of_ble_eq_true rfl) dT_plantNext_85 ⟨by show 0 + 0 ≤ (mu ((sPN (wOf sl wv) t fr s0 h).1).1 - mu s0.1); omega, by show 0 + 0 ≤ (mu ((sPN (wOf sl wv) t fr s0 h).1).1 - mu s0.1); omega⟩ (fun q f H locs hz hP hD hS => ?_)
    have hz : rowsT (oCut 17 (nI t) (oCut 16 (nI t) s1)).1 f (oCut 17 (nI t) (oCut 16 (nI t) s1)).2 := hz
    have hP : va_P g.1 vwCl (TW g ad q (oCut 17 (nI t) (oCut 16 (nI t) s1)).1 f (oCut 17 (nI t) (oCut 16 (nI t) s1)).2 sl cnt h st LW wv) H := hP
    have hD : va_D A (TW g ad q (oCut 17 (nI t) (oCut 16 (nI t) s1)).1 f (oCut 17 (nI t) (oCut 16 (nI t) s1)).2 sl cnt h st LW wv) := hD
    refine lv_aload_n hx hb dT_plantNext_88 rfl (lv_at hl 4 rfl) ?_
    refine va_get (D := g.1) (ci := 4) (v := .ref (ad 24)) (C := "NodeMaker$Tree") (T := Fd_T) (N := 16) hx hb ht i_T hown hK.1 hP 0 rfl rfl 12 (by decide) (ht _ q_117) (fun _ h9 => h9) rfl dT_plantNext_89 ?_
    refine lv_iload_n hx hb dT_plantNext_92 rfl (lv_at hl 3 rfl) ?_
    refine tr_cut_18 ⟨hx, hb, hml, hown, ht⟩ q_275 ⟨Nat.le_of_ble_eq_true rfl, Nat.le_of_ble_eq_true rfl⟩ hK hz hP hD hS hA hl.1 (Nat.le_of_ble_eq_true rfl) dT_plantNext_93 ⟨by show 0 + 0 ≤ (mu ((sPN (wOf sl wv) t fr s0 h).1).1 - mu s0.1); omega, by show 0 + 0 ≤ (mu ((sPN (wOf sl wv) t fr s0 h).1).1 - mu s0.1); omega⟩ (fun q f H locs hz hP hD hS => ?_)
    have hz : rowsT (oCut 18 (nI t) (oCut 17 (nI t) (oCut 16 (nI t) s1))).1 f (oCut 18 (nI t) (oCut 17 (nI t) (oCut 16 (nI t) s1))).2 := hz
    have hP : va_P g.1 vwCl (TW g ad q (oCut 18 (nI t) (oCut 17 (nI t) (oCut 16 (nI t) s1))).1 f (oCut 18 (nI t) (oCut 17 (nI t) (oCut 16 (nI t) s1))).2 sl cnt h st LW wv) H := hP
    have hD : va_D A (TW g ad q (oCut 18 (nI t) (oCut 17 (nI t) (oCut 16 (nI t) s1))).1 f (oCut 18 (nI t) (oCut 17 (nI t) (oCut 16 (nI t) s1))).2 sl cnt h st LW wv) := hD
    obtain ⟨s2, hs2⟩ : ∃ x, x = oCut 18 (nI t) (oCut 17 (nI t) (oCut 16 (nI t) s1)) := ⟨_, rfl⟩
    rw [← hs2] at hz hP hD
    have hs2c : s2 = pnCut t s0 := by rw [hs2, hs1]; rfl
    have hm2 : mu s2.1 = mu s0.1 := by rw [hs2c]; exact pnCut_mu _ _
    have hfr2 : fr ≤ (s2.2 10).length := by rw [hs2c, pnCut_10]; exact hfl
    have hl210 : (s2.2 10).length ≤ 4096 := rowsT_lt hz 10 (by decide)
    have hd2 : dd = plDiv (wOf sl wv) fr (pnDep s2.2 (wOf sl wv) pr) kk s2 := by rw [hdd, hs2c, hpr, hkk]; rfl
    have join118 : ∀ (dp : Int32) (ls : Array Slot), dp = pnDep s2.2 (wOf sl wv) pr → lv_has ls 8 [(4, .int kk), (3, .int pr), (2, .int (nI fr)), (1, .int (nI t)), (0, .ref (ad 0))] → W p l e (headSpec (wm yT_plantNext kT_plantNext 8 none) ({ frames := 5, cells := (mu ((sPN (wOf sl wv) t fr s0 h).1).1 - mu s0.1), slots := (mu ((sPN (wOf sl wv) t fr s0 h).1).1 - mu s0.1), locals := 158 })).room s m ([.ref (ad 0)] : List Value).toArray below meth c H locs (0) (0) (MQ below (va_Qv (fun (u : (Nat → Nat) × (Nat → Nat → Int32)) => rowsT ((sPN (wOf sl wv) t fr s0 h).1).1 u.2 ((sPN (wOf sl wv) t fr s0 h).1).2) (rB g A (fun u => (TW g ad u.1 ((sPN (wOf sl wv) t fr s0 h).1).1 u.2 ((sPN (wOf sl wv) t fr s0 h).1).2 sl cnt ((sPN (wOf sl wv) t fr s0 h).2) st LW wv))) A) ([.ref (ad 0)] : List Value).toArray s (mu ((sPN (wOf sl wv) t fr s0 h).1).1 - mu s0.1) (mu ((sPN (wOf sl wv) t fr s0 h).1).1 - mu s0.1) A) (F0 m 118 ls [.int dp]) := by
      intro dp ls hdp hl
      have hdd2 : dd = plDiv (wOf sl wv) fr dp kk s2 := by rw [hd2, hdp]
      have hm0 : mu (plNew (wOf sl wv) fr dp s2).1 ≤ mu dd.1.1 := by rw [hdd2]; exact plDiv_mono _ _ _ _ _
      have hm00 : mu s2.1 ≤ mu (plNew (wOf sl wv) fr dp s2).1 := plNew_mono _ _ _ _
      have hmn : mu (plNew (wOf sl wv) fr dp s2).1 ≤ mu ((sPN (wOf sl wv) t fr s0 h).1).1 := by omega
      refine lv_istore (lv' := [(5, .int dp), (4, .int kk), (3, .int pr), (2, .int (nI fr)), (1, .int (nI t)), (0, .ref (ad 0))]) hx hb dT_plantNext_118 hl (by decide) rfl (fun ls hl => ?_)
      refine lv_aload_n hx hb dT_plantNext_120 rfl (lv_at hl 5 rfl) ?_
      refine lv_iload_n hx hb dT_plantNext_121 rfl (lv_at hl 3 rfl) ?_
      refine ro_Vi (v := sT_bestLine s2.2 (wOf sl wv) fr) (As := [.int (nI fr)]) (rest := []) ⟨hx, hb, hml, hown, ht⟩ (cT_bestLine l g ad q s2.1 f s2.2 sl cnt h st LW wv hz hsl fr hfr2) (cwV 1 ht (g_V q_337 q_339 q_3 q_35 q_340) rfl rfl rfl hd_T_bestLine ⟨Nat.le_of_ble_eq_true rfl, Nat.le_of_ble_eq_true rfl⟩) hK (hP) (va_recv hK.1 hP (ci := 4) (q0 := 0) rfl rfl) rfl hl.1 rfl (Nat.le_of_ble_eq_true rfl) dT_plantNext_122 ⟨by show 0 ≤ (mu ((sPN (wOf sl wv) t fr s0 h).1).1 - mu s0.1); omega, by show 0 ≤ (mu ((sPN (wOf sl wv) t fr s0 h).1).1 - mu s0.1); omega⟩ ?_
      refine lv_istore (lv' := [(6, .int (sT_bestLine s2.2 (wOf sl wv) fr)), (5, .int dp), (4, .int kk), (3, .int pr), (2, .int (nI fr)), (1, .int (nI t)), (0, .ref (ad 0))]) hx hb dT_plantNext_125 hl (by decide) rfl (fun ls hl => ?_)
      refine lv_aload_n hx hb dT_plantNext_127 rfl (lv_at hl 6 rfl) ?_
      refine va_get (D := g.1) (ci := 4) (v := .ref (ad 6)) (C := "NodeMaker$Tree") (T := Fd_T) (N := 16) hx hb ht i_T hown hK.1 hP 0 rfl rfl 1 (by decide) (ht _ q_106) (fun _ h9 => h9) rfl dT_plantNext_128 ?_
      refine lv_iload hx hb dT_plantNext_131 (lv_at hl 0 rfl) ?_
      have hmu : mu (oAdd 0 (sT_bestLine s2.2 (wOf sl wv) fr) s2).1 = mu s2.1 + aUse (s2.1 0) (s2.2 0) := mu_oAdd (K := 0) (v := (sT_bestLine s2.2 (wOf sl wv) fr)) (s := s2) (by decide)
      have hfit : mu (oAdd 0 (sT_bestLine s2.2 (wOf sl wv) fr) s2).1 ≤ mu ((sPN (wOf sl wv) t fr s0 h).1).1 := Nat.le_trans (show mu (oAdd 0 (sT_bestLine s2.2 (wOf sl wv) fr) s2).1 ≤ mu (plNew (wOf sl wv) fr dp s2).1 from Nat.le_trans (mu_oAdd_le (by decide)) (Nat.le_trans (mu_oAdd_le (by decide)) (Nat.le_trans (mu_oAdd_le (by decide)) (Nat.le_trans (mu_oAdd_le (by decide)) (mu_oAdd_le (by decide)))))) hmn
      refine tr_add_0 ⟨hx, hb, hml, hown, ht⟩ q_319 ⟨Nat.le_of_ble_eq_true rfl, Nat.le_of_ble_eq_true rfl⟩ hK hz hP hD hS hA hl.1 (Nat.le_of_ble_eq_true rfl) dT_plantNext_133 ⟨by show 0 + aUse (s2.1 0) (s2.2 0) ≤ (mu ((sPN (wOf sl wv) t fr s0 h).1).1 - mu s0.1); omega, by show 0 + aUse (s2.1 0) (s2.2 0) ≤ (mu ((sPN (wOf sl wv) t fr s0 h).1).1 - mu s0.1); omega⟩ (fun q f H locs hz hP hD hS => ?_)
      have hz : rowsT (oAdd 0 (sT_bestLine s2.2 (wOf sl wv) fr) s2).1 f (oAdd 0 (sT_bestLine s2.2 (wOf sl wv) fr) s2).2 := hz
      have hP : va_P g.1 vwCl (TW g ad q (oAdd 0 (sT_bestLine s2.2 (wOf sl wv) fr) s2).1 f (oAdd 0 (sT_bestLine s2.2 (wOf sl wv) fr) s2).2 sl cnt h st LW wv) H := hP
      have hD : va_D A (TW g ad q (oAdd 0 (sT_bestLine s2.2 (wOf sl wv) fr) s2).1 f (oAdd 0 (sT_bestLine s2.2 (wOf sl wv) fr) s2).2 sl cnt h st LW wv) := hD
      have hle : mu s0.1 ≤ mu (oAdd 0 (sT_bestLine s2.2 (wOf sl wv) fr) s2).1 := by omega
      refine W.widen (k := mu (oAdd 0 (sT_bestLine s2.2 (wOf sl wv) fr) s2).1 - mu s0.1) (n := mu (oAdd 0 (sT_bestLine s2.2 (wOf sl wv) fr) s2).1 - mu s0.1) (by omega) (by omega) ?_
      refine lv_aload_n hx hb dT_plantNext_136 rfl (lv_at hl 6 rfl) ?_
      refine va_get (D := g.1) (ci := 4) (v := .ref (ad 10)) (C := "NodeMaker$Tree") (T := Fd_T) (N := 16) hx hb ht i_T hown hK.1 hP 0 rfl rfl 5 (by decide) (ht _ q_110) (fun _ h9 => h9) rfl dT_plantNext_137 ?_
      refine lv_iload hx hb dT_plantNext_140 (lv_at hl 1 rfl) ?_
      have hmu : mu (oAdd 4 dp (oAdd 0 (sT_bestLine s2.2 (wOf sl wv) fr) s2)).1 = mu (oAdd 0 (sT_bestLine s2.2 (wOf sl wv) fr) s2).1 + aUse ((oAdd 0 (sT_bestLine s2.2 (wOf sl wv) fr) s2).1 4) ((oAdd 0 (sT_bestLine s2.2 (wOf sl wv) fr) s2).2 4) := mu_oAdd (K := 4) (v := dp) (s := oAdd 0 (sT_bestLine s2.2 (wOf sl wv) fr) s2) (by decide)
      have hfit : mu (oAdd 4 dp (oAdd 0 (sT_bestLine s2.2 (wOf sl wv) fr) s2)).1 ≤ mu ((sPN (wOf sl wv) t fr s0 h).1).1 := Nat.le_trans (show mu (oAdd 4 dp (oAdd 0 (sT_bestLine s2.2 (wOf sl wv) fr) s2)).1 ≤ mu (plNew (wOf sl wv) fr dp s2).1 from Nat.le_trans (mu_oAdd_le (by decide)) (Nat.le_trans (mu_oAdd_le (by decide)) (Nat.le_trans (mu_oAdd_le (by decide)) (mu_oAdd_le (by decide))))) hmn
      refine tr_add_4 ⟨hx, hb, hml, hown, ht⟩ q_319 ⟨Nat.le_of_ble_eq_true rfl, Nat.le_of_ble_eq_true rfl⟩ hK hz hP hD hS hA hl.1 (Nat.le_of_ble_eq_true rfl) dT_plantNext_142 ⟨by show mu (oAdd 0 (sT_bestLine s2.2 (wOf sl wv) fr) s2).1 - mu s0.1 + aUse ((oAdd 0 (sT_bestLine s2.2 (wOf sl wv) fr) s2).1 4) ((oAdd 0 (sT_bestLine s2.2 (wOf sl wv) fr) s2).2 4) ≤ (mu ((sPN (wOf sl wv) t fr s0 h).1).1 - mu s0.1); omega, by show mu (oAdd 0 (sT_bestLine s2.2 (wOf sl wv) fr) s2).1 - mu s0.1 + aUse ((oAdd 0 (sT_bestLine s2.2 (wOf sl wv) fr) s2).1 4) ((oAdd 0 (sT_bestLine s2.2 (wOf sl wv) fr) s2).2 4) ≤ (mu ((sPN (wOf sl wv) t fr s0 h).1).1 - mu s0.1); omega⟩ (fun q f H locs hz hP hD hS => ?_)
      have hz : rowsT (oAdd 4 dp (oAdd 0 (sT_bestLine s2.2 (wOf sl wv) fr) s2)).1 f (oAdd 4 dp (oAdd 0 (sT_bestLine s2.2 (wOf sl wv) fr) s2)).2 := hz
      have hP : va_P g.1 vwCl (TW g ad q (oAdd 4 dp (oAdd 0 (sT_bestLine s2.2 (wOf sl wv) fr) s2)).1 f (oAdd 4 dp (oAdd 0 (sT_bestLine s2.2 (wOf sl wv) fr) s2)).2 sl cnt h st LW wv) H := hP
      have hD : va_D A (TW g ad q (oAdd 4 dp (oAdd 0 (sT_bestLine s2.2 (wOf sl wv) fr) s2)).1 f (oAdd 4 dp (oAdd 0 (sT_bestLine s2.2 (wOf sl wv) fr) s2)).2 sl cnt h st LW wv) := hD
      have hle : mu s0.1 ≤ mu (oAdd 4 dp (oAdd 0 (sT_bestLine s2.2 (wOf sl wv) fr) s2)).1 := by omega
      refine W.widen (k := mu (oAdd 4 dp (oAdd 0 (sT_bestLine s2.2 (wOf sl wv) fr) s2)).1 - mu s0.1) (n := mu (oAdd 4 dp (oAdd 0 (sT_bestLine s2.2 (wOf sl wv) fr) s2)).1 - mu s0.1) (by omega) (by omega) ?_
      refine lv_aload_n hx hb dT_plantNext_145 rfl (lv_at hl 6 rfl) ?_
      refine va_get (D := g.1) (ci := 4) (v := .ref (ad 11)) (C := "NodeMaker$Tree") (T := Fd_T) (N := 16) hx hb ht i_T hown hK.1 hP 0 rfl rfl 6 (by decide) (ht _ q_111) (fun _ h9 => h9) rfl dT_plantNext_146 ?_
      refine lv_aload_n hx hb dT_plantNext_149 rfl (lv_at hl 6 rfl) ?_
      refine va_get (D := g.1) (ci := 4) (v := .ref (ad 3)) (C := "NodeMaker$Tree") (T := Fd_T) (N := 16) hx hb ht i_T hown hK.1 hP 0 rfl rfl 7 (by decide) (ht _ q_112) (fun _ h9 => h9) rfl dT_plantNext_150 ?_
      have hPc := hP.sub (ws' := (piW g (ad 3) (fun k => ad (12 + k)) (fun k => q (6 + k)) (fun k => (oAdd 4 dp (oAdd 0 (sT_bestLine s2.2 (wOf sl wv) fr) s2)).1 (6 + k)) (fun k => f (6 + k)) (fun k => ((oAdd 4 dp (oAdd 0 (sT_bestLine s2.2 (wOf sl wv) fr) s2)).2 (6 + k)).length))) [3, 18, 19, 20, 21, 22, 23] rfl
      refine ro_Vi (v := nI ((oAdd 4 dp (oAdd 0 (sT_bestLine s2.2 (wOf sl wv) fr) s2)).2 6).length) (As := []) (rest := [.ref (ad 11)]) ⟨hx, hb, hml, hown, ht⟩ (cP_count l g (ad 3) (fun k => ad (12 + k)) (fun k => q (6 + k)) (fun k => (oAdd 4 dp (oAdd 0 (sT_bestLine s2.2 (wOf sl wv) fr) s2)).1 (6 + k)) (fun k => f (6 + k)) (fun k => (oAdd 4 dp (oAdd 0 (sT_bestLine s2.2 (wOf sl wv) fr) s2)).2 (6 + k)) (rows_3 6 (by decide) hz) ) (cwV 0 ht (g_V q_307 q_308 q_309 q_38 q_310) rfl rfl rfl hd_P_count ⟨Nat.le_of_ble_eq_true rfl, Nat.le_of_ble_eq_true rfl⟩) hK (hPc) (va_recv hK.1 hPc (ci := 1) (q0 := 0) rfl rfl) rfl hl.1 rfl (Nat.le_of_ble_eq_true rfl) dT_plantNext_153 ⟨by show mu (oAdd 4 dp (oAdd 0 (sT_bestLine s2.2 (wOf sl wv) fr) s2)).1 - mu s0.1 ≤ (mu ((sPN (wOf sl wv) t fr s0 h).1).1 - mu s0.1); omega, by show mu (oAdd 4 dp (oAdd 0 (sT_bestLine s2.2 (wOf sl wv) fr) s2)).1 - mu s0.1 ≤ (mu ((sPN (wOf sl wv) t fr s0 h).1).1 - mu s0.1); omega⟩ ?_
      have hmu : mu (oAdd 5 (nI ((oAdd 4 dp (oAdd 0 (sT_bestLine s2.2 (wOf sl wv) fr) s2)).2 6).length) (oAdd 4 dp (oAdd 0 (sT_bestLine s2.2 (wOf sl wv) fr) s2))).1 = mu (oAdd 4 dp (oAdd 0 (sT_bestLine s2.2 (wOf sl wv) fr) s2)).1 + aUse ((oAdd 4 dp (oAdd 0 (sT_bestLine s2.2 (wOf sl wv) fr) s2)).1 5) ((oAdd 4 dp (oAdd 0 (sT_bestLine s2.2 (wOf sl wv) fr) s2)).2 5) := mu_oAdd (K := 5) (v := (nI ((oAdd 4 dp (oAdd 0 (sT_bestLine s2.2 (wOf sl wv) fr) s2)).2 6).length)) (s := oAdd 4 dp (oAdd 0 (sT_bestLine s2.2 (wOf sl wv) fr) s2)) (by decide)
      have hfit : mu (oAdd 5 (nI ((oAdd 4 dp (oAdd 0 (sT_bestLine s2.2 (wOf sl wv) fr) s2)).2 6).length) (oAdd 4 dp (oAdd 0 (sT_bestLine s2.2 (wOf sl wv) fr) s2))).1 ≤ mu ((sPN (wOf sl wv) t fr s0 h).1).1 := Nat.le_trans (show mu (oAdd 5 (nI ((oAdd 4 dp (oAdd 0 (sT_bestLine s2.2 (wOf sl wv) fr) s2)).2 6).length) (oAdd 4 dp (oAdd 0 (sT_bestLine s2.2 (wOf sl wv) fr) s2))).1 ≤ mu (plNew (wOf sl wv) fr dp s2).1 from Nat.le_trans (mu_oAdd_le (by decide)) (Nat.le_trans (mu_oAdd_le (by decide)) (mu_oAdd_le (by decide)))) hmn
      refine tr_add_5 ⟨hx, hb, hml, hown, ht⟩ q_319 ⟨Nat.le_of_ble_eq_true rfl, Nat.le_of_ble_eq_true rfl⟩ hK hz hP hD hS hA hl.1 (Nat.le_of_ble_eq_true rfl) dT_plantNext_156 ⟨by show mu (oAdd 4 dp (oAdd 0 (sT_bestLine s2.2 (wOf sl wv) fr) s2)).1 - mu s0.1 + aUse ((oAdd 4 dp (oAdd 0 (sT_bestLine s2.2 (wOf sl wv) fr) s2)).1 5) ((oAdd 4 dp (oAdd 0 (sT_bestLine s2.2 (wOf sl wv) fr) s2)).2 5) ≤ (mu ((sPN (wOf sl wv) t fr s0 h).1).1 - mu s0.1); omega, by show mu (oAdd 4 dp (oAdd 0 (sT_bestLine s2.2 (wOf sl wv) fr) s2)).1 - mu s0.1 + aUse ((oAdd 4 dp (oAdd 0 (sT_bestLine s2.2 (wOf sl wv) fr) s2)).1 5) ((oAdd 4 dp (oAdd 0 (sT_bestLine s2.2 (wOf sl wv) fr) s2)).2 5) ≤ (mu ((sPN (wOf sl wv) t fr s0 h).1).1 - mu s0.1); omega⟩ (fun q f H locs hz hP hD hS => ?_)
      have hz : rowsT (oAdd 5 (nI ((oAdd 4 dp (oAdd 0 (sT_bestLine s2.2 (wOf sl wv) fr) s2)).2 6).length) (oAdd 4 dp (oAdd 0 (sT_bestLine s2.2 (wOf sl wv) fr) s2))).1 f (oAdd 5 (nI ((oAdd 4 dp (oAdd 0 (sT_bestLine s2.2 (wOf sl wv) fr) s2)).2 6).length) (oAdd 4 dp (oAdd 0 (sT_bestLine s2.2 (wOf sl wv) fr) s2))).2 := hz
      have hP : va_P g.1 vwCl (TW g ad q (oAdd 5 (nI ((oAdd 4 dp (oAdd 0 (sT_bestLine s2.2 (wOf sl wv) fr) s2)).2 6).length) (oAdd 4 dp (oAdd 0 (sT_bestLine s2.2 (wOf sl wv) fr) s2))).1 f (oAdd 5 (nI ((oAdd 4 dp (oAdd 0 (sT_bestLine s2.2 (wOf sl wv) fr) s2)).2 6).length) (oAdd 4 dp (oAdd 0 (sT_bestLine s2.2 (wOf sl wv) fr) s2))).2 sl cnt h st LW wv) H := hP
      have hD : va_D A (TW g ad q (oAdd 5 (nI ((oAdd 4 dp (oAdd 0 (sT_bestLine s2.2 (wOf sl wv) fr) s2)).2 6).length) (oAdd 4 dp (oAdd 0 (sT_bestLine s2.2 (wOf sl wv) fr) s2))).1 f (oAdd 5 (nI ((oAdd 4 dp (oAdd 0 (sT_bestLine s2.2 (wOf sl wv) fr) s2)).2 6).length) (oAdd 4 dp (oAdd 0 (sT_bestLine s2.2 (wOf sl wv) fr) s2))).2 sl cnt h st LW wv) := hD
      have hle : mu s0.1 ≤ mu (oAdd 5 (nI ((oAdd 4 dp (oAdd 0 (sT_bestLine s2.2 (wOf sl wv) fr) s2)).2 6).length) (oAdd 4 dp (oAdd 0 (sT_bestLine s2.2 (wOf sl wv) fr) s2))).1 := by omega
      refine W.widen (k := mu (oAdd 5 (nI ((oAdd 4 dp (oAdd 0 (sT_bestLine s2.2 (wOf sl wv) fr) s2)).2 6).length) (oAdd 4 dp (oAdd 0 (sT_bestLine s2.2 (wOf sl wv) fr) s2))).1 - mu s0.1) (n := mu (oAdd 5 (nI ((oAdd 4 dp (oAdd 0 (sT_bestLine s2.2 (wOf sl wv) fr) s2)).2 6).length) (oAdd 4 dp (oAdd 0 (sT_bestLine s2.2 (wOf sl wv) fr) s2))).1 - mu s0.1) (by omega) (by omega) ?_
      refine lv_aload_n hx hb dT_plantNext_159 rfl (lv_at hl 6 rfl) ?_
      refine va_get (D := g.1) (ci := 4) (v := .ref (ad 7)) (C := "NodeMaker$Tree") (T := Fd_T) (N := 16) hx hb ht i_T hown hK.1 hP 0 rfl rfl 2 (by decide) (ht _ q_107) (fun _ h9 => h9) rfl dT_plantNext_160 ?_
      refine lv_iconst (v := -1) hx hb dT_plantNext_163 (by decide) ?_
      have hmu : mu (oAdd 1 (-1) (oAdd 5 (nI ((oAdd 4 dp (oAdd 0 (sT_bestLine s2.2 (wOf sl wv) fr) s2)).2 6).length) (oAdd 4 dp (oAdd 0 (sT_bestLine s2.2 (wOf sl wv) fr) s2)))).1 = mu (oAdd 5 (nI ((oAdd 4 dp (oAdd 0 (sT_bestLine s2.2 (wOf sl wv) fr) s2)).2 6).length) (oAdd 4 dp (oAdd 0 (sT_bestLine s2.2 (wOf sl wv) fr) s2))).1 + aUse ((oAdd 5 (nI ((oAdd 4 dp (oAdd 0 (sT_bestLine s2.2 (wOf sl wv) fr) s2)).2 6).length) (oAdd 4 dp (oAdd 0 (sT_bestLine s2.2 (wOf sl wv) fr) s2))).1 1) ((oAdd 5 (nI ((oAdd 4 dp (oAdd 0 (sT_bestLine s2.2 (wOf sl wv) fr) s2)).2 6).length) (oAdd 4 dp (oAdd 0 (sT_bestLine s2.2 (wOf sl wv) fr) s2))).2 1) := mu_oAdd (K := 1) (v := (-1)) (s := oAdd 5 (nI ((oAdd 4 dp (oAdd 0 (sT_bestLine s2.2 (wOf sl wv) fr) s2)).2 6).length) (oAdd 4 dp (oAdd 0 (sT_bestLine s2.2 (wOf sl wv) fr) s2))) (by decide)
      have hfit : mu (oAdd 1 (-1) (oAdd 5 (nI ((oAdd 4 dp (oAdd 0 (sT_bestLine s2.2 (wOf sl wv) fr) s2)).2 6).length) (oAdd 4 dp (oAdd 0 (sT_bestLine s2.2 (wOf sl wv) fr) s2)))).1 ≤ mu ((sPN (wOf sl wv) t fr s0 h).1).1 := Nat.le_trans (show mu (oAdd 1 (-1) (oAdd 5 (nI ((oAdd 4 dp (oAdd 0 (sT_bestLine s2.2 (wOf sl wv) fr) s2)).2 6).length) (oAdd 4 dp (oAdd 0 (sT_bestLine s2.2 (wOf sl wv) fr) s2)))).1 ≤ mu (plNew (wOf sl wv) fr dp s2).1 from Nat.le_trans (mu_oAdd_le (by decide)) (mu_oAdd_le (by decide))) hmn
      refine tr_add_1 ⟨hx, hb, hml, hown, ht⟩ q_319 ⟨Nat.le_of_ble_eq_true rfl, Nat.le_of_ble_eq_true rfl⟩ hK hz hP hD hS hA hl.1 (Nat.le_of_ble_eq_true rfl) dT_plantNext_164 ⟨by show mu (oAdd 5 (nI ((oAdd 4 dp (oAdd 0 (sT_bestLine s2.2 (wOf sl wv) fr) s2)).2 6).length) (oAdd 4 dp (oAdd 0 (sT_bestLine s2.2 (wOf sl wv) fr) s2))).1 - mu s0.1 + aUse ((oAdd 5 (nI ((oAdd 4 dp (oAdd 0 (sT_bestLine s2.2 (wOf sl wv) fr) s2)).2 6).length) (oAdd 4 dp (oAdd 0 (sT_bestLine s2.2 (wOf sl wv) fr) s2))).1 1) ((oAdd 5 (nI ((oAdd 4 dp (oAdd 0 (sT_bestLine s2.2 (wOf sl wv) fr) s2)).2 6).length) (oAdd 4 dp (oAdd 0 (sT_bestLine s2.2 (wOf sl wv) fr) s2))).2 1) ≤ (mu ((sPN (wOf sl wv) t fr s0 h).1).1 - mu s0.1); omega, by show mu (oAdd 5 (nI ((oAdd 4 dp (oAdd 0 (sT_bestLine s2.2 (wOf sl wv) fr) s2)).2 6).length) (oAdd 4 dp (oAdd 0 (sT_bestLine s2.2 (wOf sl wv) fr) s2))).1 - mu s0.1 + aUse ((oAdd 5 (nI ((oAdd 4 dp (oAdd 0 (sT_bestLine s2.2 (wOf sl wv) fr) s2)).2 6).length) (oAdd 4 dp (oAdd 0 (sT_bestLine s2.2 (wOf sl wv) fr) s2))).1 1) ((oAdd 5 (nI ((oAdd 4 dp (oAdd 0 (sT_bestLine s2.2 (wOf sl wv) fr) s2)).2 6).length) (oAdd 4 dp (oAdd 0 (sT_bestLine s2.2 (wOf sl wv) fr) s2))).2 1) ≤ (mu ((sPN (wOf sl wv) t fr s0 h).1).1 - mu s0.1); omega⟩ (fun q f H locs hz hP hD hS => ?_)
      have hz : rowsT (oAdd 1 (-1) (oAdd 5 (nI ((oAdd 4 dp (oAdd 0 (sT_bestLine s2.2 (wOf sl wv) fr) s2)).2 6).length) (oAdd 4 dp (oAdd 0 (sT_bestLine s2.2 (wOf sl wv) fr) s2)))).1 f (oAdd 1 (-1) (oAdd 5 (nI ((oAdd 4 dp (oAdd 0 (sT_bestLine s2.2 (wOf sl wv) fr) s2)).2 6).length) (oAdd 4 dp (oAdd 0 (sT_bestLine s2.2 (wOf sl wv) fr) s2)))).2 := hz
      have hP : va_P g.1 vwCl (TW g ad q (oAdd 1 (-1) (oAdd 5 (nI ((oAdd 4 dp (oAdd 0 (sT_bestLine s2.2 (wOf sl wv) fr) s2)).2 6).length) (oAdd 4 dp (oAdd 0 (sT_bestLine s2.2 (wOf sl wv) fr) s2)))).1 f (oAdd 1 (-1) (oAdd 5 (nI ((oAdd 4 dp (oAdd 0 (sT_bestLine s2.2 (wOf sl wv) fr) s2)).2 6).length) (oAdd 4 dp (oAdd 0 (sT_bestLine s2.2 (wOf sl wv) fr) s2)))).2 sl cnt h st LW wv) H := hP
      have hD : va_D A (TW g ad q (oAdd 1 (-1) (oAdd 5 (nI ((oAdd 4 dp (oAdd 0 (sT_bestLine s2.2 (wOf sl wv) fr) s2)).2 6).length) (oAdd 4 dp (oAdd 0 (sT_bestLine s2.2 (wOf sl wv) fr) s2)))).1 f (oAdd 1 (-1) (oAdd 5 (nI ((oAdd 4 dp (oAdd 0 (sT_bestLine s2.2 (wOf sl wv) fr) s2)).2 6).length) (oAdd 4 dp (oAdd 0 (sT_bestLine s2.2 (wOf sl wv) fr) s2)))).2 sl cnt h st LW wv) := hD
      have hle : mu s0.1 ≤ mu (oAdd 1 (-1) (oAdd 5 (nI ((oAdd 4 dp (oAdd 0 (sT_bestLine s2.2 (wOf sl wv) fr) s2)).2 6).length) (oAdd 4 dp (oAdd 0 (sT_bestLine s2.2 (wOf sl wv) fr) s2)))).1 := by omega
      refine W.widen (k := mu (oAdd 1 (-1) (oAdd 5 (nI ((oAdd 4 dp (oAdd 0 (sT_bestLine s2.2 (wOf sl wv) fr) s2)).2 6).length) (oAdd 4 dp (oAdd 0 (sT_bestLine s2.2 (wOf sl wv) fr) s2)))).1 - mu s0.1) (n := mu (oAdd 1 (-1) (oAdd 5 (nI ((oAdd 4 dp (oAdd 0 (sT_bestLine s2.2 (wOf sl wv) fr) s2)).2 6).length) (oAdd 4 dp (oAdd 0 (sT_bestLine s2.2 (wOf sl wv) fr) s2)))).1 - mu s0.1) (by omega) (by omega) ?_
      refine lv_aload_n hx hb dT_plantNext_167 rfl (lv_at hl 6 rfl) ?_
      refine va_get (D := g.1) (ci := 4) (v := .ref (ad 8)) (C := "NodeMaker$Tree") (T := Fd_T) (N := 16) hx hb ht i_T hown hK.1 hP 0 rfl rfl 3 (by decide) (ht _ q_108) (fun _ h9 => h9) rfl dT_plantNext_168 ?_
      refine lv_iconst (v := -1) hx hb dT_plantNext_171 (by decide) ?_
      have hmu : mu (oAdd 2 (-1) (oAdd 1 (-1) (oAdd 5 (nI ((oAdd 4 dp (oAdd 0 (sT_bestLine s2.2 (wOf sl wv) fr) s2)).2 6).length) (oAdd 4 dp (oAdd 0 (sT_bestLine s2.2 (wOf sl wv) fr) s2))))).1 = mu (oAdd 1 (-1) (oAdd 5 (nI ((oAdd 4 dp (oAdd 0 (sT_bestLine s2.2 (wOf sl wv) fr) s2)).2 6).length) (oAdd 4 dp (oAdd 0 (sT_bestLine s2.2 (wOf sl wv) fr) s2)))).1 + aUse ((oAdd 1 (-1) (oAdd 5 (nI ((oAdd 4 dp (oAdd 0 (sT_bestLine s2.2 (wOf sl wv) fr) s2)).2 6).length) (oAdd 4 dp (oAdd 0 (sT_bestLine s2.2 (wOf sl wv) fr) s2)))).1 2) ((oAdd 1 (-1) (oAdd 5 (nI ((oAdd 4 dp (oAdd 0 (sT_bestLine s2.2 (wOf sl wv) fr) s2)).2 6).length) (oAdd 4 dp (oAdd 0 (sT_bestLine s2.2 (wOf sl wv) fr) s2)))).2 2) := mu_oAdd (K := 2) (v := (-1)) (s := oAdd 1 (-1) (oAdd 5 (nI ((oAdd 4 dp (oAdd 0 (sT_bestLine s2.2 (wOf sl wv) fr) s2)).2 6).length) (oAdd 4 dp (oAdd 0 (sT_bestLine s2.2 (wOf sl wv) fr) s2)))) (by decide)
      have hfit : mu (oAdd 2 (-1) (oAdd 1 (-1) (oAdd 5 (nI ((oAdd 4 dp (oAdd 0 (sT_bestLine s2.2 (wOf sl wv) fr) s2)).2 6).length) (oAdd 4 dp (oAdd 0 (sT_bestLine s2.2 (wOf sl wv) fr) s2))))).1 ≤ mu ((sPN (wOf sl wv) t fr s0 h).1).1 := Nat.le_trans (show mu (oAdd 2 (-1) (oAdd 1 (-1) (oAdd 5 (nI ((oAdd 4 dp (oAdd 0 (sT_bestLine s2.2 (wOf sl wv) fr) s2)).2 6).length) (oAdd 4 dp (oAdd 0 (sT_bestLine s2.2 (wOf sl wv) fr) s2))))).1 ≤ mu (plNew (wOf sl wv) fr dp s2).1 from mu_oAdd_le (by decide)) hmn
      refine tr_add_2 ⟨hx, hb, hml, hown, ht⟩ q_319 ⟨Nat.le_of_ble_eq_true rfl, Nat.le_of_ble_eq_true rfl⟩ hK hz hP hD hS hA hl.1 (Nat.le_of_ble_eq_true rfl) dT_plantNext_172 ⟨by show mu (oAdd 1 (-1) (oAdd 5 (nI ((oAdd 4 dp (oAdd 0 (sT_bestLine s2.2 (wOf sl wv) fr) s2)).2 6).length) (oAdd 4 dp (oAdd 0 (sT_bestLine s2.2 (wOf sl wv) fr) s2)))).1 - mu s0.1 + aUse ((oAdd 1 (-1) (oAdd 5 (nI ((oAdd 4 dp (oAdd 0 (sT_bestLine s2.2 (wOf sl wv) fr) s2)).2 6).length) (oAdd 4 dp (oAdd 0 (sT_bestLine s2.2 (wOf sl wv) fr) s2)))).1 2) ((oAdd 1 (-1) (oAdd 5 (nI ((oAdd 4 dp (oAdd 0 (sT_bestLine s2.2 (wOf sl wv) fr) s2)).2 6).length) (oAdd 4 dp (oAdd 0 (sT_bestLine s2.2 (wOf sl wv) fr) s2)))).2 2) ≤ (mu ((sPN (wOf sl wv) t fr s0 h).1).1 - mu s0.1); omega, by show mu (oAdd 1 (-1) (oAdd 5 (nI ((oAdd 4 dp (oAdd 0 (sT_bestLine s2.2 (wOf sl wv) fr) s2)).2 6).length) (oAdd 4 dp (oAdd 0 (sT_bestLine s2.2 (wOf sl wv) fr) s2)))).1 - mu s0.1 + aUse ((oAdd 1 (-1) (oAdd 5 (nI ((oAdd 4 dp (oAdd 0 (sT_bestLine s2.2 (wOf sl wv) fr) s2)).2 6).length) (oAdd 4 dp (oAdd 0 (sT_bestLine s2.2 (wOf sl wv) fr) s2)))).1 2) ((oAdd 1 (-1) (oAdd 5 (nI ((oAdd 4 dp (oAdd 0 (sT_bestLine s2.2 (wOf sl wv) fr) s2)).2 6).length) (oAdd 4 dp (oAdd 0 (sT_bestLine s2.2 (wOf sl wv) fr) s2)))).2 2) ≤ (mu ((sPN (wOf sl wv) t fr s0 h).1).1 - mu s0.1); omega⟩ (fun q f H locs hz hP hD hS => ?_)
      have hz : rowsT (oAdd 2 (-1) (oAdd 1 (-1) (oAdd 5 (nI ((oAdd 4 dp (oAdd 0 (sT_bestLine s2.2 (wOf sl wv) fr) s2)).2 6).length) (oAdd 4 dp (oAdd 0 (sT_bestLine s2.2 (wOf sl wv) fr) s2))))).1 f (oAdd 2 (-1) (oAdd 1 (-1) (oAdd 5 (nI ((oAdd 4 dp (oAdd 0 (sT_bestLine s2.2 (wOf sl wv) fr) s2)).2 6).length) (oAdd 4 dp (oAdd 0 (sT_bestLine s2.2 (wOf sl wv) fr) s2))))).2 := hz
      have hP : va_P g.1 vwCl (TW g ad q (oAdd 2 (-1) (oAdd 1 (-1) (oAdd 5 (nI ((oAdd 4 dp (oAdd 0 (sT_bestLine s2.2 (wOf sl wv) fr) s2)).2 6).length) (oAdd 4 dp (oAdd 0 (sT_bestLine s2.2 (wOf sl wv) fr) s2))))).1 f (oAdd 2 (-1) (oAdd 1 (-1) (oAdd 5 (nI ((oAdd 4 dp (oAdd 0 (sT_bestLine s2.2 (wOf sl wv) fr) s2)).2 6).length) (oAdd 4 dp (oAdd 0 (sT_bestLine s2.2 (wOf sl wv) fr) s2))))).2 sl cnt h st LW wv) H := hP
      have hD : va_D A (TW g ad q (oAdd 2 (-1) (oAdd 1 (-1) (oAdd 5 (nI ((oAdd 4 dp (oAdd 0 (sT_bestLine s2.2 (wOf sl wv) fr) s2)).2 6).length) (oAdd 4 dp (oAdd 0 (sT_bestLine s2.2 (wOf sl wv) fr) s2))))).1 f (oAdd 2 (-1) (oAdd 1 (-1) (oAdd 5 (nI ((oAdd 4 dp (oAdd 0 (sT_bestLine s2.2 (wOf sl wv) fr) s2)).2 6).length) (oAdd 4 dp (oAdd 0 (sT_bestLine s2.2 (wOf sl wv) fr) s2))))).2 sl cnt h st LW wv) := hD
      have hle : mu s0.1 ≤ mu (oAdd 2 (-1) (oAdd 1 (-1) (oAdd 5 (nI ((oAdd 4 dp (oAdd 0 (sT_bestLine s2.2 (wOf sl wv) fr) s2)).2 6).length) (oAdd 4 dp (oAdd 0 (sT_bestLine s2.2 (wOf sl wv) fr) s2))))).1 := by omega
      refine W.widen (k := mu (oAdd 2 (-1) (oAdd 1 (-1) (oAdd 5 (nI ((oAdd 4 dp (oAdd 0 (sT_bestLine s2.2 (wOf sl wv) fr) s2)).2 6).length) (oAdd 4 dp (oAdd 0 (sT_bestLine s2.2 (wOf sl wv) fr) s2))))).1 - mu s0.1) (n := mu (oAdd 2 (-1) (oAdd 1 (-1) (oAdd 5 (nI ((oAdd 4 dp (oAdd 0 (sT_bestLine s2.2 (wOf sl wv) fr) s2)).2 6).length) (oAdd 4 dp (oAdd 0 (sT_bestLine s2.2 (wOf sl wv) fr) s2))))).1 - mu s0.1) (by omega) (by omega) ?_
      refine lv_aload_n hx hb dT_plantNext_175 rfl (lv_at hl 6 rfl) ?_
      refine va_get (D := g.1) (ci := 4) (v := .ref (ad 9)) (C := "NodeMaker$Tree") (T := Fd_T) (N := 16) hx hb ht i_T hown hK.1 hP 0 rfl rfl 4 (by decide) (ht _ q_109) (fun _ h9 => h9) rfl dT_plantNext_176 ?_
      refine lv_iconst (v := 1) hx hb dT_plantNext_179 (by decide) ?_
      have hmu : mu (oAdd 3 1 (oAdd 2 (-1) (oAdd 1 (-1) (oAdd 5 (nI ((oAdd 4 dp (oAdd 0 (sT_bestLine s2.2 (wOf sl wv) fr) s2)).2 6).length) (oAdd 4 dp (oAdd 0 (sT_bestLine s2.2 (wOf sl wv) fr) s2)))))).1 = mu (oAdd 2 (-1) (oAdd 1 (-1) (oAdd 5 (nI ((oAdd 4 dp (oAdd 0 (sT_bestLine s2.2 (wOf sl wv) fr) s2)).2 6).length) (oAdd 4 dp (oAdd 0 (sT_bestLine s2.2 (wOf sl wv) fr) s2))))).1 + aUse ((oAdd 2 (-1) (oAdd 1 (-1) (oAdd 5 (nI ((oAdd 4 dp (oAdd 0 (sT_bestLine s2.2 (wOf sl wv) fr) s2)).2 6).length) (oAdd 4 dp (oAdd 0 (sT_bestLine s2.2 (wOf sl wv) fr) s2))))).1 3) ((oAdd 2 (-1) (oAdd 1 (-1) (oAdd 5 (nI ((oAdd 4 dp (oAdd 0 (sT_bestLine s2.2 (wOf sl wv) fr) s2)).2 6).length) (oAdd 4 dp (oAdd 0 (sT_bestLine s2.2 (wOf sl wv) fr) s2))))).2 3) := mu_oAdd (K := 3) (v := 1) (s := oAdd 2 (-1) (oAdd 1 (-1) (oAdd 5 (nI ((oAdd 4 dp (oAdd 0 (sT_bestLine s2.2 (wOf sl wv) fr) s2)).2 6).length) (oAdd 4 dp (oAdd 0 (sT_bestLine s2.2 (wOf sl wv) fr) s2))))) (by decide)
      have hfit : mu (oAdd 3 1 (oAdd 2 (-1) (oAdd 1 (-1) (oAdd 5 (nI ((oAdd 4 dp (oAdd 0 (sT_bestLine s2.2 (wOf sl wv) fr) s2)).2 6).length) (oAdd 4 dp (oAdd 0 (sT_bestLine s2.2 (wOf sl wv) fr) s2)))))).1 ≤ mu ((sPN (wOf sl wv) t fr s0 h).1).1 := Nat.le_trans (show mu (oAdd 3 1 (oAdd 2 (-1) (oAdd 1 (-1) (oAdd 5 (nI ((oAdd 4 dp (oAdd 0 (sT_bestLine s2.2 (wOf sl wv) fr) s2)).2 6).length) (oAdd 4 dp (oAdd 0 (sT_bestLine s2.2 (wOf sl wv) fr) s2)))))).1 ≤ mu (plNew (wOf sl wv) fr dp s2).1 from Nat.le_refl _) hmn
      refine tr_add_3 ⟨hx, hb, hml, hown, ht⟩ q_319 ⟨Nat.le_of_ble_eq_true rfl, Nat.le_of_ble_eq_true rfl⟩ hK hz hP hD hS hA hl.1 (Nat.le_of_ble_eq_true rfl) dT_plantNext_180 ⟨by show mu (oAdd 2 (-1) (oAdd 1 (-1) (oAdd 5 (nI ((oAdd 4 dp (oAdd 0 (sT_bestLine s2.2 (wOf sl wv) fr) s2)).2 6).length) (oAdd 4 dp (oAdd 0 (sT_bestLine s2.2 (wOf sl wv) fr) s2))))).1 - mu s0.1 + aUse ((oAdd 2 (-1) (oAdd 1 (-1) (oAdd 5 (nI ((oAdd 4 dp (oAdd 0 (sT_bestLine s2.2 (wOf sl wv) fr) s2)).2 6).length) (oAdd 4 dp (oAdd 0 (sT_bestLine s2.2 (wOf sl wv) fr) s2))))).1 3) ((oAdd 2 (-1) (oAdd 1 (-1) (oAdd 5 (nI ((oAdd 4 dp (oAdd 0 (sT_bestLine s2.2 (wOf sl wv) fr) s2)).2 6).length) (oAdd 4 dp (oAdd 0 (sT_bestLine s2.2 (wOf sl wv) fr) s2))))).2 3) ≤ (mu ((sPN (wOf sl wv) t fr s0 h).1).1 - mu s0.1); omega, by show mu (oAdd 2 (-1) (oAdd 1 (-1) (oAdd 5 (nI ((oAdd 4 dp (oAdd 0 (sT_bestLine s2.2 (wOf sl wv) fr) s2)).2 6).length) (oAdd 4 dp (oAdd 0 (sT_bestLine s2.2 (wOf sl wv) fr) s2))))).1 - mu s0.1 + aUse ((oAdd 2 (-1) (oAdd 1 (-1) (oAdd 5 (nI ((oAdd 4 dp (oAdd 0 (sT_bestLine s2.2 (wOf sl wv) fr) s2)).2 6).length) (oAdd 4 dp (oAdd 0 (sT_bestLine s2.2 (wOf sl wv) fr) s2))))).1 3) ((oAdd 2 (-1) (oAdd 1 (-1) (oAdd 5 (nI ((oAdd 4 dp (oAdd 0 (sT_bestLine s2.2 (wOf sl wv) fr) s2)).2 6).length) (oAdd 4 dp (oAdd 0 (sT_bestLine s2.2 (wOf sl wv) fr) s2))))).2 3) ≤ (mu ((sPN (wOf sl wv) t fr s0 h).1).1 - mu s0.1); omega⟩ (fun q f H locs hz hP hD hS => ?_)
      have hz : rowsT (oAdd 3 1 (oAdd 2 (-1) (oAdd 1 (-1) (oAdd 5 (nI ((oAdd 4 dp (oAdd 0 (sT_bestLine s2.2 (wOf sl wv) fr) s2)).2 6).length) (oAdd 4 dp (oAdd 0 (sT_bestLine s2.2 (wOf sl wv) fr) s2)))))).1 f (oAdd 3 1 (oAdd 2 (-1) (oAdd 1 (-1) (oAdd 5 (nI ((oAdd 4 dp (oAdd 0 (sT_bestLine s2.2 (wOf sl wv) fr) s2)).2 6).length) (oAdd 4 dp (oAdd 0 (sT_bestLine s2.2 (wOf sl wv) fr) s2)))))).2 := hz
      have hP : va_P g.1 vwCl (TW g ad q (oAdd 3 1 (oAdd 2 (-1) (oAdd 1 (-1) (oAdd 5 (nI ((oAdd 4 dp (oAdd 0 (sT_bestLine s2.2 (wOf sl wv) fr) s2)).2 6).length) (oAdd 4 dp (oAdd 0 (sT_bestLine s2.2 (wOf sl wv) fr) s2)))))).1 f (oAdd 3 1 (oAdd 2 (-1) (oAdd 1 (-1) (oAdd 5 (nI ((oAdd 4 dp (oAdd 0 (sT_bestLine s2.2 (wOf sl wv) fr) s2)).2 6).length) (oAdd 4 dp (oAdd 0 (sT_bestLine s2.2 (wOf sl wv) fr) s2)))))).2 sl cnt h st LW wv) H := hP
      have hD : va_D A (TW g ad q (oAdd 3 1 (oAdd 2 (-1) (oAdd 1 (-1) (oAdd 5 (nI ((oAdd 4 dp (oAdd 0 (sT_bestLine s2.2 (wOf sl wv) fr) s2)).2 6).length) (oAdd 4 dp (oAdd 0 (sT_bestLine s2.2 (wOf sl wv) fr) s2)))))).1 f (oAdd 3 1 (oAdd 2 (-1) (oAdd 1 (-1) (oAdd 5 (nI ((oAdd 4 dp (oAdd 0 (sT_bestLine s2.2 (wOf sl wv) fr) s2)).2 6).length) (oAdd 4 dp (oAdd 0 (sT_bestLine s2.2 (wOf sl wv) fr) s2)))))).2 sl cnt h st LW wv) := hD
      have hle : mu s0.1 ≤ mu (oAdd 3 1 (oAdd 2 (-1) (oAdd 1 (-1) (oAdd 5 (nI ((oAdd 4 dp (oAdd 0 (sT_bestLine s2.2 (wOf sl wv) fr) s2)).2 6).length) (oAdd 4 dp (oAdd 0 (sT_bestLine s2.2 (wOf sl wv) fr) s2)))))).1 := by omega
      refine W.widen (k := mu (oAdd 3 1 (oAdd 2 (-1) (oAdd 1 (-1) (oAdd 5 (nI ((oAdd 4 dp (oAdd 0 (sT_bestLine s2.2 (wOf sl wv) fr) s2)).2 6).length) (oAdd 4 dp (oAdd 0 (sT_bestLine s2.2 (wOf sl wv) fr) s2)))))).1 - mu s0.1) (n := mu (oAdd 3 1 (oAdd 2 (-1) (oAdd 1 (-1) (oAdd 5 (nI ((oAdd 4 dp (oAdd 0 (sT_bestLine s2.2 (wOf sl wv) fr) s2)).2 6).length) (oAdd 4 dp (oAdd 0 (sT_bestLine s2.2 (wOf sl wv) fr) s2)))))).1 - mu s0.1) (by omega) (by omega) ?_
      have hle : mu s0.1 ≤ mu (plNew (wOf sl wv) fr dp s2).1 := by omega
      have hz : rowsT (plNew (wOf sl wv) fr dp s2).1 f (plNew (wOf sl wv) fr dp s2).2 := hz
      have hP : va_P g.1 vwCl (TW g ad q (plNew (wOf sl wv) fr dp s2).1 f (plNew (wOf sl wv) fr dp s2).2 sl cnt h st LW wv) H := hP
      have hD : va_D A (TW g ad q (plNew (wOf sl wv) fr dp s2).1 f (plNew (wOf sl wv) fr dp s2).2 sl cnt h st LW wv) := hD
      refine W.widen (k := mu (plNew (wOf sl wv) fr dp s2).1 - mu s0.1) (n := mu (plNew (wOf sl wv) fr dp s2).1 - mu s0.1) (Nat.le_refl _) (Nat.le_refl _) ?_
      refine lv_aload_n hx hb dT_plantNext_183 rfl (lv_at hl 6 rfl) ?_
      refine lv_aload_n hx hb dT_plantNext_184 rfl (lv_at hl 6 rfl) ?_
      refine va_get (D := g.1) (ci := 4) (v := .int h) (C := "NodeMaker$Tree") (T := Fd_T) (N := 16) hx hb ht i_T hown hK.1 hP 0 rfl rfl 14 (by decide) (ht _ q_119) (fun _ h9 => h9) rfl dT_plantNext_185 ?_
      refine lv_iload hx hb dT_plantNext_188 (lv_at hl 1 rfl) ?_
      refine lv_iconst (v := 1) hx hb dT_plantNext_190 (by decide) ?_
      refine lv_iadd hx hb dT_plantNext_191 ?_
      refine va_mmax hx hb (by rw [hml]; exact hl.1.symm) hown (ht _ q_376) (ht _ q_233) (ht _ q_41) (ht _ q_234) (Nat.le_of_ble_eq_true rfl) (Nat.le_of_ble_eq_true rfl) (by show mu (plNew (wOf sl wv) fr dp s2).1 - mu s0.1 ≤ (mu ((sPN (wOf sl wv) t fr s0 h).1).1 - mu s0.1); omega) (by show mu (plNew (wOf sl wv) fr dp s2).1 - mu s0.1 ≤ (mu ((sPN (wOf sl wv) t fr s0 h).1).1 - mu s0.1); omega) dT_plantNext_192 ?_
      refine va_put (D := g.1) (ci := 4) (v := .int (if h < (dp + 1) then (dp + 1) else h)) (ty := .int) (C := "NodeMaker$Tree") (T := Fd_T) (N := 16) hx hb ht i_T ty_T ty_T_ok nm_T hown hK.1 hP hD hS 0 rfl rfl 14 (by decide) (ht _ q_119) (fun _ h9 => h9) rfl (by decide +kernel) rfl rfl (Nat.le_of_ble_eq_true rfl) dT_plantNext_195 (fun H locs hP hD hS => ?_)
      have hP : va_P g.1 vwCl (TW g ad q (plNew (wOf sl wv) fr dp s2).1 f (plNew (wOf sl wv) fr dp s2).2 sl cnt (if h < (dp + 1) then (dp + 1) else h) st LW wv) H := hP
      have hD : va_D A (TW g ad q (plNew (wOf sl wv) fr dp s2).1 f (plNew (wOf sl wv) fr dp s2).2 sl cnt (if h < (dp + 1) then (dp + 1) else h) st LW wv) := hD
      refine lv_aload_n hx hb dT_plantNext_198 rfl (lv_at hl 6 rfl) ?_
      refine lv_iload_n hx hb dT_plantNext_199 rfl (lv_at hl 4 rfl) ?_
      refine lv_iload hx hb dT_plantNext_200 (lv_at hl 0 rfl) ?_
      refine lv_iload hx hb dT_plantNext_202 (lv_at hl 2 rfl) ?_
      have hP : va_P g.1 vwCl (TW g ad q (plNew (wOf sl wv) fr dp s2).1 f (plNew (wOf sl wv) fr dp s2).2 sl cnt (plHI dp h) st LW wv) H := hP
      have hD : va_D A (TW g ad q (plNew (wOf sl wv) fr dp s2).1 f (plNew (wOf sl wv) fr dp s2).2 sl cnt (plHI dp h) st LW wv) := hD
      have huse : mu (plDiv (wOf sl wv) fr dp kk s2).1.1 = mu dd.1.1 := by rw [hdd2]
      refine rw_iA (va_runV (As := [.int (nI fr), .int (sT_bestLine s2.2 (wOf sl wv) fr), .int kk]) (rest := []) ⟨hx, hb, hml, hown, ht⟩ (cT_divide l g H.size ad q f (plNew (wOf sl wv) fr dp s2) sl cnt (plHI dp h) st LW wv hz hsl fr hfr2 (sT_bestLine s2.2 (wOf sl wv) fr) kk) (cwV 3 ht (g_V q_377 q_379 q_6 q_35 q_380) rfl rfl rfl hd_T_divide ⟨Nat.le_of_ble_eq_true rfl, Nat.le_of_ble_eq_true rfl⟩) (rw_V hK hP hD (va_recv hK.1 hP (ci := 4) (q0 := 0) rfl rfl)) rfl rfl hl.1 rfl (lv_room (Nat.le_of_ble_eq_true rfl)) dT_plantNext_204 ⟨by show mu (plNew (wOf sl wv) fr dp s2).1 - mu s0.1 + (mu (plDiv (wOf sl wv) fr dp kk s2).1.1 - mu (plNew (wOf sl wv) fr dp s2).1) ≤ (mu ((sPN (wOf sl wv) t fr s0 h).1).1 - mu s0.1); omega, by show mu (plNew (wOf sl wv) fr dp s2).1 - mu s0.1 + (mu (plDiv (wOf sl wv) fr dp kk s2).1.1 - mu (plNew (wOf sl wv) fr dp s2).1) ≤ (mu ((sPN (wOf sl wv) t fr s0 h).1).1 - mu s0.1); omega⟩) hD hS hA (fun r u H locs hw hP hD hS => ?_)
      obtain ⟨q, f⟩ := u
      obtain ⟨hwr, hz⟩ := hw
      have hz : rowsT dd.1.1 f dd.1.2 := by rw [hdd2]; exact hz
      have hP : va_P g.1 vwCl (TW g ad q dd.1.1 f dd.1.2 sl cnt (plHI dp h) st LW wv) H := by rw [hdd2]; exact hP
      have hD : va_D A (TW g ad q dd.1.1 f dd.1.2 sl cnt (plHI dp h) st LW wv) := by rw [hdd2]; exact hD
      obtain rfl : r = dd.2 := by rw [hdd2]; exact hwr
      have hle : mu s0.1 ≤ mu dd.1.1 := by omega
      refine W.widen (k := mu dd.1.1 - mu s0.1) (n := mu dd.1.1 - mu s0.1) (by show mu (plNew (wOf sl wv) fr dp s2).1 - mu s0.1 + (mu (plDiv (wOf sl wv) fr dp kk s2).1.1 - mu (plNew (wOf sl wv) fr dp s2).1) ≤ _; omega) (by show mu (plNew (wOf sl wv) fr dp s2).1 - mu s0.1 + (mu (plDiv (wOf sl wv) fr dp kk s2).1.1 - mu (plNew (wOf sl wv) fr dp s2).1) ≤ _; omega) ?_
      refine lv_istore (lv' := [(7, .int dd.2), (6, .int (sT_bestLine s2.2 (wOf sl wv) fr)), (5, .int dp), (4, .int kk), (3, .int pr), (2, .int (nI fr)), (1, .int (nI t)), (0, .ref (ad 0))]) hx hb dT_plantNext_207 hl (by decide) rfl (fun ls hl => ?_)
      have hle5 : mu s0.1 ≤ mu s5.1 := by omega
      have join223 : ∀  (q : Nat → Nat) (f : Nat → Nat → Int32) (H : Heap) (locs : List Loc) (ls : Array Slot), True → rowsT s5.1 f s5.2 → va_P g.1 vwCl (TW g ad q s5.1 f s5.2 sl cnt (plHI dp h) st LW wv) H → va_D A (TW g ad q s5.1 f s5.2 sl cnt (plHI dp h) st LW wv) → va_S A s.heap H locs → lv_has ls 8 [(7, .int dd.2), (4, .int kk), (0, .ref (ad 0))] → W p l e (headSpec (wm yT_plantNext kT_plantNext 8 none) ({ frames := 5, cells := (mu ((sPN (wOf sl wv) t fr s0 h).1).1 - mu s0.1), slots := (mu ((sPN (wOf sl wv) t fr s0 h).1).1 - mu s0.1), locals := 158 })).room s m ([.ref (ad 0)] : List Value).toArray below meth c H locs (mu s5.1 - mu s0.1) (mu s5.1 - mu s0.1) (MQ below (va_Qv (fun (u : (Nat → Nat) × (Nat → Nat → Int32)) => rowsT ((sPN (wOf sl wv) t fr s0 h).1).1 u.2 ((sPN (wOf sl wv) t fr s0 h).1).2) (rB g A (fun u => (TW g ad u.1 ((sPN (wOf sl wv) t fr s0 h).1).1 u.2 ((sPN (wOf sl wv) t fr s0 h).1).2 sl cnt ((sPN (wOf sl wv) t fr s0 h).2) st LW wv))) A) ([.ref (ad 0)] : List Value).toArray s (mu ((sPN (wOf sl wv) t fr s0 h).1).1 - mu s0.1) (mu ((sPN (wOf sl wv) t fr s0 h).1).1 - mu s0.1) A) (F0 m 223 ls []) := by
        intro  q f H locs ls _ hz hP hD hS hl
        refine lv_aload_n hx hb dT_plantNext_223 rfl (lv_at hl 2 rfl) ?_
        refine va_get (D := g.1) (ci := 4) (v := .ref (ad 4)) (C := "NodeMaker$Tree") (T := Fd_T) (N := 16) hx hb ht i_T hown hK.1 hP 0 rfl rfl 9 (by decide) (ht _ q_114) (fun _ h9 => h9) rfl dT_plantNext_224 ?_
        have hPc := hP.sub (ws' := (piW g (ad 4) (fun k => ad (16 + k)) (fun k => q (10 + k)) (fun k => s5.1 (10 + k)) (fun k => f (10 + k)) (fun k => (s5.2 (10 + k)).length))) [4, 26, 27, 28, 29, 30, 31] rfl
        refine ro_Vi (v := nI (s5.2 10).length) (As := []) (rest := []) ⟨hx, hb, hml, hown, ht⟩ (cP_count l g (ad 4) (fun k => ad (16 + k)) (fun k => q (10 + k)) (fun k => s5.1 (10 + k)) (fun k => f (10 + k)) (fun k => s5.2 (10 + k)) (rows_3 10 (by decide) hz) ) (cwV 0 ht (g_V q_307 q_308 q_309 q_38 q_310) rfl rfl rfl hd_P_count ⟨Nat.le_of_ble_eq_true rfl, Nat.le_of_ble_eq_true rfl⟩) hK (hPc) (va_recv hK.1 hPc (ci := 1) (q0 := 0) rfl rfl) rfl hl.1 rfl (Nat.le_of_ble_eq_true rfl) dT_plantNext_227 ⟨by show mu s5.1 - mu s0.1 ≤ (mu ((sPN (wOf sl wv) t fr s0 h).1).1 - mu s0.1); omega, by show mu s5.1 - mu s0.1 ≤ (mu ((sPN (wOf sl wv) t fr s0 h).1).1 - mu s0.1); omega⟩ ?_
        refine lv_iload hx hb dT_plantNext_230 (lv_at hl 0 rfl) ?_
        refine lv_icmp_le (tgt := 244) hx hb dT_plantNext_232 (by decide) (fun c_3 => ?_) (fun c_3 => ?_)
        · skip
          have hEF : (sPN (wOf sl wv) t fr s0 h) = (s5, plHI dp h) := by rw [hF0, pnL, if_pos c_3, hdp, ← hs2c]
          have hle9 : mu s0.1 ≤ mu s5.1 := by omega
          have hz9 : rowsT ((sPN (wOf sl wv) t fr s0 h).1).1 f ((sPN (wOf sl wv) t fr s0 h).1).2 := by rw [hEF]; exact hz
          have hP9 : va_P g.1 vwCl (TW g ad q ((sPN (wOf sl wv) t fr s0 h).1).1 f ((sPN (wOf sl wv) t fr s0 h).1).2 sl cnt (sPN (wOf sl wv) t fr s0 h).2 st LW wv) H := by rw [hEF]; exact hP
          have hD9 : va_D A (TW g ad q ((sPN (wOf sl wv) t fr s0 h).1).1 f ((sPN (wOf sl wv) t fr s0 h).1).2 sl cnt (sPN (wOf sl wv) t fr s0 h).2 st LW wv) := by rw [hEF]; exact hD
          have hmF : mu ((sPN (wOf sl wv) t fr s0 h).1).1 = mu s5.1 := by rw [hEF]
          refine W.widen (k := (mu ((sPN (wOf sl wv) t fr s0 h).1).1 - mu s0.1)) (n := (mu ((sPN (wOf sl wv) t fr s0 h).1).1 - mu s0.1)) (by omega) (by omega) ?_
          exact W.vret hx hb hr (fun t ht9 hW => ⟨⟨(q, f), rfl, hz9, by rw [ht9]; exact hP9, hD9⟩, hS.F ht9⟩) hS.2.2 dT_plantNext_244
        · skip
          refine lv_aload_n hx hb dT_plantNext_235 rfl (lv_at hl 2 rfl) ?_
          refine lv_iload hx hb dT_plantNext_236 (lv_at hl 0 rfl) ?_
          refine lv_iload hx hb dT_plantNext_238 (lv_at hl 1 rfl) ?_
          refine lv_iconst (v := 1) hx hb dT_plantNext_240 (by decide) ?_
          have h6w : mu (awt dd.2 kk 1 s5).1 ≤ mu ((sPN (wOf sl wv) t fr s0 h).1).1 := by rw [hF0]; show _ ≤ mu (pnL kk dd.2 s5).1; rw [pnL, if_neg c_3]; exact Nat.le_refl _
          have hma : mu s5.1 ≤ mu (awt dd.2 kk 1 s5).1 := awt_mono _ _ _ _
          refine rw_vA (va_runV (As := [.int dd.2, .int kk, .int 1]) (rest := []) ⟨hx, hb, hml, hown, ht⟩ (cT_await l g H.size ad q f s5 sl cnt (plHI dp h) st LW wv hz hsl dd.2 kk 1) (cwV 3 ht (g_V q_315 q_317 q_1 q_35 q_318) rfl rfl rfl hd_T_await ⟨Nat.le_of_ble_eq_true rfl, Nat.le_of_ble_eq_true rfl⟩) (rw_V hK hP hD (va_recv hK.1 hP (ci := 4) (q0 := 0) rfl rfl)) rfl rfl hl.1 rfl (lv_room (Nat.le_of_ble_eq_true rfl)) dT_plantNext_241 ⟨by show mu s5.1 - mu s0.1 + (mu (awt dd.2 kk 1 s5).1 - mu s5.1) ≤ (mu ((sPN (wOf sl wv) t fr s0 h).1).1 - mu s0.1); omega, by show mu s5.1 - mu s0.1 + (mu (awt dd.2 kk 1 s5).1 - mu s5.1) ≤ (mu ((sPN (wOf sl wv) t fr s0 h).1).1 - mu s0.1); omega⟩) hD hS hA (fun u H locs hw hP hD hS => ?_)
          obtain ⟨q, f⟩ := u
          have hz : rowsT (awt dd.2 kk 1 s5).1 f (awt dd.2 kk 1 s5).2 := hw
          have hP : va_P g.1 vwCl (TW g ad q (awt dd.2 kk 1 s5).1 f (awt dd.2 kk 1 s5).2 sl cnt (plHI dp h) st LW wv) H := hP
          have hD : va_D A (TW g ad q (awt dd.2 kk 1 s5).1 f (awt dd.2 kk 1 s5).2 sl cnt (plHI dp h) st LW wv) := hD
          refine W.widen (k := mu (awt dd.2 kk 1 s5).1 - mu s0.1) (n := mu (awt dd.2 kk 1 s5).1 - mu s0.1) (by show mu s5.1 - mu s0.1 + (mu (awt dd.2 kk 1 s5).1 - mu s5.1) ≤ _; omega) (by show mu s5.1 - mu s0.1 + (mu (awt dd.2 kk 1 s5).1 - mu s5.1) ≤ _; omega) ?_
          have hEF : (sPN (wOf sl wv) t fr s0 h) = (awt dd.2 kk 1 s5, plHI dp h) := by rw [hF0, pnL, if_neg c_3, hdp, ← hs2c]
          have hle9 : mu s0.1 ≤ mu (awt dd.2 kk 1 s5).1 := by omega
          have hz9 : rowsT ((sPN (wOf sl wv) t fr s0 h).1).1 f ((sPN (wOf sl wv) t fr s0 h).1).2 := by rw [hEF]; exact hz
          have hP9 : va_P g.1 vwCl (TW g ad q ((sPN (wOf sl wv) t fr s0 h).1).1 f ((sPN (wOf sl wv) t fr s0 h).1).2 sl cnt (sPN (wOf sl wv) t fr s0 h).2 st LW wv) H := by rw [hEF]; exact hP
          have hD9 : va_D A (TW g ad q ((sPN (wOf sl wv) t fr s0 h).1).1 f ((sPN (wOf sl wv) t fr s0 h).1).2 sl cnt (sPN (wOf sl wv) t fr s0 h).2 st LW wv) := by rw [hEF]; exact hD
          have hmF : mu ((sPN (wOf sl wv) t fr s0 h).1).1 = mu (awt dd.2 kk 1 s5).1 := by rw [hEF]
          refine W.widen (k := (mu ((sPN (wOf sl wv) t fr s0 h).1).1 - mu s0.1)) (n := (mu ((sPN (wOf sl wv) t fr s0 h).1).1 - mu s0.1)) (by omega) (by omega) ?_
          exact W.vret hx hb hr (fun t ht9 hW => ⟨⟨(q, f), rfl, hz9, by rw [ht9]; exact hP9, hD9⟩, hS.F ht9⟩) hS.2.2 dT_plantNext_244
      refine lv_iload hx hb dT_plantNext_209 (lv_at hl 0 rfl) ?_
      refine lv_iload_n hx hb dT_plantNext_211 rfl (lv_at hl 5 rfl) ?_
      refine lv_icmp_le (tgt := 223) hx hb dT_plantNext_212 (by decide) (fun c_4 => ?_) (fun c_4 => ?_)
      · skip
        have e5 : s5 = dd.1 := by rw [hs5, pnR, if_pos c_4]
        rw [← e5] at hz hP hD
        refine W.widen (k := mu s5.1 - mu s0.1) (n := mu s5.1 - mu s0.1) (by rw [e5]; exact Nat.le_refl _) (by rw [e5]; exact Nat.le_refl _) ?_
        exact join223 q f _ _ ls trivial hz hP hD hS (lv_sub hl [0, 3, 7] rfl)
      · skip
        refine lv_aload_n hx hb dT_plantNext_215 rfl (lv_at hl 7 rfl) ?_
        refine lv_iload_n hx hb dT_plantNext_216 rfl (lv_at hl 5 rfl) ?_
        refine lv_iload hx hb dT_plantNext_217 (lv_at hl 3 rfl) ?_
        refine lv_iconst (v := 2) hx hb dT_plantNext_219 (by decide) ?_
        have h5w : mu (awt (nI fr) kk 2 dd.1).1 ≤ mu ((sPN (wOf sl wv) t fr s0 h).1).1 := by have : s5 = awt (nI fr) kk 2 dd.1 := by { rw [hs5, pnR, if_neg c_4] }; rw [← this]; exact hm5
        have hma : mu dd.1.1 ≤ mu (awt (nI fr) kk 2 dd.1).1 := awt_mono _ _ _ _
        refine rw_vA (va_runV (As := [.int (nI fr), .int kk, .int 2]) (rest := []) ⟨hx, hb, hml, hown, ht⟩ (cT_await l g H.size ad q f dd.1 sl cnt (plHI dp h) st LW wv hz hsl (nI fr) kk 2) (cwV 3 ht (g_V q_315 q_317 q_1 q_35 q_318) rfl rfl rfl hd_T_await ⟨Nat.le_of_ble_eq_true rfl, Nat.le_of_ble_eq_true rfl⟩) (rw_V hK hP hD (va_recv hK.1 hP (ci := 4) (q0 := 0) rfl rfl)) rfl rfl hl.1 rfl (lv_room (Nat.le_of_ble_eq_true rfl)) dT_plantNext_220 ⟨by show mu dd.1.1 - mu s0.1 + (mu (awt (nI fr) kk 2 dd.1).1 - mu dd.1.1) ≤ (mu ((sPN (wOf sl wv) t fr s0 h).1).1 - mu s0.1); omega, by show mu dd.1.1 - mu s0.1 + (mu (awt (nI fr) kk 2 dd.1).1 - mu dd.1.1) ≤ (mu ((sPN (wOf sl wv) t fr s0 h).1).1 - mu s0.1); omega⟩) hD hS hA (fun u H locs hw hP hD hS => ?_)
        obtain ⟨q, f⟩ := u
        have hz : rowsT (awt (nI fr) kk 2 dd.1).1 f (awt (nI fr) kk 2 dd.1).2 := hw
        have hP : va_P g.1 vwCl (TW g ad q (awt (nI fr) kk 2 dd.1).1 f (awt (nI fr) kk 2 dd.1).2 sl cnt (plHI dp h) st LW wv) H := hP
        have hD : va_D A (TW g ad q (awt (nI fr) kk 2 dd.1).1 f (awt (nI fr) kk 2 dd.1).2 sl cnt (plHI dp h) st LW wv) := hD
        refine W.widen (k := mu (awt (nI fr) kk 2 dd.1).1 - mu s0.1) (n := mu (awt (nI fr) kk 2 dd.1).1 - mu s0.1) (by show mu dd.1.1 - mu s0.1 + (mu (awt (nI fr) kk 2 dd.1).1 - mu dd.1.1) ≤ _; omega) (by show mu dd.1.1 - mu s0.1 + (mu (awt (nI fr) kk 2 dd.1).1 - mu dd.1.1) ≤ _; omega) ?_
        have e5 : s5 = awt (nI fr) kk 2 dd.1 := by rw [hs5, pnR, if_neg c_4]
        rw [← e5] at hz hP hD
        refine W.widen (k := mu s5.1 - mu s0.1) (n := mu s5.1 - mu s0.1) (by rw [e5]; exact Nat.le_refl _) (by rw [e5]; exact Nat.le_refl _) ?_
        exact join223 q f _ _ ls trivial hz hP hD hS (lv_sub hl [0, 3, 7] rfl)
    refine lv_aload_n hx hb dT_plantNext_96 rfl (lv_at hl 4 rfl) ?_
    refine lv_iload_n hx hb dT_plantNext_97 rfl (lv_at hl 1 rfl) ?_
    refine ro_Vi (v := sT_hasNode s2.2 (wOf sl wv) pr) (As := [.int pr]) (rest := []) ⟨hx, hb, hml, hown, ht⟩ (cT_hasNode l g ad q s2.1 f s2.2 sl cnt h st LW wv hz hsl pr) (cwV 1 ht (g_V q_333 q_334 q_335 q_35 q_336) rfl rfl rfl hd_T_hasNode ⟨Nat.le_of_ble_eq_true rfl, Nat.le_of_ble_eq_true rfl⟩) hK (hP) (va_recv hK.1 hP (ci := 4) (q0 := 0) rfl rfl) rfl hl.1 rfl (Nat.le_of_ble_eq_true rfl) dT_plantNext_98 ⟨by show 0 ≤ (mu ((sPN (wOf sl wv) t fr s0 h).1).1 - mu s0.1); omega, by show 0 ≤ (mu ((sPN (wOf sl wv) t fr s0 h).1).1 - mu s0.1); omega⟩ ?_
    refine lv_if_eq (tgt := 117) hx hb dT_plantNext_101 (by decide) (fun c_5 => ?_) (fun c_5 => ?_)
    · skip
      refine lv_iconst (v := 0) hx hb dT_plantNext_117 (by decide) ?_
      exact join118 0 ls (by rw [pnDep, if_pos c_5]) (lv_sub hl [0, 1, 2, 3, 4] rfl)
    · skip
      refine lv_aload_n hx hb dT_plantNext_104 rfl (lv_at hl 4 rfl) ?_
      refine va_get (D := g.1) (ci := 4) (v := .ref (ad 10)) (C := "NodeMaker$Tree") (T := Fd_T) (N := 16) hx hb ht i_T hown hK.1 hP 0 rfl rfl 5 (by decide) (ht _ q_110) (fun _ h9 => h9) rfl dT_plantNext_105 ?_
      refine lv_iload_n hx hb dT_plantNext_108 rfl (lv_at hl 1 rfl) ?_
      have hPc := hP.sub (ws' := rowW g (ad 10) (q 4) (s2.1 4) (f 4) (s2.2 4).length) [14, 15] rfl
      refine ro_Vi (v := rAt (s2.2 4) pr) (As := [.int pr]) (rest := []) ⟨hx, hb, hml, hown, ht⟩ (cR_at l g (ad 10) (q 4) (s2.1 4) (f 4) (s2.2 4) (hz 4 (by decide)) pr) (cwV 1 ht (g_V q_325 q_326 q_327 q_37 q_328) rfl rfl rfl hd_R_at ⟨Nat.le_of_ble_eq_true rfl, Nat.le_of_ble_eq_true rfl⟩) hK (hPc) (va_recv hK.1 hPc (ci := 0) (q0 := 0) rfl rfl) rfl hl.1 rfl (Nat.le_of_ble_eq_true rfl) dT_plantNext_109 ⟨by show 0 ≤ (mu ((sPN (wOf sl wv) t fr s0 h).1).1 - mu s0.1); omega, by show 0 ≤ (mu ((sPN (wOf sl wv) t fr s0 h).1).1 - mu s0.1); omega⟩ ?_
      refine lv_iconst (v := 1) hx hb dT_plantNext_112 (by decide) ?_
      refine lv_iadd hx hb dT_plantNext_113 ?_
      refine lv_goto (tgt := 118) hx hb dT_plantNext_114 (by decide) ?_
      exact join118 ((rAt (s2.2 4) pr) + 1) ls (by rw [pnDep, if_neg c_5]) (lv_sub hl [0, 1, 2, 3, 4] rfl)
  refine lv_aload_n hx hb dT_plantNext_37 rfl (lv_at hl 4 rfl) ?_
  refine va_get (D := g.1) (ci := 4) (v := .ref (ad 24)) (C := "NodeMaker$Tree") (T := Fd_T) (N := 16) hx hb ht i_T hown hK.1 hP 0 rfl rfl 12 (by decide) (ht _ q_117) (fun _ h9 => h9) rfl dT_plantNext_38 ?_
  refine lv_iload_n hx hb dT_plantNext_41 rfl (lv_at hl 3 rfl) ?_
  have hPc := hP.sub (ws' := rowW g (ad 24) (q 18) (s0.1 18) (f 18) (s0.2 18).length) [42, 43] rfl
  refine ro_Vi (v := rAt (s0.2 18) (nI t)) (As := [.int (nI t)]) (rest := []) ⟨hx, hb, hml, hown, ht⟩ (cR_at l g (ad 24) (q 18) (s0.1 18) (f 18) (s0.2 18) (hz 18 (by decide)) (nI t)) (cwV 1 ht (g_V q_325 q_326 q_327 q_37 q_328) rfl rfl rfl hd_R_at ⟨Nat.le_of_ble_eq_true rfl, Nat.le_of_ble_eq_true rfl⟩) hK (hPc) (va_recv hK.1 hPc (ci := 0) (q0 := 0) rfl rfl) rfl hl.1 rfl (Nat.le_of_ble_eq_true rfl) dT_plantNext_42 ⟨by show 0 ≤ (mu ((sPN (wOf sl wv) t fr s0 h).1).1 - mu s0.1); omega, by show 0 ≤ (mu ((sPN (wOf sl wv) t fr s0 h).1).1 - mu s0.1); omega⟩ ?_
  refine lv_iconst (v := 1) hx hb dT_plantNext_45 (by decide) ?_
  refine lv_icmp_ne (tgt := 62) hx hb dT_plantNext_46 (by decide) (fun c_6 => ?_) (fun c_6 => ?_)
  · skip
    refine lv_aload_n hx hb dT_plantNext_62 rfl (lv_at hl 4 rfl) ?_
    refine va_get (D := g.1) (ci := 4) (v := .ref (ad 8)) (C := "NodeMaker$Tree") (T := Fd_T) (N := 16) hx hb ht i_T hown hK.1 hP 0 rfl rfl 3 (by decide) (ht _ q_108) (fun _ h9 => h9) rfl dT_plantNext_63 ?_
    refine lv_iload_n hx hb dT_plantNext_66 rfl (lv_at hl 1 rfl) ?_
    refine lv_iload hx hb dT_plantNext_67 (lv_at hl 0 rfl) ?_
    refine tr_set_2 ⟨hx, hb, hml, hown, ht⟩ q_329 ⟨Nat.le_of_ble_eq_true rfl, Nat.le_of_ble_eq_true rfl⟩ hK hz hP hD hS hA hl.1 (Nat.le_of_ble_eq_true rfl) dT_plantNext_69 ⟨by show 0 + 0 ≤ (mu ((sPN (wOf sl wv) t fr s0 h).1).1 - mu s0.1); omega, by show 0 + 0 ≤ (mu ((sPN (wOf sl wv) t fr s0 h).1).1 - mu s0.1); omega⟩ (fun q f H locs hz hP hD hS => ?_)
    have hz : rowsT (oSet 2 pr kk s0).1 f (oSet 2 pr kk s0).2 := hz
    have hP : va_P g.1 vwCl (TW g ad q (oSet 2 pr kk s0).1 f (oSet 2 pr kk s0).2 sl cnt h st LW wv) H := hP
    have hD : va_D A (TW g ad q (oSet 2 pr kk s0).1 f (oSet 2 pr kk s0).2 sl cnt h st LW wv) := hD
    exact join72 (oSet 2 pr kk s0) q f _ _ ls (by rw [pnSet, if_neg c_6, ← hpr, ← hkk]) hz hP hD hS (lv_sub hl [0, 1, 2, 3, 4] rfl)
  · skip
    refine lv_aload_n hx hb dT_plantNext_49 rfl (lv_at hl 4 rfl) ?_
    refine va_get (D := g.1) (ci := 4) (v := .ref (ad 7)) (C := "NodeMaker$Tree") (T := Fd_T) (N := 16) hx hb ht i_T hown hK.1 hP 0 rfl rfl 2 (by decide) (ht _ q_107) (fun _ h9 => h9) rfl dT_plantNext_50 ?_
    refine lv_iload_n hx hb dT_plantNext_53 rfl (lv_at hl 1 rfl) ?_
    refine lv_iload hx hb dT_plantNext_54 (lv_at hl 0 rfl) ?_
    refine tr_set_1 ⟨hx, hb, hml, hown, ht⟩ q_329 ⟨Nat.le_of_ble_eq_true rfl, Nat.le_of_ble_eq_true rfl⟩ hK hz hP hD hS hA hl.1 (Nat.le_of_ble_eq_true rfl) dT_plantNext_56 ⟨by show 0 + 0 ≤ (mu ((sPN (wOf sl wv) t fr s0 h).1).1 - mu s0.1); omega, by show 0 + 0 ≤ (mu ((sPN (wOf sl wv) t fr s0 h).1).1 - mu s0.1); omega⟩ (fun q f H locs hz hP hD hS => ?_)
    have hz : rowsT (oSet 1 pr kk s0).1 f (oSet 1 pr kk s0).2 := hz
    have hP : va_P g.1 vwCl (TW g ad q (oSet 1 pr kk s0).1 f (oSet 1 pr kk s0).2 sl cnt h st LW wv) H := hP
    have hD : va_D A (TW g ad q (oSet 1 pr kk s0).1 f (oSet 1 pr kk s0).2 sl cnt h st LW wv) := hD
    refine lv_goto (tgt := 72) hx hb dT_plantNext_59 (by decide) ?_
    exact join72 (oSet 1 pr kk s0) q f _ _ ls (by rw [pnSet, if_pos c_6, ← hpr, ← hkk]) hz hP hD hS (lv_sub hl [0, 1, 2, 3, 4] rfl)
