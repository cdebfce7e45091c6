def sT_fell (s : TSt) : TSt := oCut 18 0 (oCut 17 0 (oCut 16 0 (pCut 10 0 (oCut 9 0 (pCut 6 0 (oCut 5 0 (oCut 4 0 (oCut 3 0 (oCut 2 0 (oCut 1 0 (oCut 0 0 s)))))))))))
set_option maxHeartbeats 4000000 in
set_option maxRecDepth 100000 in
theorem cT_fell (l : Launch) (g : CX) (sz : Nat) (ad q : Nat → Nat) (f : Nat → Nat → Int32) (s0 : TSt) (sl : Nat → Option Nat) (cnt h st : Int32) (LW : List Nat) (wv : Nat → WV) (hz : rowsT s0.1 f s0.2) (hsl : slOK sl LW) : Met l yT_fell (wm yT_fell kT_fell 1 none) ({ frames := 2, cells := 0, slots := 0, locals := 42 }) (rw g [.ref (ad 0)] (TW g ad q s0.1 f s0.2 sl cnt h st LW wv) sz) (va_Qv (fun (u : (Nat → Nat) × (Nat → Nat → Int32)) => rowsT (sT_fell s0).1 u.2 (sT_fell s0).2) (rB g (va_A (TW g ad q s0.1 f s0.2 sl cnt h st LW wv) sz) (fun u => (TW g ad u.1 (sT_fell s0).1 u.2 (sT_fell s0).2 sl cnt 0 st LW wv))) (va_A (TW g ad q s0.1 f s0.2 sl cnt h st LW wv) sz)) 0 0 (va_A (TW g ad q s0.1 f s0.2 sl cnt h st LW wv) sz) := by
  refine Met.ofW (cc := kT_fell) (maxL := 1) (ret := none) (by decide) rfl ?_
  intro p e s m args below meth c s₁ B hml hv
  obtain ⟨rfl, hsz, hK, hP, hD0⟩ := hv
  have hx := B.exec
  have hb := B.bytes
  have hr := B.returns
  have ht : ∀ w ∈ wT, w.before _ s = true := fun w h => atoms_spec (ws := wm yT_fell kT_fell 1 none) B.pre w (List.mem_cons_of_mem _ h)
  have hown : s.vm.findClass "NodeMaker$Tree" = some m.cls := findClass_of_methodNamed B.named
  have hlocks := B.notSynchronized
  subst hsz
  have hD := hD0.self (sz := s.heap.size)
  generalize hAe : va_A (TW g ad q s0.1 f s0.2 sl cnt h st LW wv) s.heap.size = A at hD ⊢
  have hA : ∀ q : Nat, s.heap.size ≤ q → A q := fun q h => by rw [← hAe]; exact Or.inr h
  have hS : va_S A s.heap s.heap [] := va_S.rf
  have hl := lv_entry ([.ref (ad 0)]) (n := 1) (Nat.le_of_ble_eq_true rfl)
  rw [lg_entry_eq]
  generalize (lg_sl ([.ref (ad 0)]) ++ List.replicate (1 - (lg_sl ([.ref (ad 0)])).length) Slot.unset).toArray = ls at hl ⊢
  have hl : lv_has ls 1 [(0, .ref (ad 0))] := hl
  refine lv_aload_n hx hb dT_fell_0 rfl (lv_at hl 0 rfl) ?_
  refine va_get (D := g.1) (ci := 4) (v := .ref (ad 6)) (C := "NodeMaker$Tree") (T := Fd_T) (N := 16) hx hb ht i_T hown hK.1 hP 0 rfl rfl 1 (by decide) (ht _ q_106) (fun _ h9 => h9) rfl dT_fell_1 ?_
  refine lv_iconst (v := 0) hx hb dT_fell_4 (by decide) ?_
  refine tr_cut_0 ⟨hx, hb, hml, hown, ht⟩ q_275 ⟨Nat.le_of_ble_eq_true rfl, Nat.le_of_ble_eq_true rfl⟩ hK hz hP hD hS hA hl.1 (Nat.le_of_ble_eq_true rfl) dT_fell_5 ⟨by show 0 + 0 ≤ 0; omega, by show 0 + 0 ≤ 0; omega⟩ (fun q f H locs hz hP hD hS => ?_)
  have hz : rowsT (oCut 0 0 s0).1 f (oCut 0 0 s0).2 := hz
  have hP : va_P g.1 vwCl (TW g ad q (oCut 0 0 s0).1 f (oCut 0 0 s0).2 sl cnt h st LW wv) H := hP
  have hD : va_D A (TW g ad q (oCut 0 0 s0).1 f (oCut 0 0 s0).2 sl cnt h st LW wv) := hD
  refine lv_aload_n hx hb dT_fell_8 rfl (lv_at hl 0 rfl) ?_
  refine va_get (D := g.1) (ci := 4) (v := .ref (ad 7)) (C := "NodeMaker$Tree") (T := Fd_T) (N := 16) hx hb ht i_T hown hK.1 hP 0 rfl rfl 2 (by decide) (ht _ q_107) (fun _ h9 => h9) rfl dT_fell_9 ?_
  refine lv_iconst (v := 0) hx hb dT_fell_12 (by decide) ?_
  refine tr_cut_1 ⟨hx, hb, hml, hown, ht⟩ q_275 ⟨Nat.le_of_ble_eq_true rfl, Nat.le_of_ble_eq_true rfl⟩ hK hz hP hD hS hA hl.1 (Nat.le_of_ble_eq_true rfl) dT_fell_13 ⟨by show 0 + 0 ≤ 0; omega, by show 0 + 0 ≤ 0; omega⟩ (fun q f H locs hz hP hD hS => ?_)
  have hz : rowsT (oCut 1 0 (oCut 0 0 s0)).1 f (oCut 1 0 (oCut 0 0 s0)).2 := hz
  have hP : va_P g.1 vwCl (TW g ad q (oCut 1 0 (oCut 0 0 s0)).1 f (oCut 1 0 (oCut 0 0 s0)).2 sl cnt h st LW wv) H := hP
  have hD : va_D A (TW g ad q (oCut 1 0 (oCut 0 0 s0)).1 f (oCut 1 0 (oCut 0 0 s0)).2 sl cnt h st LW wv) := hD
  refine lv_aload_n hx hb dT_fell_16 rfl (lv_at hl 0 rfl) ?_
  refine va_get (D := g.1) (ci := 4) (v := .ref (ad 8)) (C := "NodeMaker$Tree") (T := Fd_T) (N := 16) hx hb ht i_T hown hK.1 hP 0 rfl rfl 3 (by decide) (ht _ q_108) (fun _ h9 => h9) rfl dT_fell_17 ?_
  refine lv_iconst (v := 0) hx hb dT_fell_20 (by decide) ?_
  refine tr_cut_2 ⟨hx, hb, hml, hown, ht⟩ q_275 ⟨Nat.le_of_ble_eq_true rfl, Nat.le_of_ble_eq_true rfl⟩ hK hz hP hD hS hA hl.1 (Nat.le_of_ble_eq_true rfl) dT_fell_21 ⟨by show 0 + 0 ≤ 0; omega, by show 0 + 0 ≤ 0; omega⟩ (fun q f H locs hz hP hD hS => ?_)
  have hz : rowsT (oCut 2 0 (oCut 1 0 (oCut 0 0 s0))).1 f (oCut 2 0 (oCut 1 0 (oCut 0 0 s0))).2 := hz
  have hP : va_P g.1 vwCl (TW g ad q (oCut 2 0 (oCut 1 0 (oCut 0 0 s0))).1 f (oCut 2 0 (oCut 1 0 (oCut 0 0 s0))).2 sl cnt h st LW wv) H := hP
  have hD : va_D A (TW g ad q (oCut 2 0 (oCut 1 0 (oCut 0 0 s0))).1 f (oCut 2 0 (oCut 1 0 (oCut 0 0 s0))).2 sl cnt h st LW wv) := hD
  refine lv_aload_n hx hb dT_fell_24 rfl (lv_at hl 0 rfl) ?_
  refine va_get (D := g.1) (ci := 4) (v := .ref (ad 9)) (C := "NodeMaker$Tree") (T := Fd_T) (N := 16) hx hb ht i_T hown hK.1 hP 0 rfl rfl 4 (by decide) (ht _ q_109) (fun _ h9 => h9) rfl dT_fell_25 ?_
  refine lv_iconst (v := 0) hx hb dT_fell_28 (by decide) ?_
  refine tr_cut_3 ⟨hx, hb, hml, hown, ht⟩ q_275 ⟨Nat.le_of_ble_eq_true rfl, Nat.le_of_ble_eq_true rfl⟩ hK hz hP hD hS hA hl.1 (Nat.le_of_ble_eq_true rfl) dT_fell_29 ⟨by show 0 + 0 ≤ 0; omega, by show 0 + 0 ≤ 0; omega⟩ (fun q f H locs hz hP hD hS => ?_)
  have hz : rowsT (oCut 3 0 (oCut 2 0 (oCut 1 0 (oCut 0 0 s0)))).1 f (oCut 3 0 (oCut 2 0 (oCut 1 0 (oCut 0 0 s0)))).2 := hz
  have hP : va_P g.1 vwCl (TW g ad q (oCut 3 0 (oCut 2 0 (oCut 1 0 (oCut 0 0 s0)))).1 f (oCut 3 0 (oCut 2 0 (oCut 1 0 (oCut 0 0 s0)))).2 sl cnt h st LW wv) H := hP
  have hD : va_D A (TW g ad q (oCut 3 0 (oCut 2 0 (oCut 1 0 (oCut 0 0 s0)))).1 f (oCut 3 0 (oCut 2 0 (oCut 1 0 (oCut 0 0 s0)))).2 sl cnt h st LW wv) := hD
  refine lv_aload_n hx hb dT_fell_32 rfl (lv_at hl 0 rfl) ?_
  refine va_get (D := g.1) (ci := 4) (v := .ref (ad 10)) (C := "NodeMaker$Tree") (T := Fd_T) (N := 16) hx hb ht i_T hown hK.1 hP 0 rfl rfl 5 (by decide) (ht _ q_110) (fun _ h9 => h9) rfl dT_fell_33 ?_
  refine lv_iconst (v := 0) hx hb dT_fell_36 (by decide) ?_
  refine tr_cut_4 ⟨hx, hb, hml, hown, ht⟩ q_275 ⟨Nat.le_of_ble_eq_true rfl, Nat.le_of_ble_eq_true rfl⟩ hK hz hP hD hS hA hl.1 (Nat.le_of_ble_eq_true rfl) dT_fell_37 ⟨by show 0 + 0 ≤ 0; omega, by show 0 + 0 ≤ 0; omega⟩ (fun q f H locs hz hP hD hS => ?_)
  have hz : rowsT (oCut 4 0 (oCut 3 0 (oCut 2 0 (oCut 1 0 (oCut 0 0 s0))))).1 f (oCut 4 0 (oCut 3 0 (oCut 2 0 (oCut 1 0 (oCut 0 0 s0))))).2 := hz
  have hP : va_P g.1 vwCl (TW g ad q (oCut 4 0 (oCut 3 0 (oCut 2 0 (oCut 1 0 (oCut 0 0 s0))))).1 f (oCut 4 0 (oCut 3 0 (oCut 2 0 (oCut 1 0 (oCut 0 0 s0))))).2 sl cnt h st LW wv) H := hP
  have hD : va_D A (TW g ad q (oCut 4 0 (oCut 3 0 (oCut 2 0 (oCut 1 0 (oCut 0 0 s0))))).1 f (oCut 4 0 (oCut 3 0 (oCut 2 0 (oCut 1 0 (oCut 0 0 s0))))).2 sl cnt h st LW wv) := hD
  refine lv_aload_n hx hb dT_fell_40 rfl (lv_at hl 0 rfl) ?_
  refine va_get (D := g.1) (ci := 4) (v := .ref (ad 11)) (C := "NodeMaker$Tree") (T := Fd_T) (N := 16) hx hb ht i_T hown hK.1 hP 0 rfl rfl 6 (by decide) (ht _ q_111) (fun _ h9 => h9) rfl dT_fell_41 ?_
  refine lv_iconst (v := 0) hx hb dT_fell_44 (by decide) ?_
  refine tr_cut_5 ⟨hx, hb, hml, hown, ht⟩ q_275 ⟨Nat.le_of_ble_eq_true rfl, Nat.le_of_ble_eq_true rfl⟩ hK hz hP hD hS hA hl.1 (Nat.le_of_ble_eq_true rfl) dT_fell_45 ⟨by show 0 + 0 ≤ 0; omega, by show 0 + 0 ≤ 0; omega⟩ (fun q f H locs hz hP hD hS => ?_)
  have hz : rowsT (oCut 5 0 (oCut 4 0 (oCut 3 0 (oCut 2 0 (oCut 1 0 (oCut 0 0 s0)))))).1 f (oCut 5 0 (oCut 4 0 (oCut 3 0 (oCut 2 0 (oCut 1 0 (oCut 0 0 s0)))))).2 := hz
  have hP : va_P g.1 vwCl (TW g ad q (oCut 5 0 (oCut 4 0 (oCut 3 0 (oCut 2 0 (oCut 1 0 (oCut 0 0 s0)))))).1 f (oCut 5 0 (oCut 4 0 (oCut 3 0 (oCut 2 0 (oCut 1 0 (oCut 0 0 s0)))))).2 sl cnt h st LW wv) H := hP
  have hD : va_D A (TW g ad q (oCut 5 0 (oCut 4 0 (oCut 3 0 (oCut 2 0 (oCut 1 0 (oCut 0 0 s0)))))).1 f (oCut 5 0 (oCut 4 0 (oCut 3 0 (oCut 2 0 (oCut 1 0 (oCut 0 0 s0)))))).2 sl cnt h st LW wv) := hD
  refine lv_aload_n hx hb dT_fell_48 rfl (lv_at hl 0 rfl) ?_
  refine va_get (D := g.1) (ci := 4) (v := .ref (ad 3)) (C := "NodeMaker$Tree") (T := Fd_T) (N := 16) hx hb ht i_T hown hK.1 hP 0 rfl rfl 7 (by decide) (ht _ q_112) (fun _ h9 => h9) rfl dT_fell_49 ?_
  refine lv_iconst (v := 0) hx hb dT_fell_52 (by decide) ?_
  refine tp_cut_6 ⟨hx, hb, hml, hown, ht⟩ q_279 ⟨Nat.le_of_ble_eq_true rfl, Nat.le_of_ble_eq_true rfl⟩ hK hz hP hD hS hA hl.1 (Nat.le_of_ble_eq_true rfl) dT_fell_53 ⟨by show 0 + 0 ≤ 0; omega, by show 0 + 0 ≤ 0; omega⟩ (fun q f H locs hz hP hD hS => ?_)
  have hz : rowsT (pCut 6 0 (oCut 5 0 (oCut 4 0 (oCut 3 0 (oCut 2 0 (oCut 1 0 (oCut 0 0 s0))))))).1 f (pCut 6 0 (oCut 5 0 (oCut 4 0 (oCut 3 0 (oCut 2 0 (oCut 1 0 (oCut 0 0 s0))))))).2 := hz
  have hP : va_P g.1 vwCl (TW g ad q (pCut 6 0 (oCut 5 0 (oCut 4 0 (oCut 3 0 (oCut 2 0 (oCut 1 0 (oCut 0 0 s0))))))).1 f (pCut 6 0 (oCut 5 0 (oCut 4 0 (oCut 3 0 (oCut 2 0 (oCut 1 0 (oCut 0 0 s0))))))).2 sl cnt h st LW wv) H := hP
  have hD : va_D A (TW g ad q (pCut 6 0 (oCut 5 0 (oCut 4 0 (oCut 3 0 (oCut 2 0 (oCut 1 0 (oCut 0 0 s0))))))).1 f (pCut 6 0 (oCut 5 0 (oCut 4 0 (oCut 3 0 (oCut 2 0 (oCut 1 0 (oCut 0 0 s0))))))).2 sl cnt h st LW wv) := hD
  refine lv_aload_n hx hb dT_fell_56 rfl (lv_at hl 0 rfl) ?_
  refine va_get (D := g.1) (ci := 4) (v := .ref (ad 15)) (C := "NodeMaker$Tree") (T := Fd_T) (N := 16) hx hb ht i_T hown hK.1 hP 0 rfl rfl 8 (by decide) (ht _ q_113) (fun _ h9 => h9) rfl dT_fell_57 ?_
  refine lv_iconst (v := 0) hx hb dT_fell_60 (by decide) ?_
  refine tr_cut_9 ⟨hx, hb, hml, hown, ht⟩ q_275 ⟨Nat.le_of_ble_eq_true rfl, Nat.le_of_ble_eq_true rfl⟩ hK hz hP hD hS hA hl.1 (Nat.le_of_ble_eq_true rfl) dT_fell_61 ⟨by show 0 + 0 ≤ 0; omega, by show 0 + 0 ≤ 0; omega⟩ (fun q f H locs hz hP hD hS => ?_)
  have hz : rowsT (oCut 9 0 (pCut 6 0 (oCut 5 0 (oCut 4 0 (oCut 3 0 (oCut 2 0 (oCut 1 0 (oCut 0 0 s0)))))))).1 f (oCut 9 0 (pCut 6 0 (oCut 5 0 (oCut 4 0 (oCut 3 0 (oCut 2 0 (oCut 1 0 (oCut 0 0 s0)))))))).2 := hz
  have hP : va_P g.1 vwCl (TW g ad q (oCut 9 0 (pCut 6 0 (oCut 5 0 (oCut 4 0 (oCut 3 0 (oCut 2 0 (oCut 1 0 (oCut 0 0 s0)))))))).1 f (oCut 9 0 (pCut 6 0 (oCut 5 0 (oCut 4 0 (oCut 3 0 (oCut 2 0 (oCut 1 0 (oCut 0 0 s0)))))))).2 sl cnt h st LW wv) H := hP
  have hD : va_D A (TW g ad q (oCut 9 0 (pCut 6 0 (oCut 5 0 (oCut 4 0 (oCut 3 0 (oCut 2 0 (oCut 1 0 (oCut 0 0 s0)))))))).1 f (oCut 9 0 (pCut 6 0 (oCut 5 0 (oCut 4 0 (oCut 3 0 (oCut 2 0 (oCut 1 0 (oCut 0 0 s0)))))))).2 sl cnt h st LW wv) := hD
  refine lv_aload_n hx hb dT_fell_64 rfl (lv_at hl 0 rfl) ?_
  refine va_get (D := g.1) (ci := 4) (v := .ref (ad 4)) (C := "NodeMaker$Tree") (T := Fd_T) (N := 16) hx hb ht i_T hown hK.1 hP 0 rfl rfl 9 (by decide) (ht _ q_114) (fun _ h9 => h9) rfl dT_fell_65 ?_
  refine lv_iconst (v := 0) hx hb dT_fell_68 (by decide) ?_
  refine tp_cut_10 ⟨hx, hb, hml, hown, ht⟩ q_279 ⟨Nat.le_of_ble_eq_true rfl, Nat.le_of_ble_eq_true rfl⟩ hK hz hP hD hS hA hl.1 (Nat.le_of_ble_eq_true rfl) dT_fell_69 ⟨by show 0 + 0 ≤ 0; omega, by show 0 + 0 ≤ 0; omega⟩ (fun q f H locs hz hP hD hS => ?_)
  have hz : rowsT (pCut 10 0 (oCut 9 0 (pCut 6 0 (oCut 5 0 (oCut 4 0 (oCut 3 0 (oCut 2 0 (oCut 1 0 (oCut 0 0 s0))))))))).1 f (pCut 10 0 (oCut 9 0 (pCut 6 0 (oCut 5 0 (oCut 4 0 (oCut 3 0 (oCut 2 0 (oCut 1 0 (oCut 0 0 s0))))))))).2 := hz
  have hP : va_P g.1 vwCl (TW g ad q (pCut 10 0 (oCut 9 0 (pCut 6 0 (oCut 5 0 (oCut 4 0 (oCut 3 0 (oCut 2 0 (oCut 1 0 (oCut 0 0 s0))))))))).1 f (pCut 10 0 (oCut 9 0 (pCut 6 0 (oCut 5 0 (oCut 4 0 (oCut 3 0 (oCut 2 0 (oCut 1 0 (oCut 0 0 s0))))))))).2 sl cnt h st LW wv) H := hP
  have hD : va_D A (TW g ad q (pCut 10 0 (oCut 9 0 (pCut 6 0 (oCut 5 0 (oCut 4 0 (oCut 3 0 (oCut 2 0 (oCut 1 0 (oCut 0 0 s0))))))))).1 f (pCut 10 0 (oCut 9 0 (pCut 6 0 (oCut 5 0 (oCut 4 0 (oCut 3 0 (oCut 2 0 (oCut 1 0 (oCut 0 0 s0))))))))).2 sl cnt h st LW wv) := hD
  refine lv_aload_n hx hb dT_fell_72 rfl (lv_at hl 0 rfl) ?_
  refine va_get (D := g.1) (ci := 4) (v := .ref (ad 22)) (C := "NodeMaker$Tree") (T := Fd_T) (N := 16) hx hb ht i_T hown hK.1 hP 0 rfl rfl 10 (by decide) (ht _ q_115) (fun _ h9 => h9) rfl dT_fell_73 ?_
  refine lv_iconst (v := 0) hx hb dT_fell_76 (by decide) ?_
  refine tr_cut_16 ⟨hx, hb, hml, hown, ht⟩ q_275 ⟨Nat.le_of_ble_eq_true rfl, Nat.le_of_ble_eq_true rfl⟩ hK hz hP hD hS hA hl.1 (Nat.le_of_ble_eq_true rfl) dT_fell_77 ⟨by show 0 + 0 ≤ 0; omega, by show 0 + 0 ≤ 0; omega⟩ (fun q f H locs hz hP hD hS => ?_)
  have hz : rowsT (oCut 16 0 (pCut 10 0 (oCut 9 0 (pCut 6 0 (oCut 5 0 (oCut 4 0 (oCut 3 0 (oCut 2 0 (oCut 1 0 (oCut 0 0 s0)))))))))).1 f (oCut 16 0 (pCut 10 0 (oCut 9 0 (pCut 6 0 (oCut 5 0 (oCut 4 0 (oCut 3 0 (oCut 2 0 (oCut 1 0 (oCut 0 0 s0)))))))))).2 := hz
  have hP : va_P g.1 vwCl (TW g ad q (oCut 16 0 (pCut 10 0 (oCut 9 0 (pCut 6 0 (oCut 5 0 (oCut 4 0 (oCut 3 0 (oCut 2 0 (oCut 1 0 (oCut 0 0 s0)))))))))).1 f (oCut 16 0 (pCut 10 0 (oCut 9 0 (pCut 6 0 (oCut 5 0 (oCut 4 0 (oCut 3 0 (oCut 2 0 (oCut 1 0 (oCut 0 0 s0)))))))))).2 sl cnt h st LW wv) H := hP
  have hD : va_D A (TW g ad q (oCut 16 0 (pCut 10 0 (oCut 9 0 (pCut 6 0 (oCut 5 0 (oCut 4 0 (oCut 3 0 (oCut 2 0 (oCut 1 0 (oCut 0 0 s0)))))))))).1 f (oCut 16 0 (pCut 10 0 (oCut 9 0 (pCut 6 0 (oCut 5 0 (oCut 4 0 (oCut 3 0 (oCut 2 0 (oCut 1 0 (oCut 0 0 s0)))))))))).2 sl cnt h st LW wv) := hD
  refine lv_aload_n hx hb dT_fell_80 rfl (lv_at hl 0 rfl) ?_
  refine va_get (D := g.1) (ci := 4) (v := .ref (ad 23)) (C := "NodeMaker$Tree") (T := Fd_T) (N := 16) hx hb ht i_T hown hK.1 hP 0 rfl rfl 11 (by decide) (ht _ q_116) (fun _ h9 => h9) rfl dT_fell_81 ?_
  refine lv_iconst (v := 0) hx hb dT_fell_84 (by decide) ?_
  refine tr_cut_17 ⟨hx, hb, hml, hown, ht⟩ q_275 ⟨Nat.le_of_ble_eq_true rfl, Nat.le_of_ble_eq_true rfl⟩ hK hz hP hD hS hA hl.1 (Nat.le_of_ble_eq_true rfl) dT_fell_85 ⟨by show 0 + 0 ≤ 0; omega, by show 0 + 0 ≤ 0; omega⟩ (fun q f H locs hz hP hD hS => ?_)
  have hz : rowsT (oCut 17 0 (oCut 16 0 (pCut 10 0 (oCut 9 0 (pCut 6 0 (oCut 5 0 (oCut 4 0 (oCut 3 0 (oCut 2 0 (oCut 1 0 (oCut 0 0 s0))))))))))).1 f (oCut 17 0 (oCut 16 0 (pCut 10 0 (oCut 9 0 (pCut 6 0 (oCut 5 0 (oCut 4 0 (oCut 3 0 (oCut 2 0 (oCut 1 0 (oCut 0 0 s0))))))))))).2 := hz
  have hP : va_P g.1 vwCl (TW g ad q (oCut 17 0 (oCut 16 0 (pCut 10 0 (oCut 9 0 (pCut 6 0 (oCut 5 0 (oCut 4 0 (oCut 3 0 (oCut 2 0 (oCut 1 0 (oCut 0 0 s0))))))))))).1 f (oCut 17 0 (oCut 16 0 (pCut 10 0 (oCut 9 0 (pCut 6 0 (oCut 5 0 (oCut 4 0 (oCut 3 0 (oCut 2 0 (oCut 1 0 (oCut 0 0 s0))))))))))).2 sl cnt h st LW wv) H := hP
  have hD : va_D A (TW g ad q (oCut 17 0 (oCut 16 0 (pCut 10 0 (oCut 9 0 (pCut 6 0 (oCut 5 0 (oCut 4 0 (oCut 3 0 (oCut 2 0 (oCut 1 0 (oCut 0 0 s0))))))))))).1 f (oCut 17 0 (oCut 16 0 (pCut 10 0 (oCut 9 0 (pCut 6 0 (oCut 5 0 (oCut 4 0 (oCut 3 0 (oCut 2 0 (oCut 1 0 (oCut 0 0 s0))))))))))).2 sl cnt h st LW wv) := hD
  refine lv_aload_n hx hb dT_fell_88 rfl (lv_at hl 0 rfl) ?_
  refine va_get (D := g.1) (ci := 4) (v := .ref (ad 24)) (C := "NodeMaker$Tree") (T := Fd_T) (N := 16) hx hb ht i_T hown hK.1 hP 0 rfl rfl 12 (by decide) (ht _ q_117) (fun _ h9 => h9) rfl dT_fell_89 ?_
  refine lv_iconst (v := 0) hx hb dT_fell_92 (by decide) ?_
  refine tr_cut_18 ⟨hx, hb, hml, hown, ht⟩ q_275 ⟨Nat.le_of_ble_eq_true rfl, Nat.le_of_ble_eq_true rfl⟩ hK hz hP hD hS hA hl.1 (Nat.le_of_ble_eq_true rfl) dT_fell_93 ⟨by show 0 + 0 ≤ 0; omega, by show 0 + 0 ≤ 0; omega⟩ (fun q f H locs hz hP hD hS => ?_)
  have hz : rowsT (oCut 18 0 (oCut 17 0 (oCut 16 0 (pCut 10 0 (oCut 9 0 (pCut 6 0 (oCut 5 0 (oCut 4 0 (oCut 3 0 (oCut 2 0 (oCut 1 0 (oCut 0 0 s0)))))))))))).1 f (oCut 18 0 (oCut 17 0 (oCut 16 0 (pCut 10 0 (oCut 9 0 (pCut 6 0 (oCut 5 0 (oCut 4 0 (oCut 3 0 (oCut 2 0 (oCut 1 0 (oCut 0 0 s0)))))))))))).2 := hz
  have hP : va_P g.1 vwCl (TW g ad q (oCut 18 0 (oCut 17 0 (oCut 16 0 (pCut 10 0 (oCut 9 0 (pCut 6 0 (oCut 5 0 (oCut 4 0 (oCut 3 0 (oCut 2 0 (oCut 1 0 (oCut 0 0 s0)))))))))))).1 f (oCut 18 0 (oCut 17 0 (oCut 16 0 (pCut 10 0 (oCut 9 0 (pCut 6 0 (oCut 5 0 (oCut 4 0 (oCut 3 0 (oCut 2 0 (oCut 1 0 (oCut 0 0 s0)))))))))))).2 sl cnt h st LW wv) H := hP
  have hD : va_D A (TW g ad q (oCut 18 0 (oCut 17 0 (oCut 16 0 (pCut 10 0 (oCut 9 0 (pCut 6 0 (oCut 5 0 (oCut 4 0 (oCut 3 0 (oCut 2 0 (oCut 1 0 (oCut 0 0 s0)))))))))))).1 f (oCut 18 0 (oCut 17 0 (oCut 16 0 (pCut 10 0 (oCut 9 0 (pCut 6 0 (oCut 5 0 (oCut 4 0 (oCut 3 0 (oCut 2 0 (oCut 1 0 (oCut 0 0 s0)))))))))))).2 sl cnt h st LW wv) := hD
  refine lv_aload_n hx hb dT_fell_96 rfl (lv_at hl 0 rfl) ?_
  refine lv_iconst (v := 0) hx hb dT_fell_97 (by decide) ?_
  refine va_put (D := g.1) (ci := 4) (v := .int 0) (ty := .int) (C := "NodeMaker$Tree") (T := Fd_T) (N := 16) hx hb ht i_T ty_T ty_T_ok nm_T hown hK.1 hP hD hS 0 rfl rfl 14 (by decide) (ht _ q_119) (fun _ h9 => h9) rfl (by decide +kernel) rfl rfl (Nat.le_of_ble_eq_true rfl) dT_fell_98 (fun H locs hP hD hS => ?_)
  have hP : va_P g.1 vwCl (TW g ad q (oCut 18 0 (oCut 17 0 (oCut 16 0 (pCut 10 0 (oCut 9 0 (pCut 6 0 (oCut 5 0 (oCut 4 0 (oCut 3 0 (oCut 2 0 (oCut 1 0 (oCut 0 0 s0)))))))))))).1 f (oCut 18 0 (oCut 17 0 (oCut 16 0 (pCut 10 0 (oCut 9 0 (pCut 6 0 (oCut 5 0 (oCut 4 0 (oCut 3 0 (oCut 2 0 (oCut 1 0 (oCut 0 0 s0)))))))))))).2 sl cnt 0 st LW wv) H := hP
  have hD : va_D A (TW g ad q (oCut 18 0 (oCut 17 0 (oCut 16 0 (pCut 10 0 (oCut 9 0 (pCut 6 0 (oCut 5 0 (oCut 4 0 (oCut 3 0 (oCut 2 0 (oCut 1 0 (oCut 0 0 s0)))))))))))).1 f (oCut 18 0 (oCut 17 0 (oCut 16 0 (pCut 10 0 (oCut 9 0 (pCut 6 0 (oCut 5 0 (oCut 4 0 (oCut 3 0 (oCut 2 0 (oCut 1 0 (oCut 0 0 s0)))))))))))).2 sl cnt 0 st LW wv) := hD
  have hEF : oCut 18 0 (oCut 17 0 (oCut 16 0 (pCut 10 0 (oCut 9 0 (pCut 6 0 (oCut 5 0 (oCut 4 0 (oCut 3 0 (oCut 2 0 (oCut 1 0 (oCut 0 0 s0))))))))))) = sT_fell s0 := rfl
  rw [hEF] at hz hP hD
  exact W.vret hx hb hr (fun t ht9 hW => ⟨⟨(q, f), rfl, hz, by rw [ht9]; exact hP, hD⟩, hS.F ht9⟩) hS.2.2 dT_fell_101
