/-- what is done with the piece that waits at i: the new state, where the RIGHT list ends -/
def dvStep (Wl : Nat → Option WV) (ln k : Int32) (s9 : TSt) (i re : Int32) : TSt × Int32 :=
  if (sT_whereLies s9.2 Wl ln i) = 0 then
    (oAdd 9 k (pAdd 6 (rAt (s9.2 10) i) (rAt (s9.2 11) i) (rAt (s9.2 12) i) s9), re)
  else
    if (sT_whereLies s9.2 Wl ln i) = 3 then
      if (sT_sideOfEnd s9.2 Wl ln (rAt (s9.2 10) i) (rAt (s9.2 11) i) 0) = 1 then
        if ((sT_whereLies s9.2 Wl ln i) &&& 1) = 0 then
          if ((sT_whereLies s9.2 Wl ln i) &&& 2) = 0 then
            (s9, re)
          else
            (pSet 10 re (rAt (s9.2 10) i) ln (rAt (s9.2 12) i) s9, (re + 1))
        else
          if ((sT_whereLies s9.2 Wl ln i) &&& 2) = 0 then
            (pAdd 13 (rAt (s9.2 10) i) (rAt (s9.2 11) i) ln s9, re)
          else
            (pSet 10 re (rAt (s9.2 10) i) ln (rAt (s9.2 12) i) (pAdd 13 (rAt (s9.2 10) i) (rAt (s9.2 11) i) ln s9), (re + 1))
      else
        if ((sT_whereLies s9.2 Wl ln i) &&& 1) = 0 then
          if ((sT_whereLies s9.2 Wl ln i) &&& 2) = 0 then
            (s9, re)
          else
            (pSet 10 re (rAt (s9.2 10) i) (rAt (s9.2 11) i) ln s9, (re + 1))
        else
          if ((sT_whereLies s9.2 Wl ln i) &&& 2) = 0 then
            (pAdd 13 (rAt (s9.2 10) i) ln (rAt (s9.2 12) i) s9, re)
          else
            (pSet 10 re (rAt (s9.2 10) i) (rAt (s9.2 11) i) ln (pAdd 13 (rAt (s9.2 10) i) ln (rAt (s9.2 12) i) s9), (re + 1))
    else
      if ((sT_whereLies s9.2 Wl ln i) &&& 1) = 0 then
        if ((sT_whereLies s9.2 Wl ln i) &&& 2) = 0 then
          (s9, re)
        else
          (pSet 10 re (rAt (s9.2 10) i) (rAt (s9.2 11) i) (rAt (s9.2 12) i) s9, (re + 1))
      else
        if ((sT_whereLies s9.2 Wl ln i) &&& 2) = 0 then
          (pAdd 13 (rAt (s9.2 10) i) (rAt (s9.2 11) i) (rAt (s9.2 12) i) s9, re)
        else
          (pSet 10 re (rAt (s9.2 10) i) (rAt (s9.2 11) i) (rAt (s9.2 12) i) (pAdd 13 (rAt (s9.2 10) i) (rAt (s9.2 11) i) (rAt (s9.2 12) i) s9), (re + 1))
def dvL (Wl : Nat → Option WV) (ln k : Int32) : Nat → TSt → Int32 → Int32 → TSt × Int32
  | 0, s, _, re => (s, re)
  | n + 1, s, i, re => dvL Wl ln k n (dvStep Wl ln k s i re).1 (i + 1) (dvStep Wl ln k s i re).2
/-- the LEFT list upon the RIGHT one -/
def dvM : Nat → TSt → Int32 → TSt
  | 0, s, _ => s
  | n + 1, s, i => dvM n (pAdd 10 (rAt (s.2 13) i) (rAt (s.2 14) i) (rAt (s.2 15) i) s) (i + 1)
def sT_divide (Wl : Nat → Option WV) (fr : Nat) (ln k : Int32) (s : TSt) : TSt × Int32 :=
  (dvM ((dvL Wl ln k ((s.2 10).length - fr) (pCut 13 0 s) (nI fr) (nI fr)).1.2 13).length (pCut 10 (dvL Wl ln k ((s.2 10).length - fr) (pCut 13 0 s) (nI fr) (nI fr)).2 (dvL Wl ln k ((s.2 10).length - fr) (pCut 13 0 s) (nI fr) (nI fr)).1) 0, (dvL Wl ln k ((s.2 10).length - fr) (pCut 13 0 s) (nI fr) (nI fr)).2)
theorem mu_oAdd_le {K : Nat} {v : Int32} {s : TSt} (hK : K < 19) : mu s.1 ≤ mu (oAdd K v s).1 := by rw [mu_oAdd hK]; exact Nat.le_add_right _ _
theorem mu_pAdd_le {K : Nat} {v0 v1 v2 : Int32} {s : TSt} (hK : K + 2 < 19) : mu s.1 ≤ mu (pAdd K v0 v1 v2 s).1 := by rw [mu_pAdd hK]; exact Nat.le_add_right _ _
theorem mu_pSet {K : Nat} {i v0 v1 v2 : Int32} {s : TSt} : mu (pSet K i v0 v1 v2 s).1 = mu s.1 := rfl
theorem dvStep_mono (Wl : Nat → Option WV) (ln k : Int32) (s : TSt) (i re : Int32) : mu s.1 ≤ mu (dvStep Wl ln k s i re).1.1 := by
  unfold dvStep
  repeat' split
  all_goals (try simp only [mu_pSet])
  all_goals with_reducible first | exact Nat.le_refl _ | exact mu_pAdd_le (by decide) | exact Nat.le_trans (mu_pAdd_le (by decide)) (mu_oAdd_le (by decide))
theorem dvL_mono {Wl : Nat → Option WV} {ln k : Int32} (n : Nat) : ∀ (s : TSt) (i re : Int32), mu s.1 ≤ mu (dvL Wl ln k n s i re).1.1 := by
  induction n with
  | zero => intro s i re; exact Nat.le_refl _
  | succ n ih => intro s i re; exact Nat.le_trans (dvStep_mono Wl ln k s i re) (ih _ _ _)
theorem dvM_mono (n : Nat) : ∀ (s : TSt) (i : Int32), mu s.1 ≤ mu (dvM n s i).1 := by
  induction n with
  | zero => intro s i; exact Nat.le_refl _
  | succ n ih => intro s i; exact Nat.le_trans (mu_pAdd_le (by decide)) (ih _ _)
set_option maxHeartbeats 4000000 in
set_option maxRecDepth 100000 in
theorem cT_divide (l : Launch) (g : CX) (sz : Nat) (ad q : Nat → Nat) (f : Nat → Nat → Int32) (s0 : TSt) (sl : Nat → Option Nat) (cnt h st : Int32) (LW : List Nat) (wv : Nat → WV) (hz : rowsT s0.1 f s0.2) (hsl : slOK sl LW) (fr : Nat) (hfr : fr ≤ (s0.2 10).length) (ln k : Int32) : Met l yT_divide (wm yT_divide kT_divide 13 (some .int)) ({ frames := 4, cells := (mu ((sT_divide (wOf sl wv) fr ln k s0).1).1 - mu s0.1), slots := (mu ((sT_divide (wOf sl wv) fr ln k s0).1).1 - mu s0.1), locals := 126 }) (rw g [.ref (ad 0), .int (nI fr), .int ln, .int k] (TW g ad q s0.1 f s0.2 sl cnt h st LW wv) sz) (va_Qi (fun (r : Int32) (u : (Nat → Nat) × (Nat → Nat → Int32)) => r = (sT_divide (wOf sl wv) fr ln k s0).2 ∧ rowsT ((sT_divide (wOf sl wv) fr ln k s0).1).1 u.2 ((sT_divide (wOf sl wv) fr ln k s0).1).2) (rB g (va_A (TW g ad q s0.1 f s0.2 sl cnt h st LW wv) sz) (fun u => (TW g ad u.1 ((sT_divide (wOf sl wv) fr ln k s0).1).1 u.2 ((sT_divide (wOf sl wv) fr ln k s0).1).2 sl cnt h st LW wv))) (va_A (TW g ad q s0.1 f s0.2 sl cnt h st LW wv) sz)) (mu ((sT_divide (wOf sl wv) fr ln k s0).1).1 - mu s0.1) (mu ((sT_divide (wOf sl wv) fr ln k s0).1).1 - mu s0.1) (va_A (TW g ad q s0.1 f s0.2 sl cnt h st LW wv) sz) := by
  refine Met.ofW (cc := kT_divide) (maxL := 13) (ret := (some .int)) (by decide) rfl ?_
  intro p e s m args below meth c s₁ B hml hv
  obtain ⟨rfl, hsz, hK, hP, hD0⟩ := hv
  have hx := B.exec
  have hb := B.bytes
  have hr := B.returns
  have ht : ∀ w ∈ wT, w.before _ s = true := fun w h => atoms_spec (ws := wm yT_divide kT_divide 13 (some .int)) B.pre w (List.mem_cons_of_mem _ h)
  have hown : s.vm.findClass "NodeMaker$Tree" = some m.cls := findClass_of_methodNamed B.named
  have hlocks := B.notSynchronized
  subst hsz
  have hD := hD0.self (sz := s.heap.size)
  generalize hAe : va_A (TW g ad q s0.1 f s0.2 sl cnt h st LW wv) s.heap.size = A at hD ⊢
  have hA : ∀ q : Nat, s.heap.size ≤ q → A q := fun q h => by rw [← hAe]; exact Or.inr h
  have hS : va_S A s.heap s.heap [] := va_S.rf
  have hl := lv_entry ([.ref (ad 0), .int (nI fr), .int ln, .int k]) (n := 13) (Nat.le_of_ble_eq_true rfl)
  rw [lg_entry_eq]
  generalize (lg_sl ([.ref (ad 0), .int (nI fr), .int ln, .int k]) ++ List.replicate (13 - (lg_sl ([.ref (ad 0), .int (nI fr), .int ln, .int k])).length) Slot.unset).toArray = ls at hl ⊢
  have hl : lv_has ls 13 [(0, .ref (ad 0)), (1, .int (nI fr)), (2, .int ln), (3, .int k)] := hl
  have hlen := rowsT_lt hz 10 (by decide)
  have hl13 := rowsT_lt hz 13 (by decide)
  refine lv_aload_n hx hb dT_divide_0 rfl (lv_at hl 0 rfl) ?_
  refine va_get (D := g.1) (ci := 4) (v := .ref (ad 4)) (C := "NodeMaker$Tree") (T := Fd_T) (N := 16) hx hb ht i_T hown hK.1 hP 0 rfl rfl 9 (by decide) (ht _ q_114) (fun _ h9 => h9) rfl dT_divide_1 ?_
  have hPc := hP.sub (ws' := (piW g (ad 4) (fun k => ad (16 + k)) (fun k => q (10 + k)) (fun k => s0.1 (10 + k)) (fun k => f (10 + k)) (fun k => (s0.2 (10 + k)).length))) [4, 26, 27, 28, 29, 30, 31] rfl
  refine ro_Vi (v := nI (s0.2 10).length) (As := []) (rest := []) ⟨hx, hb, hml, hown, ht⟩ (cP_count l g (ad 4) (fun k => ad (16 + k)) (fun k => q (10 + k)) (fun k => s0.1 (10 + k)) (fun k => f (10 + k)) (fun k => s0.2 (10 + k)) (rows_3 10 (by decide) hz) ) (cwV 0 ht (g_V q_307 q_308 q_309 q_38 q_310) rfl rfl rfl hd_P_count ⟨Nat.le_of_ble_eq_true rfl, Nat.le_of_ble_eq_true rfl⟩) hK (hPc) (va_recv hK.1 hPc (ci := 1) (q0 := 0) rfl rfl) rfl hl.1 rfl (Nat.le_of_ble_eq_true rfl) dT_divide_4 ⟨by show 0 ≤ (mu ((sT_divide (wOf sl wv) fr ln k s0).1).1 - mu s0.1); omega, by show 0 ≤ (mu ((sT_divide (wOf sl wv) fr ln k s0).1).1 - mu s0.1); omega⟩ ?_
  refine lv_istore (lv' := [(4, .int (nI (s0.2 10).length)), (0, .ref (ad 0)), (1, .int (nI fr)), (2, .int ln), (3, .int k)]) hx hb dT_divide_7 hl (by decide) rfl (fun ls hl => ?_)
  refine lv_iload_n hx hb dT_divide_9 rfl (lv_at hl 2 rfl) ?_
  refine lv_istore (lv' := [(5, .int (nI fr)), (4, .int (nI (s0.2 10).length)), (0, .ref (ad 0)), (1, .int (nI fr)), (2, .int ln), (3, .int k)]) hx hb dT_divide_10 hl (by decide) rfl (fun ls hl => ?_)
  refine lv_aload_n hx hb dT_divide_12 rfl (lv_at hl 2 rfl) ?_
  refine va_get (D := g.1) (ci := 4) (v := .ref (ad 5)) (C := "NodeMaker$Tree") (T := Fd_T) (N := 16) hx hb ht i_T hown hK.1 hP 0 rfl rfl 13 (by decide) (ht _ q_118) (fun _ h9 => h9) rfl dT_divide_13 ?_
  refine lv_iconst (v := 0) hx hb dT_divide_16 (by decide) ?_
  refine tp_cut_13 ⟨hx, hb, hml, hown, ht⟩ q_279 ⟨Nat.le_of_ble_eq_true rfl, Nat.le_of_ble_eq_true rfl⟩ hK hz hP hD hS hA hl.1 (Nat.le_of_ble_eq_true rfl) dT_divide_17 ⟨by show 0 + 0 ≤ (mu ((sT_divide (wOf sl wv) fr ln k s0).1).1 - mu s0.1); omega, by show 0 + 0 ≤ (mu ((sT_divide (wOf sl wv) fr ln k s0).1).1 - mu s0.1); omega⟩ (fun q f H locs hz hP hD hS => ?_)
  have hz : rowsT (pCut 13 0 s0).1 f (pCut 13 0 s0).2 := hz
  have hP : va_P g.1 vwCl (TW g ad q (pCut 13 0 s0).1 f (pCut 13 0 s0).2 sl cnt h st LW wv) H := hP
  have hD : va_D A (TW g ad q (pCut 13 0 s0).1 f (pCut 13 0 s0).2 sl cnt h st LW wv) := hD
  refine lv_iload_n hx hb dT_divide_20 rfl (lv_at hl 3 rfl) ?_
  refine lv_istore (lv' := [(6, .int (nI fr)), (5, .int (nI fr)), (4, .int (nI (s0.2 10).length)), (0, .ref (ad 0)), (1, .int (nI fr)), (2, .int ln), (3, .int k)]) hx hb dT_divide_21 hl (by decide) rfl (fun ls hl => ?_)
  have loop23 : ∀ (n : Nat) (k0 : Nat) (s9 : TSt) (i re : Int32) (q : Nat → Nat) (f : Nat → Nat → Int32) (H : Heap) (locs : List Loc) (ls : Array Slot), k0 + n = (s0.2 10).length → i = nI k0 → mu s0.1 ≤ mu s9.1 → dvL (wOf sl wv) ln k n s9 i re = (dvL (wOf sl wv) ln k ((s0.2 10).length - fr) (pCut 13 0 s0) (nI fr) (nI fr)) → rowsT s9.1 f s9.2 → va_P g.1 vwCl (TW g ad q s9.1 f s9.2 sl cnt h st LW wv) H → va_D A (TW g ad q s9.1 f s9.2 sl cnt h st LW wv) → va_S A s.heap H locs → lv_has ls 13 [(6, .int i), (5, .int re), (4, .int (nI (s0.2 10).length)), (0, .ref (ad 0)), (1, .int (nI fr)), (2, .int ln), (3, .int k)] → W p l e (headSpec (wm yT_divide kT_divide 13 (some .int)) ({ frames := 4, cells := (mu ((sT_divide (wOf sl wv) fr ln k s0).1).1 - mu s0.1), slots := (mu ((sT_divide (wOf sl wv) fr ln k s0).1).1 - mu s0.1), locals := 126 })).room s m ([.ref (ad 0), .int (nI fr), .int ln, .int k] : List Value).toArray below meth c H locs (mu s9.1 - mu s0.1) (mu s9.1 - mu s0.1) (MQ below (va_Qi (fun (r : Int32) (u : (Nat → Nat) × (Nat → Nat → Int32)) => r = (sT_divide (wOf sl wv) fr ln k s0).2 ∧ rowsT ((sT_divide (wOf sl wv) fr ln k s0).1).1 u.2 ((sT_divide (wOf sl wv) fr ln k s0).1).2) (rB g A (fun u => (TW g ad u.1 ((sT_divide (wOf sl wv) fr ln k s0).1).1 u.2 ((sT_divide (wOf sl wv) fr ln k s0).1).2 sl cnt h st LW wv))) A) ([.ref (ad 0), .int (nI fr), .int ln, .int k] : List Value).toArray s (mu ((sT_divide (wOf sl wv) fr ln k s0).1).1 - mu s0.1) (mu ((sT_divide (wOf sl wv) fr ln k s0).1).1 - mu s0.1) A) (F0 m 23 ls []) := by
    intro n
    induction n with
    | zero =>
      intro k0 s9 i re q f H locs ls hk hi hle hR hz hP hD hS hl
      have hDV : (dvL (wOf sl wv) ln k ((s0.2 10).length - fr) (pCut 13 0 s0) (nI fr) (nI fr)) = (s9, re) := hR.symm
      have hfin : mu s9.1 ≤ mu (sT_divide (wOf sl wv) fr ln k s0).1.1 := by rw [sT_divide, hDV]; exact (show mu (pCut 10 re s9).1 ≤ _ from dvM_mono _ _ _)
      refine lv_iload hx hb dT_divide_23 (lv_at hl 0 rfl) ?_
      refine lv_iload hx hb dT_divide_25 (lv_at hl 2 rfl) ?_
      refine lv_icmp_ge (tgt := 237) hx hb dT_divide_27 (by decide) (fun c_1 => ?_) (fun c_1 => ?_)
      · skip
        refine lv_aload_n hx hb dT_divide_237 rfl (lv_at hl 3 rfl) ?_
        refine va_get (D := g.1) (ci := 4) (v := .ref (ad 4)) (C := "NodeMaker$Tree") (T := Fd_T) (N := 16) hx hb ht i_T hown hK.1 hP 0 rfl rfl 9 (by decide) (ht _ q_114) (fun _ h9 => h9) rfl dT_divide_238 ?_
        refine lv_iload hx hb dT_divide_241 (lv_at hl 1 rfl) ?_
        refine tp_cut_10 ⟨hx, hb, hml, hown, ht⟩ q_279 ⟨Nat.le_of_ble_eq_true rfl, Nat.le_of_ble_eq_true rfl⟩ hK hz hP hD hS hA hl.1 (Nat.le_of_ble_eq_true rfl) dT_divide_243 ⟨by show mu s9.1 - mu s0.1 + 0 ≤ (mu ((sT_divide (wOf sl wv) fr ln k s0).1).1 - mu s0.1); omega, by show mu s9.1 - mu s0.1 + 0 ≤ (mu ((sT_divide (wOf sl wv) fr ln k s0).1).1 - mu s0.1); omega⟩ (fun q f H locs hz hP hD hS => ?_)
        have hz : rowsT (pCut 10 re s9).1 f (pCut 10 re s9).2 := hz
        have hP : va_P g.1 vwCl (TW g ad q (pCut 10 re s9).1 f (pCut 10 re s9).2 sl cnt h st LW wv) H := hP
        have hD : va_D A (TW g ad q (pCut 10 re s9).1 f (pCut 10 re s9).2 sl cnt h st LW wv) := hD
        have hle : mu s0.1 ≤ mu (pCut 10 re s9).1 := hle
        refine W.widen (k := mu (pCut 10 re s9).1 - mu s0.1) (n := mu (pCut 10 re s9).1 - mu s0.1) (Nat.le_refl _) (Nat.le_refl _) ?_
        refine lv_iconst (v := 0) hx hb dT_divide_246 (by decide) ?_
        refine lv_istore (lv' := [(6, .int 0), (5, .int re), (4, .int (nI (s0.2 10).length)), (0, .ref (ad 0)), (1, .int (nI fr)), (2, .int ln), (3, .int k)]) hx hb dT_divide_247 hl (by decide) rfl (fun ls hl => ?_)
        have loop249 : ∀ (n : Nat) (k0 : Nat) (s8 : TSt) (i : Int32) (q : Nat → Nat) (f : Nat → Nat → Int32) (H : Heap) (locs : List Loc) (ls : Array Slot), k0 + n = ((pCut 10 re s9).2 13).length → i = nI k0 → mu s0.1 ≤ mu s8.1 → dvM n s8 i = (sT_divide (wOf sl wv) fr ln k s0).1 → (s8.2 13).length = ((pCut 10 re s9).2 13).length → rowsT s8.1 f s8.2 → va_P g.1 vwCl (TW g ad q s8.1 f s8.2 sl cnt h st LW wv) H → va_D A (TW g ad q s8.1 f s8.2 sl cnt h st LW wv) → va_S A s.heap H locs → lv_has ls 13 [(6, .int i), (5, .int re), (0, .ref (ad 0))] → W p l e (headSpec (wm yT_divide kT_divide 13 (some .int)) ({ frames := 4, cells := (mu ((sT_divide (wOf sl wv) fr ln k s0).1).1 - mu s0.1), slots := (mu ((sT_divide (wOf sl wv) fr ln k s0).1).1 - mu s0.1), locals := 126 })).room s m ([.ref (ad 0), .int (nI fr), .int ln, .int k] : List Value).toArray below meth c H locs (mu s8.1 - mu s0.1) (mu s8.1 - mu s0.1) (MQ below (va_Qi (fun (r : Int32) (u : (Nat → Nat) × (Nat → Nat → Int32)) => r = (sT_divide (wOf sl wv) fr ln k s0).2 ∧ rowsT ((sT_divide (wOf sl wv) fr ln k s0).1).1 u.2 ((sT_divide (wOf sl wv) fr ln k s0).1).2) (rB g A (fun u => (TW g ad u.1 ((sT_divide (wOf sl wv) fr ln k s0).1).1 u.2 ((sT_divide (wOf sl wv) fr ln k s0).1).2 sl cnt h st LW wv))) A) ([.ref (ad 0), .int (nI fr), .int ln, .int k] : List Value).toArray s (mu ((sT_divide (wOf sl wv) fr ln k s0).1).1 - mu s0.1) (mu ((sT_divide (wOf sl wv) fr ln k s0).1).1 - mu s0.1) A) (F0 m 249 ls []) := by
          intro n
          induction n with
          | zero =>
            intro k0 s8 i q f H locs ls hk hi hle hR hc hz hP hD hS hl
            have hs8 : mu s8.1 ≤ mu (sT_divide (wOf sl wv) fr ln k s0).1.1 := by rw [← hR]; exact dvM_mono _ _ _
            have hl8 := rowsT_lt hz 13 (by decide)
            refine lv_iload hx hb dT_divide_249 (lv_at hl 0 rfl) ?_
            refine lv_aload_n hx hb dT_divide_251 rfl (lv_at hl 2 rfl) ?_
            refine va_get (D := g.1) (ci := 4) (v := .ref (ad 5)) (C := "NodeMaker$Tree") (T := Fd_T) (N := 16) hx hb ht i_T hown hK.1 hP 0 rfl rfl 13 (by decide) (ht _ q_118) (fun _ h9 => h9) rfl dT_divide_252 ?_
            have hPc := hP.sub (ws' := (piW g (ad 5) (fun k => ad (19 + k)) (fun k => q (13 + k)) (fun k => s8.1 (13 + k)) (fun k => f (13 + k)) (fun k => (s8.2 (13 + k)).length))) [5, 32, 33, 34, 35, 36, 37] rfl
            refine ro_Vi (v := nI (s8.2 13).length) (As := []) (rest := [.int i]) ⟨hx, hb, hml, hown, ht⟩ (cP_count l g (ad 5) (fun k => ad (19 + k)) (fun k => q (13 + k)) (fun k => s8.1 (13 + k)) (fun k => f (13 + k)) (fun k => s8.2 (13 + k)) (rows_3 13 (by decide) hz) ) (cwV 0 ht (g_V q_307 q_308 q_309 q_38 q_310) rfl rfl rfl hd_P_count ⟨Nat.le_of_ble_eq_true rfl, Nat.le_of_ble_eq_true rfl⟩) hK (hPc) (va_recv hK.1 hPc (ci := 1) (q0 := 0) rfl rfl) rfl hl.1 rfl (Nat.le_of_ble_eq_true rfl) dT_divide_255 ⟨by show mu s8.1 - mu s0.1 ≤ (mu ((sT_divide (wOf sl wv) fr ln k s0).1).1 - mu s0.1); omega, by show mu s8.1 - mu s0.1 ≤ (mu ((sT_divide (wOf sl wv) fr ln k s0).1).1 - mu s0.1); omega⟩ ?_
            refine lv_icmp_ge (tgt := 301) hx hb dT_divide_258 (by decide) (fun c_2 => ?_) (fun c_2 => ?_)
            · skip
              refine lv_iload hx hb dT_divide_301 (lv_at hl 1 rfl) ?_
              have hEF : s8 = (sT_divide (wOf sl wv) fr ln k s0).1 := hR
              subst hEF
              refine W.widen (k := (mu ((sT_divide (wOf sl wv) fr ln k s0).1).1 - mu s0.1)) (n := (mu ((sT_divide (wOf sl wv) fr ln k s0).1).1 - mu s0.1)) (by omega) (by omega) ?_
              exact W.iret hx hb hr (fun t ht9 hW => ⟨⟨_, (q, f), rfl, ⟨by simp only [sT_divide, hDV], hz⟩, by rw [ht9]; exact hP, hD⟩, hS.F ht9⟩) hS.2.2 dT_divide_303
            · skip
              exact absurd (by rw [hc, hi]; exact nI_le (by omega) (by omega)) c_2
          | succ n ih =>
            intro k0 s8 i q f H locs ls hk hi hle hR hc hz hP hD hS hl
            have hs8 : mu s8.1 ≤ mu (sT_divide (wOf sl wv) fr ln k s0).1.1 := by rw [← hR]; exact dvM_mono _ _ _
            have hl8 := rowsT_lt hz 13 (by decide)
            refine lv_iload hx hb dT_divide_249 (lv_at hl 0 rfl) ?_
            refine lv_aload_n hx hb dT_divide_251 rfl (lv_at hl 2 rfl) ?_
            refine va_get (D := g.1) (ci := 4) (v := .ref (ad 5)) (C := "NodeMaker$Tree") (T := Fd_T) (N := 16) hx hb ht i_T hown hK.1 hP 0 rfl rfl 13 (by decide) (ht _ q_118) (fun _ h9 => h9) rfl dT_divide_252 ?_
            have hPc := hP.sub (ws' := (piW g (ad 5) (fun k => ad (19 + k)) (fun k => q (13 + k)) (fun k => s8.1 (13 + k)) (fun k => f (13 + k)) (fun k => (s8.2 (13 + k)).length))) [5, 32, 33, 34, 35, 36, 37] rfl
            refine ro_Vi (v := nI (s8.2 13).length) (As := []) (rest := [.int i]) ⟨hx, hb, hml, hown, ht⟩ (cP_count l g (ad 5) (fun k => ad (19 + k)) (fun k => q (13 + k)) (fun k => s8.1 (13 + k)) (fun k => f (13 + k)) (fun k => s8.2 (13 + k)) (rows_3 13 (by decide) hz) ) (cwV 0 ht (g_V q_307 q_308 q_309 q_38 q_310) rfl rfl rfl hd_P_count ⟨Nat.le_of_ble_eq_true rfl, Nat.le_of_ble_eq_true rfl⟩) hK (hPc) (va_recv hK.1 hPc (ci := 1) (q0 := 0) rfl rfl) rfl hl.1 rfl (Nat.le_of_ble_eq_true rfl) dT_divide_255 ⟨by show mu s8.1 - mu s0.1 ≤ (mu ((sT_divide (wOf sl wv) fr ln k s0).1).1 - mu s0.1); omega, by show mu s8.1 - mu s0.1 ≤ (mu ((sT_divide (wOf sl wv) fr ln k s0).1).1 - mu s0.1); omega⟩ ?_
            refine lv_icmp_ge (tgt := 301) hx hb dT_divide_258 (by decide) (fun c_3 => ?_) (fun c_3 => ?_)
            · skip
              exact absurd c_3 (by rw [hc, hi]; exact nI_ge (by omega) (by omega))
            · skip
              refine lv_aload_n hx hb dT_divide_261 rfl (lv_at hl 2 rfl) ?_
              refine va_get (D := g.1) (ci := 4) (v := .ref (ad 4)) (C := "NodeMaker$Tree") (T := Fd_T) (N := 16) hx hb ht i_T hown hK.1 hP 0 rfl rfl 9 (by decide) (ht _ q_114) (fun _ h9 => h9) rfl dT_divide_262 ?_
              refine lv_aload_n hx hb dT_divide_265 rfl (lv_at hl 2 rfl) ?_
              refine va_get (D := g.1) (ci := 4) (v := .ref (ad 5)) (C := "NodeMaker$Tree") (T := Fd_T) (N := 16) hx hb ht i_T hown hK.1 hP 0 rfl rfl 13 (by decide) (ht _ q_118) (fun _ h9 => h9) rfl dT_divide_266 ?_
              refine lv_iload hx hb dT_divide_269 (lv_at hl 0 rfl) ?_
              have hPc := hP.sub (ws' := (piW g (ad 5) (fun k => ad (19 + k)) (fun k => q (13 + k)) (fun k => s8.1 (13 + k)) (fun k => f (13 + k)) (fun k => (s8.2 (13 + k)).length))) [5, 32, 33, 34, 35, 36, 37] rfl
              refine ro_Vi (v := rAt (s8.2 13) i) (As := [.int i]) (rest := [.ref (ad 4)]) ⟨hx, hb, hml, hown, ht⟩ (cP_wallAt l g (ad 5) (fun k => ad (19 + k)) (fun k => q (13 + k)) (fun k => s8.1 (13 + k)) (fun k => f (13 + k)) (fun k => s8.2 (13 + k)) (rows_3 13 (by decide) hz) i) (cwV 1 ht (g_V q_341 q_342 q_343 q_38 q_344) rfl rfl rfl hd_P_wallAt ⟨Nat.le_of_ble_eq_true rfl, Nat.le_of_ble_eq_true rfl⟩) hK (hPc) (va_recv hK.1 hPc (ci := 1) (q0 := 0) rfl rfl) rfl hl.1 rfl (Nat.le_of_ble_eq_true rfl) dT_divide_271 ⟨by show mu s8.1 - mu s0.1 ≤ (mu ((sT_divide (wOf sl wv) fr ln k s0).1).1 - mu s0.1); omega, by show mu s8.1 - mu s0.1 ≤ (mu ((sT_divide (wOf sl wv) fr ln k s0).1).1 - mu s0.1); omega⟩ ?_
              refine lv_aload_n hx hb dT_divide_274 rfl (lv_at hl 2 rfl) ?_
              refine va_get (D := g.1) (ci := 4) (v := .ref (ad 5)) (C := "NodeMaker$Tree") (T := Fd_T) (N := 16) hx hb ht i_T hown hK.1 hP 0 rfl rfl 13 (by decide) (ht _ q_118) (fun _ h9 => h9) rfl dT_divide_275 ?_
              refine lv_iload hx hb dT_divide_278 (lv_at hl 0 rfl) ?_
              have hPc := hP.sub (ws' := (piW g (ad 5) (fun k => ad (19 + k)) (fun k => q (13 + k)) (fun k => s8.1 (13 + k)) (fun k => f (13 + k)) (fun k => (s8.2 (13 + k)).length))) [5, 32, 33, 34, 35, 36, 37] rfl
              refine ro_Vi (v := rAt (s8.2 14) i) (As := [.int i]) (rest := [.int (rAt (s8.2 13) i), .ref (ad 4)]) ⟨hx, hb, hml, hown, ht⟩ (cP_firstAt l g (ad 5) (fun k => ad (19 + k)) (fun k => q (13 + k)) (fun k => s8.1 (13 + k)) (fun k => f (13 + k)) (fun k => s8.2 (13 + k)) (rows_3 13 (by decide) hz) i) (cwV 1 ht (g_V q_350 q_351 q_352 q_38 q_353) rfl rfl rfl hd_P_firstAt ⟨Nat.le_of_ble_eq_true rfl, Nat.le_of_ble_eq_true rfl⟩) hK (hPc) (va_recv hK.1 hPc (ci := 1) (q0 := 0) rfl rfl) rfl hl.1 rfl (Nat.le_of_ble_eq_true rfl) dT_divide_280 ⟨by show mu s8.1 - mu s0.1 ≤ (mu ((sT_divide (wOf sl wv) fr ln k s0).1).1 - mu s0.1); omega, by show mu s8.1 - mu s0.1 ≤ (mu ((sT_divide (wOf sl wv) fr ln k s0).1).1 - mu s0.1); omega⟩ ?_
              refine lv_aload_n hx hb dT_divide_283 rfl (lv_at hl 2 rfl) ?_
              refine va_get (D := g.1) (ci := 4) (v := .ref (ad 5)) (C := "NodeMaker$Tree") (T := Fd_T) (N := 16) hx hb ht i_T hown hK.1 hP 0 rfl rfl 13 (by decide) (ht _ q_118) (fun _ h9 => h9) rfl dT_divide_284 ?_
              refine lv_iload hx hb dT_divide_287 (lv_at hl 0 rfl) ?_
              have hPc := hP.sub (ws' := (piW g (ad 5) (fun k => ad (19 + k)) (fun k => q (13 + k)) (fun k => s8.1 (13 + k)) (fun k => f (13 + k)) (fun k => (s8.2 (13 + k)).length))) [5, 32, 33, 34, 35, 36, 37] rfl
              refine ro_Vi (v := rAt (s8.2 15) i) (As := [.int i]) (rest := [.int (rAt (s8.2 14) i), .int (rAt (s8.2 13) i), .ref (ad 4)]) ⟨hx, hb, hml, hown, ht⟩ (cP_lastAt l g (ad 5) (fun k => ad (19 + k)) (fun k => q (13 + k)) (fun k => s8.1 (13 + k)) (fun k => f (13 + k)) (fun k => s8.2 (13 + k)) (rows_3 13 (by decide) hz) i) (cwV 1 ht (g_V q_369 q_370 q_371 q_38 q_372) rfl rfl rfl hd_P_lastAt ⟨Nat.le_of_ble_eq_true rfl, Nat.le_of_ble_eq_true rfl⟩) hK (hPc) (va_recv hK.1 hPc (ci := 1) (q0 := 0) rfl rfl) rfl hl.1 rfl (Nat.le_of_ble_eq_true rfl) dT_divide_289 ⟨by show mu s8.1 - mu s0.1 ≤ (mu ((sT_divide (wOf sl wv) fr ln k s0).1).1 - mu s0.1); omega, by show mu s8.1 - mu s0.1 ≤ (mu ((sT_divide (wOf sl wv) fr ln k s0).1).1 - mu s0.1); omega⟩ ?_
              have hmu : mu (pAdd 10 (rAt (s8.2 13) i) (rAt (s8.2 14) i) (rAt (s8.2 15) i) s8).1 = mu s8.1 + (aUse (s8.1 10) (s8.2 10) + aUse (s8.1 11) (s8.2 11) + aUse (s8.1 12) (s8.2 12)) := mu_pAdd (K := 10) (v0 := (rAt (s8.2 13) i)) (v1 := (rAt (s8.2 14) i)) (v2 := (rAt (s8.2 15) i)) (s := s8) (by decide)
              have hfit : mu (pAdd 10 (rAt (s8.2 13) i) (rAt (s8.2 14) i) (rAt (s8.2 15) i) s8).1 ≤ mu ((sT_divide (wOf sl wv) fr ln k s0).1).1 := Nat.le_trans (dvM_mono n (pAdd 10 (rAt (s8.2 13) i) (rAt (s8.2 14) i) (rAt (s8.2 15) i) s8) (i + 1)) (Nat.le_of_eq (by rw [← hR]; rfl))
              refine tp_add_10 ⟨hx, hb, hml, hown, ht⟩ q_285 ⟨Nat.le_of_ble_eq_true rfl, Nat.le_of_ble_eq_true rfl⟩ hK hz hP hD hS hA hl.1 (Nat.le_of_ble_eq_true rfl) dT_divide_292 ⟨by show mu s8.1 - mu s0.1 + (aUse (s8.1 10) (s8.2 10) + aUse (s8.1 11) (s8.2 11) + aUse (s8.1 12) (s8.2 12)) ≤ (mu ((sT_divide (wOf sl wv) fr ln k s0).1).1 - mu s0.1); omega, by show mu s8.1 - mu s0.1 + (aUse (s8.1 10) (s8.2 10) + aUse (s8.1 11) (s8.2 11) + aUse (s8.1 12) (s8.2 12)) ≤ (mu ((sT_divide (wOf sl wv) fr ln k s0).1).1 - mu s0.1); omega⟩ (fun q f H locs hz hP hD hS => ?_)
              have hz : rowsT (pAdd 10 (rAt (s8.2 13) i) (rAt (s8.2 14) i) (rAt (s8.2 15) i) s8).1 f (pAdd 10 (rAt (s8.2 13) i) (rAt (s8.2 14) i) (rAt (s8.2 15) i) s8).2 := hz
              have hP : va_P g.1 vwCl (TW g ad q (pAdd 10 (rAt (s8.2 13) i) (rAt (s8.2 14) i) (rAt (s8.2 15) i) s8).1 f (pAdd 10 (rAt (s8.2 13) i) (rAt (s8.2 14) i) (rAt (s8.2 15) i) s8).2 sl cnt h st LW wv) H := hP
              have hD : va_D A (TW g ad q (pAdd 10 (rAt (s8.2 13) i) (rAt (s8.2 14) i) (rAt (s8.2 15) i) s8).1 f (pAdd 10 (rAt (s8.2 13) i) (rAt (s8.2 14) i) (rAt (s8.2 15) i) s8).2 sl cnt h st LW wv) := hD
              have hle : mu s0.1 ≤ mu (pAdd 10 (rAt (s8.2 13) i) (rAt (s8.2 14) i) (rAt (s8.2 15) i) s8).1 := by omega
              refine W.widen (k := mu (pAdd 10 (rAt (s8.2 13) i) (rAt (s8.2 14) i) (rAt (s8.2 15) i) s8).1 - mu s0.1) (n := mu (pAdd 10 (rAt (s8.2 13) i) (rAt (s8.2 14) i) (rAt (s8.2 15) i) s8).1 - mu s0.1) (by omega) (by omega) ?_
              refine lv_iinc (v := i + 1) (lv' := [(6, .int (i + 1)), (5, .int re), (0, .ref (ad 0))]) hx hb dT_divide_295 hl (k := 0) rfl rfl (by decide) rfl (fun ls hl => ?_)
              refine lv_goto (tgt := 249) hx hb dT_divide_298 (by decide) ?_
              exact ih (k0 + 1) (pAdd 10 (rAt (s8.2 13) i) (rAt (s8.2 14) i) (rAt (s8.2 15) i) s8) (i + 1) q f H locs ls (by omega) (by rw [hi]; exact nI_1 k0) hle (by rw [← hR, dvM]) hc hz hP hD hS (lv_sub hl [0, 1, 2] rfl)
        exact loop249 ((pCut 10 re s9).2 13).length 0 (pCut 10 re s9) 0 q f H locs ls (by omega) rfl hle (by simp only [sT_divide, hDV]; rfl) rfl hz hP hD hS (lv_sub hl [0, 1, 3] rfl)
      · skip
        exact absurd (by rw [hi]; exact nI_le (by omega) (by omega)) c_1
    | succ n ih =>
      intro k0 s9 i re q f H locs ls hk hi hle hR hz hP hD hS hl
      have h2 : dvL (wOf sl wv) ln k n (dvStep (wOf sl wv) ln k s9 i re).1 (i + 1) (dvStep (wOf sl wv) ln k s9 i re).2 = (dvL (wOf sl wv) ln k ((s0.2 10).length - fr) (pCut 13 0 s0) (nI fr) (nI fr)) := hR
      have hst : mu (dvStep (wOf sl wv) ln k s9 i re).1.1 ≤ mu (sT_divide (wOf sl wv) fr ln k s0).1.1 := by have h1 := dvL_mono (Wl := (wOf sl wv)) (ln := ln) (k := k) n (dvStep (wOf sl wv) ln k s9 i re).1 (i + 1) (dvStep (wOf sl wv) ln k s9 i re).2; rw [h2] at h1; exact Nat.le_trans h1 (show mu (pCut 10 (dvL (wOf sl wv) ln k ((s0.2 10).length - fr) (pCut 13 0 s0) (nI fr) (nI fr)).2 (dvL (wOf sl wv) ln k ((s0.2 10).length - fr) (pCut 13 0 s0) (nI fr) (nI fr)).1).1 ≤ mu (dvM ((dvL (wOf sl wv) ln k ((s0.2 10).length - fr) (pCut 13 0 s0) (nI fr) (nI fr)).1.2 13).length (pCut 10 (dvL (wOf sl wv) ln k ((s0.2 10).length - fr) (pCut 13 0 s0) (nI fr) (nI fr)).2 (dvL (wOf sl wv) ln k ((s0.2 10).length - fr) (pCut 13 0 s0) (nI fr) (nI fr)).1) 0).1 from dvM_mono _ _ _)
      have hs9 : mu s9.1 ≤ mu (sT_divide (wOf sl wv) fr ln k s0).1.1 := Nat.le_trans (dvStep_mono _ _ _ _ _ _) hst
      refine lv_iload hx hb dT_divide_23 (lv_at hl 0 rfl) ?_
      refine lv_iload hx hb dT_divide_25 (lv_at hl 2 rfl) ?_
      refine lv_icmp_ge (tgt := 237) hx hb dT_divide_27 (by decide) (fun c_4 => ?_) (fun c_4 => ?_)
      · skip
        exact absurd c_4 (by rw [hi]; exact nI_ge (by omega) (by omega))
      · skip
        refine lv_aload_n hx hb dT_divide_30 rfl (lv_at hl 3 rfl) ?_
        refine va_get (D := g.1) (ci := 4) (v := .ref (ad 4)) (C := "NodeMaker$Tree") (T := Fd_T) (N := 16) hx hb ht i_T hown hK.1 hP 0 rfl rfl 9 (by decide) (ht _ q_114) (fun _ h9 => h9) rfl dT_divide_31 ?_
        refine lv_iload hx hb dT_divide_34 (lv_at hl 0 rfl) ?_
        have hPc := hP.sub (ws' := (piW g (ad 4) (fun k => ad (16 + k)) (fun k => q (10 + k)) (fun k => s9.1 (10 + k)) (fun k => f (10 + k)) (fun k => (s9.2 (10 + k)).length))) [4, 26, 27, 28, 29, 30, 31] rfl
        refine ro_Vi (v := rAt (s9.2 10) i) (As := [.int i]) (rest := []) ⟨hx, hb, hml, hown, ht⟩ (cP_wallAt l g (ad 4) (fun k => ad (16 + k)) (fun k => q (10 + k)) (fun k => s9.1 (10 + k)) (fun k => f (10 + k)) (fun k => s9.2 (10 + k)) (rows_3 10 (by decide) hz) i) (cwV 1 ht (g_V q_341 q_342 q_343 q_38 q_344) rfl rfl rfl hd_P_wallAt ⟨Nat.le_of_ble_eq_true rfl, Nat.le_of_ble_eq_true rfl⟩) hK (hPc) (va_recv hK.1 hPc (ci := 1) (q0 := 0) rfl rfl) rfl hl.1 rfl (Nat.le_of_ble_eq_true rfl) dT_divide_36 ⟨by show mu s9.1 - mu s0.1 ≤ (mu ((sT_divide (wOf sl wv) fr ln k s0).1).1 - mu s0.1); omega, by show mu s9.1 - mu s0.1 ≤ (mu ((sT_divide (wOf sl wv) fr ln k s0).1).1 - mu s0.1); omega⟩ ?_
        refine lv_istore (lv' := [(7, .int (rAt (s9.2 10) i)), (6, .int i), (5, .int re), (4, .int (nI (s0.2 10).length)), (0, .ref (ad 0)), (1, .int (nI fr)), (2, .int ln), (3, .int k)]) hx hb dT_divide_39 hl (by decide) rfl (fun ls hl => ?_)
        refine lv_aload_n hx hb dT_divide_41 rfl (lv_at hl 4 rfl) ?_
        refine va_get (D := g.1) (ci := 4) (v := .ref (ad 4)) (C := "NodeMaker$Tree") (T := Fd_T) (N := 16) hx hb ht i_T hown hK.1 hP 0 rfl rfl 9 (by decide) (ht _ q_114) (fun _ h9 => h9) rfl dT_divide_42 ?_
        refine lv_iload hx hb dT_divide_45 (lv_at hl 1 rfl) ?_
        have hPc := hP.sub (ws' := (piW g (ad 4) (fun k => ad (16 + k)) (fun k => q (10 + k)) (fun k => s9.1 (10 + k)) (fun k => f (10 + k)) (fun k => (s9.2 (10 + k)).length))) [4, 26, 27, 28, 29, 30, 31] rfl
        refine ro_Vi (v := rAt (s9.2 11) i) (As := [.int i]) (rest := []) ⟨hx, hb, hml, hown, ht⟩ (cP_firstAt l g (ad 4) (fun k => ad (16 + k)) (fun k => q (10 + k)) (fun k => s9.1 (10 + k)) (fun k => f (10 + k)) (fun k => s9.2 (10 + k)) (rows_3 10 (by decide) hz) i) (cwV 1 ht (g_V q_350 q_351 q_352 q_38 q_353) rfl rfl rfl hd_P_firstAt ⟨Nat.le_of_ble_eq_true rfl, Nat.le_of_ble_eq_true rfl⟩) hK (hPc) (va_recv hK.1 hPc (ci := 1) (q0 := 0) rfl rfl) rfl hl.1 rfl (Nat.le_of_ble_eq_true rfl) dT_divide_47 ⟨by show mu s9.1 - mu s0.1 ≤ (mu ((sT_divide (wOf sl wv) fr ln k s0).1).1 - mu s0.1); omega, by show mu s9.1 - mu s0.1 ≤ (mu ((sT_divide (wOf sl wv) fr ln k s0).1).1 - mu s0.1); omega⟩ ?_
        refine lv_istore (lv' := [(8, .int (rAt (s9.2 11) i)), (7, .int (rAt (s9.2 10) i)), (6, .int i), (5, .int re), (4, .int (nI (s0.2 10).length)), (0, .ref (ad 0)), (1, .int (nI fr)), (2, .int ln), (3, .int k)]) hx hb dT_divide_50 hl (by decide) rfl (fun ls hl => ?_)
        refine lv_aload_n hx hb dT_divide_52 rfl (lv_at hl 5 rfl) ?_
        refine va_get (D := g.1) (ci := 4) (v := .ref (ad 4)) (C := "NodeMaker$Tree") (T := Fd_T) (N := 16) hx hb ht i_T hown hK.1 hP 0 rfl rfl 9 (by decide) (ht _ q_114) (fun _ h9 => h9) rfl dT_divide_53 ?_
        refine lv_iload hx hb dT_divide_56 (lv_at hl 2 rfl) ?_
        have hPc := hP.sub (ws' := (piW g (ad 4) (fun k => ad (16 + k)) (fun k => q (10 + k)) (fun k => s9.1 (10 + k)) (fun k => f (10 + k)) (fun k => (s9.2 (10 + k)).length))) [4, 26, 27, 28, 29, 30, 31] rfl
        refine ro_Vi (v := rAt (s9.2 12) i) (As := [.int i]) (rest := []) ⟨hx, hb, hml, hown, ht⟩ (cP_lastAt l g (ad 4) (fun k => ad (16 + k)) (fun k => q (10 + k)) (fun k => s9.1 (10 + k)) (fun k => f (10 + k)) (fun k => s9.2 (10 + k)) (rows_3 10 (by decide) hz) i) (cwV 1 ht (g_V q_369 q_370 q_371 q_38 q_372) rfl rfl rfl hd_P_lastAt ⟨Nat.le_of_ble_eq_true rfl, Nat.le_of_ble_eq_true rfl⟩) hK (hPc) (va_recv hK.1 hPc (ci := 1) (q0 := 0) rfl rfl) rfl hl.1 rfl (Nat.le_of_ble_eq_true rfl) dT_divide_58 ⟨by show mu s9.1 - mu s0.1 ≤ (mu ((sT_divide (wOf sl wv) fr ln k s0).1).1 - mu s0.1); omega, by show mu s9.1 - mu s0.1 ≤ (mu ((sT_divide (wOf sl wv) fr ln k s0).1).1 - mu s0.1); omega⟩ ?_
        refine lv_istore (lv' := [(9, .int (rAt (s9.2 12) i)), (8, .int (rAt (s9.2 11) i)), (7, .int (rAt (s9.2 10) i)), (6, .int i), (5, .int re), (4, .int (nI (s0.2 10).length)), (0, .ref (ad 0)), (1, .int (nI fr)), (2, .int ln), (3, .int k)]) hx hb dT_divide_61 hl (by decide) rfl (fun ls hl => ?_)
        refine lv_aload_n hx hb dT_divide_63 rfl (lv_at hl 6 rfl) ?_
        refine lv_iload_n hx hb dT_divide_64 rfl (lv_at hl 8 rfl) ?_
        refine lv_iload hx hb dT_divide_65 (lv_at hl 3 rfl) ?_
        refine ro_Vi (v := sT_whereLies s9.2 (wOf sl wv) ln i) (As := [.int ln, .int i]) (rest := []) ⟨hx, hb, hml, hown, ht⟩ (cT_whereLies l g ad q s9.1 f s9.2 sl cnt h st LW wv hz hsl ln i) (cwV 2 ht (g_V q_346 q_348 q_4 q_35 q_349) rfl rfl rfl hd_T_whereLies ⟨Nat.le_of_ble_eq_true rfl, Nat.le_of_ble_eq_true rfl⟩) hK (hP) (va_recv hK.1 hP (ci := 4) (q0 := 0) rfl rfl) rfl hl.1 rfl (Nat.le_of_ble_eq_true rfl) dT_divide_67 ⟨by show mu s9.1 - mu s0.1 ≤ (mu ((sT_divide (wOf sl wv) fr ln k s0).1).1 - mu s0.1); omega, by show mu s9.1 - mu s0.1 ≤ (mu ((sT_divide (wOf sl wv) fr ln k s0).1).1 - mu s0.1); omega⟩ ?_
        refine lv_istore (lv' := [(10, .int (sT_whereLies s9.2 (wOf sl wv) ln i)), (9, .int (rAt (s9.2 12) i)), (8, .int (rAt (s9.2 11) i)), (7, .int (rAt (s9.2 10) i)), (6, .int i), (5, .int re), (4, .int (nI (s0.2 10).length)), (0, .ref (ad 0)), (1, .int (nI fr)), (2, .int ln), (3, .int k)]) hx hb dT_divide_70 hl (by decide) rfl (fun ls hl => ?_)
        refine lv_iload hx hb dT_divide_72 (lv_at hl 0 rfl) ?_
        refine lv_if_ne (tgt := 101) hx hb dT_divide_74 (by decide) (fun c_5 => ?_) (fun c_5 => ?_)
        · skip
          refine lv_iload hx hb dT_divide_101 (lv_at hl 0 rfl) ?_
          refine lv_iconst (v := 3) hx hb dT_divide_103 (by decide) ?_
          refine lv_icmp_ne (tgt := 111) hx hb dT_divide_104 (by decide) (fun c_6 => ?_) (fun c_6 => ?_)
          · skip
            refine lv_iconst (v := 0) hx hb dT_divide_111 (by decide) ?_
            refine lv_istore (lv' := [(11, .int 0), (10, .int (sT_whereLies s9.2 (wOf sl wv) ln i)), (9, .int (rAt (s9.2 12) i)), (8, .int (rAt (s9.2 11) i)), (7, .int (rAt (s9.2 10) i)), (6, .int i), (5, .int re), (4, .int (nI (s0.2 10).length)), (0, .ref (ad 0)), (1, .int (nI fr)), (2, .int ln), (3, .int k)]) hx hb dT_divide_112 hl (by decide) rfl (fun ls hl => ?_)
            refine lv_iload hx hb dT_divide_114 (lv_at hl 0 rfl) ?_
            refine lv_if_eq (tgt := 137) hx hb dT_divide_116 (by decide) (fun c_7 => ?_) (fun c_7 => ?_)
            · skip
              refine lv_iconst (v := 0) hx hb dT_divide_137 (by decide) ?_
              refine lv_istore (lv' := [(12, .int 0), (11, .int 0), (10, .int (sT_whereLies s9.2 (wOf sl wv) ln i)), (9, .int (rAt (s9.2 12) i)), (8, .int (rAt (s9.2 11) i)), (7, .int (rAt (s9.2 10) i)), (6, .int i), (5, .int re), (4, .int (nI (s0.2 10).length)), (0, .ref (ad 0)), (1, .int (nI fr)), (2, .int ln), (3, .int k)]) hx hb dT_divide_138 hl (by decide) rfl (fun ls hl => ?_)
              refine lv_iload hx hb dT_divide_140 (lv_at hl 2 rfl) ?_
              refine lv_iconst (v := 1) hx hb dT_divide_142 (by decide) ?_
              refine lv_iand hx hb dT_divide_143 ?_
              refine lv_if_eq (tgt := 183) hx hb dT_divide_144 (by decide) (fun c_8 => ?_) (fun c_8 => ?_)
              · skip
                refine lv_iload hx hb dT_divide_183 (lv_at hl 2 rfl) ?_
                refine lv_iconst (v := 2) hx hb dT_divide_185 (by decide) ?_
                refine lv_iand hx hb dT_divide_186 ?_
                refine lv_if_eq (tgt := 231) hx hb dT_divide_187 (by decide) (fun c_9 => ?_) (fun c_9 => ?_)
                · skip
                  refine lv_iinc (v := i + 1) (lv' := [(6, .int (i + 1)), (12, .int 0), (11, .int 0), (10, .int (sT_whereLies s9.2 (wOf sl wv) ln i)), (9, .int (rAt (s9.2 12) i)), (8, .int (rAt (s9.2 11) i)), (7, .int (rAt (s9.2 10) i)), (5, .int re), (4, .int (nI (s0.2 10).length)), (0, .ref (ad 0)), (1, .int (nI fr)), (2, .int ln), (3, .int k)]) hx hb dT_divide_231 hl (k := 6) rfl rfl (by decide) rfl (fun ls hl => ?_)
                  refine lv_goto (tgt := 23) hx hb dT_divide_234 (by decide) ?_
                  exact ih (k0 + 1) s9 (i + 1) re q f H locs ls (by omega) (by rw [hi]; exact nI_1 k0) (by exact hle) (by rw [← hR, dvL, dvStep, if_neg c_5, if_neg c_6, if_pos c_8, if_pos c_9]) hz hP hD hS (lv_sub hl [0, 7, 8, 9, 10, 11, 12] rfl)
                · skip
                  refine lv_aload_n hx hb dT_divide_190 rfl (lv_at hl 9 rfl) ?_
                  refine va_get (D := g.1) (ci := 4) (v := .ref (ad 4)) (C := "NodeMaker$Tree") (T := Fd_T) (N := 16) hx hb ht i_T hown hK.1 hP 0 rfl rfl 9 (by decide) (ht _ q_114) (fun _ h9 => h9) rfl dT_divide_191 ?_
                  refine lv_iload hx hb dT_divide_194 (lv_at hl 7 rfl) ?_
                  refine lv_iload hx hb dT_divide_196 (lv_at hl 5 rfl) ?_
                  refine lv_iload hx hb dT_divide_198 (lv_at hl 0 rfl) ?_
                  refine lv_if_eq (tgt := 207) hx hb dT_divide_200 (by decide) (fun c_10 => ?_) (fun c_10 => ?_)
                  · skip
                    refine lv_iload hx hb dT_divide_207 (lv_at hl 4 rfl) ?_
                    refine lv_iload hx hb dT_divide_209 (lv_at hl 1 rfl) ?_
                    refine lv_if_eq (tgt := 223) hx hb dT_divide_211 (by decide) (fun c_11 => ?_) (fun c_11 => ?_)
                    · skip
                      refine lv_iload hx hb dT_divide_223 (lv_at hl 3 rfl) ?_
                      refine tp_set_10 ⟨hx, hb, hml, hown, ht⟩ q_381 ⟨Nat.le_of_ble_eq_true rfl, Nat.le_of_ble_eq_true rfl⟩ hK hz hP hD hS hA hl.1 (Nat.le_of_ble_eq_true rfl) dT_divide_225 ⟨by show mu s9.1 - mu s0.1 + 0 ≤ (mu ((sT_divide (wOf sl wv) fr ln k s0).1).1 - mu s0.1); omega, by show mu s9.1 - mu s0.1 + 0 ≤ (mu ((sT_divide (wOf sl wv) fr ln k s0).1).1 - mu s0.1); omega⟩ (fun q f H locs hz hP hD hS => ?_)
                      have hz : rowsT (pSet 10 re (rAt (s9.2 10) i) (rAt (s9.2 11) i) (rAt (s9.2 12) i) s9).1 f (pSet 10 re (rAt (s9.2 10) i) (rAt (s9.2 11) i) (rAt (s9.2 12) i) s9).2 := hz
                      have hP : va_P g.1 vwCl (TW g ad q (pSet 10 re (rAt (s9.2 10) i) (rAt (s9.2 11) i) (rAt (s9.2 12) i) s9).1 f (pSet 10 re (rAt (s9.2 10) i) (rAt (s9.2 11) i) (rAt (s9.2 12) i) s9).2 sl cnt h st LW wv) H := hP
                      have hD : va_D A (TW g ad q (pSet 10 re (rAt (s9.2 10) i) (rAt (s9.2 11) i) (rAt (s9.2 12) i) s9).1 f (pSet 10 re (rAt (s9.2 10) i) (rAt (s9.2 11) i) (rAt (s9.2 12) i) s9).2 sl cnt h st LW wv) := hD
                      have hle : mu s0.1 ≤ mu (pSet 10 re (rAt (s9.2 10) i) (rAt (s9.2 11) i) (rAt (s9.2 12) i) s9).1 := hle
                      refine W.widen (k := mu (pSet 10 re (rAt (s9.2 10) i) (rAt (s9.2 11) i) (rAt (s9.2 12) i) s9).1 - mu s0.1) (n := mu (pSet 10 re (rAt (s9.2 10) i) (rAt (s9.2 11) i) (rAt (s9.2 12) i) s9).1 - mu s0.1) (Nat.le_refl _) (Nat.le_refl _) ?_
                      refine lv_iinc (v := re + 1) (lv' := [(5, .int (re + 1)), (12, .int 0), (11, .int 0), (10, .int (sT_whereLies s9.2 (wOf sl wv) ln i)), (9, .int (rAt (s9.2 12) i)), (8, .int (rAt (s9.2 11) i)), (7, .int (rAt (s9.2 10) i)), (6, .int i), (4, .int (nI (s0.2 10).length)), (0, .ref (ad 0)), (1, .int (nI fr)), (2, .int ln), (3, .int k)]) hx hb dT_divide_228 hl (k := 7) rfl rfl (by decide) rfl (fun ls hl => ?_)
                      refine lv_iinc (v := i + 1) (lv' := [(6, .int (i + 1)), (5, .int (re + 1)), (12, .int 0), (11, .int 0), (10, .int (sT_whereLies s9.2 (wOf sl wv) ln i)), (9, .int (rAt (s9.2 12) i)), (8, .int (rAt (s9.2 11) i)), (7, .int (rAt (s9.2 10) i)), (4, .int (nI (s0.2 10).length)), (0, .ref (ad 0)), (1, .int (nI fr)), (2, .int ln), (3, .int k)]) hx hb dT_divide_231 hl (k := 7) rfl rfl (by decide) rfl (fun ls hl => ?_)
                      refine lv_goto (tgt := 23) hx hb dT_divide_234 (by decide) ?_
                      exact ih (k0 + 1) (pSet 10 re (rAt (s9.2 10) i) (rAt (s9.2 11) i) (rAt (s9.2 12) i) s9) (i + 1) (re + 1) q f H locs ls (by omega) (by rw [hi]; exact nI_1 k0) (by exact hle) (by rw [← hR, dvL, dvStep, if_neg c_5, if_neg c_6, if_pos c_8, if_neg c_9]) hz hP hD hS (lv_sub hl [0, 1, 8, 9, 10, 11, 12] rfl)
                    · skip
                      exact absurd (by decide) c_11
                  · skip
                    exact absurd (by decide) c_10
              · skip
                refine lv_aload_n hx hb dT_divide_147 rfl (lv_at hl 9 rfl) ?_
                refine va_get (D := g.1) (ci := 4) (v := .ref (ad 5)) (C := "NodeMaker$Tree") (T := Fd_T) (N := 16) hx hb ht i_T hown hK.1 hP 0 rfl rfl 13 (by decide) (ht _ q_118) (fun _ h9 => h9) rfl dT_divide_148 ?_
                refine lv_iload hx hb dT_divide_151 (lv_at hl 5 rfl) ?_
                refine lv_iload hx hb dT_divide_153 (lv_at hl 1 rfl) ?_
                refine lv_if_eq (tgt := 167) hx hb dT_divide_155 (by decide) (fun c_12 => ?_) (fun c_12 => ?_)
                · skip
                  refine lv_iload hx hb dT_divide_167 (lv_at hl 4 rfl) ?_
                  refine lv_iload hx hb dT_divide_169 (lv_at hl 0 rfl) ?_
                  refine lv_if_eq (tgt := 178) hx hb dT_divide_171 (by decide) (fun c_13 => ?_) (fun c_13 => ?_)
                  · skip
                    refine lv_iload hx hb dT_divide_178 (lv_at hl 3 rfl) ?_
                    have hmu : mu (pAdd 13 (rAt (s9.2 10) i) (rAt (s9.2 11) i) (rAt (s9.2 12) i) s9).1 = mu s9.1 + (aUse (s9.1 13) (s9.2 13) + aUse (s9.1 14) (s9.2 14) + aUse (s9.1 15) (s9.2 15)) := mu_pAdd (K := 13) (v0 := (rAt (s9.2 10) i)) (v1 := (rAt (s9.2 11) i)) (v2 := (rAt (s9.2 12) i)) (s := s9) (by decide)
                    have hfit : mu (pAdd 13 (rAt (s9.2 10) i) (rAt (s9.2 11) i) (rAt (s9.2 12) i) s9).1 ≤ mu ((sT_divide (wOf sl wv) fr ln k s0).1).1 := Nat.le_trans (by rw [dvStep, if_neg c_5, if_neg c_6, if_neg c_8]; (repeat' split) <;> (try simp only [mu_pSet]) <;> with_reducible first | exact Nat.le_refl _ | exact mu_oAdd_le (by decide)) hst
                    refine tp_add_13 ⟨hx, hb, hml, hown, ht⟩ q_285 ⟨Nat.le_of_ble_eq_true rfl, Nat.le_of_ble_eq_true rfl⟩ hK hz hP hD hS hA hl.1 (Nat.le_of_ble_eq_true rfl) dT_divide_180 ⟨by show mu s9.1 - mu s0.1 + (aUse (s9.1 13) (s9.2 13) + aUse (s9.1 14) (s9.2 14) + aUse (s9.1 15) (s9.2 15)) ≤ (mu ((sT_divide (wOf sl wv) fr ln k s0).1).1 - mu s0.1); omega, by show mu s9.1 - mu s0.1 + (aUse (s9.1 13) (s9.2 13) + aUse (s9.1 14) (s9.2 14) + aUse (s9.1 15) (s9.2 15)) ≤ (mu ((sT_divide (wOf sl wv) fr ln k s0).1).1 - mu s0.1); omega⟩ (fun q f H locs hz hP hD hS => ?_)
                    have hz : rowsT (pAdd 13 (rAt (s9.2 10) i) (rAt (s9.2 11) i) (rAt (s9.2 12) i) s9).1 f (pAdd 13 (rAt (s9.2 10) i) (rAt (s9.2 11) i) (rAt (s9.2 12) i) s9).2 := hz
                    have hP : va_P g.1 vwCl (TW g ad q (pAdd 13 (rAt (s9.2 10) i) (rAt (s9.2 11) i) (rAt (s9.2 12) i) s9).1 f (pAdd 13 (rAt (s9.2 10) i) (rAt (s9.2 11) i) (rAt (s9.2 12) i) s9).2 sl cnt h st LW wv) H := hP
                    have hD : va_D A (TW g ad q (pAdd 13 (rAt (s9.2 10) i) (rAt (s9.2 11) i) (rAt (s9.2 12) i) s9).1 f (pAdd 13 (rAt (s9.2 10) i) (rAt (s9.2 11) i) (rAt (s9.2 12) i) s9).2 sl cnt h st LW wv) := hD
                    have hle : mu s0.1 ≤ mu (pAdd 13 (rAt (s9.2 10) i) (rAt (s9.2 11) i) (rAt (s9.2 12) i) s9).1 := by omega
                    refine W.widen (k := mu (pAdd 13 (rAt (s9.2 10) i) (rAt (s9.2 11) i) (rAt (s9.2 12) i) s9).1 - mu s0.1) (n := mu (pAdd 13 (rAt (s9.2 10) i) (rAt (s9.2 11) i) (rAt (s9.2 12) i) s9).1 - mu s0.1) (by omega) (by omega) ?_
                    refine lv_iload hx hb dT_divide_183 (lv_at hl 2 rfl) ?_
                    refine lv_iconst (v := 2) hx hb dT_divide_185 (by decide) ?_
                    refine lv_iand hx hb dT_divide_186 ?_
                    refine lv_if_eq (tgt := 231) hx hb dT_divide_187 (by decide) (fun c_14 => ?_) (fun c_14 => ?_)
                    · skip
                      refine lv_iinc (v := i + 1) (lv' := [(6, .int (i + 1)), (12, .int 0), (11, .int 0), (10, .int (sT_whereLies s9.2 (wOf sl wv) ln i)), (9, .int (rAt (s9.2 12) i)), (8, .int (rAt (s9.2 11) i)), (7, .int (rAt (s9.2 10) i)), (5, .int re), (4, .int (nI (s0.2 10).length)), (0, .ref (ad 0)), (1, .int (nI fr)), (2, .int ln), (3, .int k)]) hx hb dT_divide_231 hl (k := 6) rfl rfl (by decide) rfl (fun ls hl => ?_)
                      refine lv_goto (tgt := 23) hx hb dT_divide_234 (by decide) ?_
                      exact ih (k0 + 1) (pAdd 13 (rAt (s9.2 10) i) (rAt (s9.2 11) i) (rAt (s9.2 12) i) s9) (i + 1) re q f H locs ls (by omega) (by rw [hi]; exact nI_1 k0) (by exact hle) (by rw [← hR, dvL, dvStep, if_neg c_5, if_neg c_6, if_neg c_8, if_pos c_14]) hz hP hD hS (lv_sub hl [0, 7, 8, 9, 10, 11, 12] rfl)
                    · skip
                      refine lv_aload_n hx hb dT_divide_190 rfl (lv_at hl 9 rfl) ?_
                      refine va_get (D := g.1) (ci := 4) (v := .ref (ad 4)) (C := "NodeMaker$Tree") (T := Fd_T) (N := 16) hx hb ht i_T hown hK.1 hP 0 rfl rfl 9 (by decide) (ht _ q_114) (fun _ h9 => h9) rfl dT_divide_191 ?_
                      refine lv_iload hx hb dT_divide_194 (lv_at hl 7 rfl) ?_
                      refine lv_iload hx hb dT_divide_196 (lv_at hl 5 rfl) ?_
                      refine lv_iload hx hb dT_divide_198 (lv_at hl 0 rfl) ?_
                      refine lv_if_eq (tgt := 207) hx hb dT_divide_200 (by decide) (fun c_15 => ?_) (fun c_15 => ?_)
                      · skip
                        refine lv_iload hx hb dT_divide_207 (lv_at hl 4 rfl) ?_
                        refine lv_iload hx hb dT_divide_209 (lv_at hl 1 rfl) ?_
                        refine lv_if_eq (tgt := 223) hx hb dT_divide_211 (by decide) (fun c_16 => ?_) (fun c_16 => ?_)
                        · skip
                          refine lv_iload hx hb dT_divide_223 (lv_at hl 3 rfl) ?_
                          refine tp_set_10 ⟨hx, hb, hml, hown, ht⟩ q_381 ⟨Nat.le_of_ble_eq_true rfl, Nat.le_of_ble_eq_true rfl⟩ hK hz hP hD hS hA hl.1 (Nat.le_of_ble_eq_true rfl) dT_divide_225 ⟨by show mu (pAdd 13 (rAt (s9.2 10) i) (rAt (s9.2 11) i) (rAt (s9.2 12) i) s9).1 - mu s0.1 + 0 ≤ (mu ((sT_divide (wOf sl wv) fr ln k s0).1).1 - mu s0.1); omega, by show mu (pAdd 13 (rAt (s9.2 10) i) (rAt (s9.2 11) i) (rAt (s9.2 12) i) s9).1 - mu s0.1 + 0 ≤ (mu ((sT_divide (wOf sl wv) fr ln k s0).1).1 - mu s0.1); omega⟩ (fun q f H locs hz hP hD hS => ?_)
                          have hz : rowsT (pSet 10 re (rAt (s9.2 10) i) (rAt (s9.2 11) i) (rAt (s9.2 12) i) (pAdd 13 (rAt (s9.2 10) i) (rAt (s9.2 11) i) (rAt (s9.2 12) i) s9)).1 f (pSet 10 re (rAt (s9.2 10) i) (rAt (s9.2 11) i) (rAt (s9.2 12) i) (pAdd 13 (rAt (s9.2 10) i) (rAt (s9.2 11) i) (rAt (s9.2 12) i) s9)).2 := hz
                          have hP : va_P g.1 vwCl (TW g ad q (pSet 10 re (rAt (s9.2 10) i) (rAt (s9.2 11) i) (rAt (s9.2 12) i) (pAdd 13 (rAt (s9.2 10) i) (rAt (s9.2 11) i) (rAt (s9.2 12) i) s9)).1 f (pSet 10 re (rAt (s9.2 10) i) (rAt (s9.2 11) i) (rAt (s9.2 12) i) (pAdd 13 (rAt (s9.2 10) i) (rAt (s9.2 11) i) (rAt (s9.2 12) i) s9)).2 sl cnt h st LW wv) H := hP
                          have hD : va_D A (TW g ad q (pSet 10 re (rAt (s9.2 10) i) (rAt (s9.2 11) i) (rAt (s9.2 12) i) (pAdd 13 (rAt (s9.2 10) i) (rAt (s9.2 11) i) (rAt (s9.2 12) i) s9)).1 f (pSet 10 re (rAt (s9.2 10) i) (rAt (s9.2 11) i) (rAt (s9.2 12) i) (pAdd 13 (rAt (s9.2 10) i) (rAt (s9.2 11) i) (rAt (s9.2 12) i) s9)).2 sl cnt h st LW wv) := hD
                          have hle : mu s0.1 ≤ mu (pSet 10 re (rAt (s9.2 10) i) (rAt (s9.2 11) i) (rAt (s9.2 12) i) (pAdd 13 (rAt (s9.2 10) i) (rAt (s9.2 11) i) (rAt (s9.2 12) i) s9)).1 := hle
                          refine W.widen (k := mu (pSet 10 re (rAt (s9.2 10) i) (rAt (s9.2 11) i) (rAt (s9.2 12) i) (pAdd 13 (rAt (s9.2 10) i) (rAt (s9.2 11) i) (rAt (s9.2 12) i) s9)).1 - mu s0.1) (n := mu (pSet 10 re (rAt (s9.2 10) i) (rAt (s9.2 11) i) (rAt (s9.2 12) i) (pAdd 13 (rAt (s9.2 10) i) (rAt (s9.2 11) i) (rAt (s9.2 12) i) s9)).1 - mu s0.1) (Nat.le_refl _) (Nat.le_refl _) ?_
                          refine lv_iinc (v := re + 1) (lv' := [(5, .int (re + 1)), (12, .int 0), (11, .int 0), (10, .int (sT_whereLies s9.2 (wOf sl wv) ln i)), (9, .int (rAt (s9.2 12) i)), (8, .int (rAt (s9.2 11) i)), (7, .int (rAt (s9.2 10) i)), (6, .int i), (4, .int (nI (s0.2 10).length)), (0, .ref (ad 0)), (1, .int (nI fr)), (2, .int ln), (3, .int k)]) hx hb dT_divide_228 hl (k := 7) rfl rfl (by decide) rfl (fun ls hl => ?_)
                          refine lv_iinc (v := i + 1) (lv' := [(6, .int (i + 1)), (5, .int (re + 1)), (12, .int 0), (11, .int 0), (10, .int (sT_whereLies s9.2 (wOf sl wv) ln i)), (9, .int (rAt (s9.2 12) i)), (8, .int (rAt (s9.2 11) i)), (7, .int (rAt (s9.2 10) i)), (4, .int (nI (s0.2 10).length)), (0, .ref (ad 0)), (1, .int (nI fr)), (2, .int ln), (3, .int k)]) hx hb dT_divide_231 hl (k := 7) rfl rfl (by decide) rfl (fun ls hl => ?_)
                          refine lv_goto (tgt := 23) hx hb dT_divide_234 (by decide) ?_
                          exact ih (k0 + 1) (pSet 10 re (rAt (s9.2 10) i) (rAt (s9.2 11) i) (rAt (s9.2 12) i) (pAdd 13 (rAt (s9.2 10) i) (rAt (s9.2 11) i) (rAt (s9.2 12) i) s9)) (i + 1) (re + 1) q f H locs ls (by omega) (by rw [hi]; exact nI_1 k0) (by exact hle) (by rw [← hR, dvL, dvStep, if_neg c_5, if_neg c_6, if_neg c_8, if_neg c_14]) hz hP hD hS (lv_sub hl [0, 1, 8, 9, 10, 11, 12] rfl)
                        · skip
                          exact absurd (by decide) c_16
                      · skip
                        exact absurd (by decide) c_15
                  · skip
                    exact absurd (by decide) c_13
                · skip
                  exact absurd (by decide) c_12
            · skip
              exact absurd (by decide) c_7
          · skip
            refine lv_iconst (v := 1) hx hb dT_divide_107 (by decide) ?_
            refine lv_goto (tgt := 112) hx hb dT_divide_108 (by decide) ?_
            refine lv_istore (lv' := [(11, .int 1), (10, .int (sT_whereLies s9.2 (wOf sl wv) ln i)), (9, .int (rAt (s9.2 12) i)), (8, .int (rAt (s9.2 11) i)), (7, .int (rAt (s9.2 10) i)), (6, .int i), (5, .int re), (4, .int (nI (s0.2 10).length)), (0, .ref (ad 0)), (1, .int (nI fr)), (2, .int ln), (3, .int k)]) hx hb dT_divide_112 hl (by decide) rfl (fun ls hl => ?_)
            refine lv_iload hx hb dT_divide_114 (lv_at hl 0 rfl) ?_
            refine lv_if_eq (tgt := 137) hx hb dT_divide_116 (by decide) (fun c_17 => ?_) (fun c_17 => ?_)
            · skip
              exact absurd c_17 (by decide)
            · skip
              refine lv_aload_n hx hb dT_divide_119 rfl (lv_at hl 8 rfl) ?_
              refine lv_iload_n hx hb dT_divide_120 rfl (lv_at hl 10 rfl) ?_
              refine lv_iload hx hb dT_divide_121 (lv_at hl 4 rfl) ?_
              refine lv_iload hx hb dT_divide_123 (lv_at hl 3 rfl) ?_
              refine lv_iconst (v := 0) hx hb dT_divide_125 (by decide) ?_
              refine ro_Vi (v := sT_sideOfEnd s9.2 (wOf sl wv) ln (rAt (s9.2 10) i) (rAt (s9.2 11) i) 0) (As := [.int ln, .int (rAt (s9.2 10) i), .int (rAt (s9.2 11) i), .int 0]) (rest := []) ⟨hx, hb, hml, hown, ht⟩ (cT_sideOfEnd l g ad q s9.1 f s9.2 sl cnt h st LW wv hz hsl ln (rAt (s9.2 10) i) (rAt (s9.2 11) i) 0) (cwV 4 ht (g_V q_354 q_356 q_5 q_35 q_357) rfl rfl rfl hd_T_sideOfEnd ⟨Nat.le_of_ble_eq_true rfl, Nat.le_of_ble_eq_true rfl⟩) hK (hP) (va_recv hK.1 hP (ci := 4) (q0 := 0) rfl rfl) rfl hl.1 rfl (Nat.le_of_ble_eq_true rfl) dT_divide_126 ⟨by show mu s9.1 - mu s0.1 ≤ (mu ((sT_divide (wOf sl wv) fr ln k s0).1).1 - mu s0.1); omega, by show mu s9.1 - mu s0.1 ≤ (mu ((sT_divide (wOf sl wv) fr ln k s0).1).1 - mu s0.1); omega⟩ ?_
              refine lv_iconst (v := 1) hx hb dT_divide_129 (by decide) ?_
              refine lv_icmp_ne (tgt := 137) hx hb dT_divide_130 (by decide) (fun c_18 => ?_) (fun c_18 => ?_)
              · skip
                refine lv_iconst (v := 0) hx hb dT_divide_137 (by decide) ?_
                refine lv_istore (lv' := [(12, .int 0), (11, .int 1), (10, .int (sT_whereLies s9.2 (wOf sl wv) ln i)), (9, .int (rAt (s9.2 12) i)), (8, .int (rAt (s9.2 11) i)), (7, .int (rAt (s9.2 10) i)), (6, .int i), (5, .int re), (4, .int (nI (s0.2 10).length)), (0, .ref (ad 0)), (1, .int (nI fr)), (2, .int ln), (3, .int k)]) hx hb dT_divide_138 hl (by decide) rfl (fun ls hl => ?_)
                refine lv_iload hx hb dT_divide_140 (lv_at hl 2 rfl) ?_
                refine lv_iconst (v := 1) hx hb dT_divide_142 (by decide) ?_
                refine lv_iand hx hb dT_divide_143 ?_
                refine lv_if_eq (tgt := 183) hx hb dT_divide_144 (by decide) (fun c_19 => ?_) (fun c_19 => ?_)
                · skip
                  refine lv_iload hx hb dT_divide_183 (lv_at hl 2 rfl) ?_
                  refine lv_iconst (v := 2) hx hb dT_divide_185 (by decide) ?_
                  refine lv_iand hx hb dT_divide_186 ?_
                  refine lv_if_eq (tgt := 231) hx hb dT_divide_187 (by decide) (fun c_20 => ?_) (fun c_20 => ?_)
                  · skip
                    refine lv_iinc (v := i + 1) (lv' := [(6, .int (i + 1)), (12, .int 0), (11, .int 1), (10, .int (sT_whereLies s9.2 (wOf sl wv) ln i)), (9, .int (rAt (s9.2 12) i)), (8, .int (rAt (s9.2 11) i)), (7, .int (rAt (s9.2 10) i)), (5, .int re), (4, .int (nI (s0.2 10).length)), (0, .ref (ad 0)), (1, .int (nI fr)), (2, .int ln), (3, .int k)]) hx hb dT_divide_231 hl (k := 6) rfl rfl (by decide) rfl (fun ls hl => ?_)
                    refine lv_goto (tgt := 23) hx hb dT_divide_234 (by decide) ?_
                    exact ih (k0 + 1) s9 (i + 1) re q f H locs ls (by omega) (by rw [hi]; exact nI_1 k0) (by exact hle) (by rw [← hR, dvL, dvStep, if_neg c_5, if_pos c_6, if_neg c_18, if_pos c_19, if_pos c_20]) hz hP hD hS (lv_sub hl [0, 7, 8, 9, 10, 11, 12] rfl)
                  · skip
                    refine lv_aload_n hx hb dT_divide_190 rfl (lv_at hl 9 rfl) ?_
                    refine va_get (D := g.1) (ci := 4) (v := .ref (ad 4)) (C := "NodeMaker$Tree") (T := Fd_T) (N := 16) hx hb ht i_T hown hK.1 hP 0 rfl rfl 9 (by decide) (ht _ q_114) (fun _ h9 => h9) rfl dT_divide_191 ?_
                    refine lv_iload hx hb dT_divide_194 (lv_at hl 7 rfl) ?_
                    refine lv_iload hx hb dT_divide_196 (lv_at hl 5 rfl) ?_
                    refine lv_iload hx hb dT_divide_198 (lv_at hl 0 rfl) ?_
                    refine lv_if_eq (tgt := 207) hx hb dT_divide_200 (by decide) (fun c_21 => ?_) (fun c_21 => ?_)
                    · skip
                      refine lv_iload hx hb dT_divide_207 (lv_at hl 4 rfl) ?_
                      refine lv_iload hx hb dT_divide_209 (lv_at hl 1 rfl) ?_
                      refine lv_if_eq (tgt := 223) hx hb dT_divide_211 (by decide) (fun c_22 => ?_) (fun c_22 => ?_)
                      · skip
                        exact absurd c_22 (by decide)
                      · skip
                        refine lv_iload hx hb dT_divide_214 (lv_at hl 0 rfl) ?_
                        refine lv_if_ne (tgt := 223) hx hb dT_divide_216 (by decide) (fun c_23 => ?_) (fun c_23 => ?_)
                        · skip
                          exact absurd (by decide) c_23
                        · skip
                          refine lv_iload_n hx hb dT_divide_219 rfl (lv_at hl 11 rfl) ?_
                          refine lv_goto (tgt := 225) hx hb dT_divide_220 (by decide) ?_
                          refine tp_set_10 ⟨hx, hb, hml, hown, ht⟩ q_381 ⟨Nat.le_of_ble_eq_true rfl, Nat.le_of_ble_eq_true rfl⟩ hK hz hP hD hS hA hl.1 (Nat.le_of_ble_eq_true rfl) dT_divide_225 ⟨by show mu s9.1 - mu s0.1 + 0 ≤ (mu ((sT_divide (wOf sl wv) fr ln k s0).1).1 - mu s0.1); omega, by show mu s9.1 - mu s0.1 + 0 ≤ (mu ((sT_divide (wOf sl wv) fr ln k s0).1).1 - mu s0.1); omega⟩ (fun q f H locs hz hP hD hS => ?_)
                          have hz : rowsT (pSet 10 re (rAt (s9.2 10) i) (rAt (s9.2 11) i) ln s9).1 f (pSet 10 re (rAt (s9.2 10) i) (rAt (s9.2 11) i) ln s9).2 := hz
                          have hP : va_P g.1 vwCl (TW g ad q (pSet 10 re (rAt (s9.2 10) i) (rAt (s9.2 11) i) ln s9).1 f (pSet 10 re (rAt (s9.2 10) i) (rAt (s9.2 11) i) ln s9).2 sl cnt h st LW wv) H := hP
                          have hD : va_D A (TW g ad q (pSet 10 re (rAt (s9.2 10) i) (rAt (s9.2 11) i) ln s9).1 f (pSet 10 re (rAt (s9.2 10) i) (rAt (s9.2 11) i) ln s9).2 sl cnt h st LW wv) := hD
                          have hle : mu s0.1 ≤ mu (pSet 10 re (rAt (s9.2 10) i) (rAt (s9.2 11) i) ln s9).1 := hle
                          refine W.widen (k := mu (pSet 10 re (rAt (s9.2 10) i) (rAt (s9.2 11) i) ln s9).1 - mu s0.1) (n := mu (pSet 10 re (rAt (s9.2 10) i) (rAt (s9.2 11) i) ln s9).1 - mu s0.1) (Nat.le_refl _) (Nat.le_refl _) ?_
                          refine lv_iinc (v := re + 1) (lv' := [(5, .int (re + 1)), (12, .int 0), (11, .int 1), (10, .int (sT_whereLies s9.2 (wOf sl wv) ln i)), (9, .int (rAt (s9.2 12) i)), (8, .int (rAt (s9.2 11) i)), (7, .int (rAt (s9.2 10) i)), (6, .int i), (4, .int (nI (s0.2 10).length)), (0, .ref (ad 0)), (1, .int (nI fr)), (2, .int ln), (3, .int k)]) hx hb dT_divide_228 hl (k := 7) rfl rfl (by decide) rfl (fun ls hl => ?_)
                          refine lv_iinc (v := i + 1) (lv' := [(6, .int (i + 1)), (5, .int (re + 1)), (12, .int 0), (11, .int 1), (10, .int (sT_whereLies s9.2 (wOf sl wv) ln i)), (9, .int (rAt (s9.2 12) i)), (8, .int (rAt (s9.2 11) i)), (7, .int (rAt (s9.2 10) i)), (4, .int (nI (s0.2 10).length)), (0, .ref (ad 0)), (1, .int (nI fr)), (2, .int ln), (3, .int k)]) hx hb dT_divide_231 hl (k := 7) rfl rfl (by decide) rfl (fun ls hl => ?_)
                          refine lv_goto (tgt := 23) hx hb dT_divide_234 (by decide) ?_
                          exact ih (k0 + 1) (pSet 10 re (rAt (s9.2 10) i) (rAt (s9.2 11) i) ln s9) (i + 1) (re + 1) q f H locs ls (by omega) (by rw [hi]; exact nI_1 k0) (by exact hle) (by rw [← hR, dvL, dvStep, if_neg c_5, if_pos c_6, if_neg c_18, if_pos c_19, if_neg c_20]) hz hP hD hS (lv_sub hl [0, 1, 8, 9, 10, 11, 12] rfl)
                    · skip
                      exact absurd (by decide) c_21
                · skip
                  refine lv_aload_n hx hb dT_divide_147 rfl (lv_at hl 9 rfl) ?_
                  refine va_get (D := g.1) (ci := 4) (v := .ref (ad 5)) (C := "NodeMaker$Tree") (T := Fd_T) (N := 16) hx hb ht i_T hown hK.1 hP 0 rfl rfl 13 (by decide) (ht _ q_118) (fun _ h9 => h9) rfl dT_divide_148 ?_
                  refine lv_iload hx hb dT_divide_151 (lv_at hl 5 rfl) ?_
                  refine lv_iload hx hb dT_divide_153 (lv_at hl 1 rfl) ?_
                  refine lv_if_eq (tgt := 167) hx hb dT_divide_155 (by decide) (fun c_24 => ?_) (fun c_24 => ?_)
                  · skip
                    exact absurd c_24 (by decide)
                  · skip
                    refine lv_iload hx hb dT_divide_158 (lv_at hl 0 rfl) ?_
                    refine lv_if_ne (tgt := 167) hx hb dT_divide_160 (by decide) (fun c_25 => ?_) (fun c_25 => ?_)
                    · skip
                      exact absurd (by decide) c_25
                    · skip
                      refine lv_iload_n hx hb dT_divide_163 rfl (lv_at hl 11 rfl) ?_
                      refine lv_goto (tgt := 169) hx hb dT_divide_164 (by decide) ?_
                      refine lv_iload hx hb dT_divide_169 (lv_at hl 0 rfl) ?_
                      refine lv_if_eq (tgt := 178) hx hb dT_divide_171 (by decide) (fun c_26 => ?_) (fun c_26 => ?_)
                      · skip
                        refine lv_iload hx hb dT_divide_178 (lv_at hl 3 rfl) ?_
                        have hmu : mu (pAdd 13 (rAt (s9.2 10) i) ln (rAt (s9.2 12) i) s9).1 = mu s9.1 + (aUse (s9.1 13) (s9.2 13) + aUse (s9.1 14) (s9.2 14) + aUse (s9.1 15) (s9.2 15)) := mu_pAdd (K := 13) (v0 := (rAt (s9.2 10) i)) (v1 := ln) (v2 := (rAt (s9.2 12) i)) (s := s9) (by decide)
                        have hfit : mu (pAdd 13 (rAt (s9.2 10) i) ln (rAt (s9.2 12) i) s9).1 ≤ mu ((sT_divide (wOf sl wv) fr ln k s0).1).1 := Nat.le_trans (by rw [dvStep, if_neg c_5, if_pos c_6, if_neg c_18, if_neg c_19]; (repeat' split) <;> (try simp only [mu_pSet]) <;> with_reducible first | exact Nat.le_refl _ | exact mu_oAdd_le (by decide)) hst
                        refine tp_add_13 ⟨hx, hb, hml, hown, ht⟩ q_285 ⟨Nat.le_of_ble_eq_true rfl, Nat.le_of_ble_eq_true rfl⟩ hK hz hP hD hS hA hl.1 (Nat.le_of_ble_eq_true rfl) dT_divide_180 ⟨by show mu s9.1 - mu s0.1 + (aUse (s9.1 13) (s9.2 13) + aUse (s9.1 14) (s9.2 14) + aUse (s9.1 15) (s9.2 15)) ≤ (mu ((sT_divide (wOf sl wv) fr ln k s0).1).1 - mu s0.1); omega, by show mu s9.1 - mu s0.1 + (aUse (s9.1 13) (s9.2 13) + aUse (s9.1 14) (s9.2 14) + aUse (s9.1 15) (s9.2 15)) ≤ (mu ((sT_divide (wOf sl wv) fr ln k s0).1).1 - mu s0.1); omega⟩ (fun q f H locs hz hP hD hS => ?_)
                        have hz : rowsT (pAdd 13 (rAt (s9.2 10) i) ln (rAt (s9.2 12) i) s9).1 f (pAdd 13 (rAt (s9.2 10) i) ln (rAt (s9.2 12) i) s9).2 := hz
                        have hP : va_P g.1 vwCl (TW g ad q (pAdd 13 (rAt (s9.2 10) i) ln (rAt (s9.2 12) i) s9).1 f (pAdd 13 (rAt (s9.2 10) i) ln (rAt (s9.2 12) i) s9).2 sl cnt h st LW wv) H := hP
                        have hD : va_D A (TW g ad q (pAdd 13 (rAt (s9.2 10) i) ln (rAt (s9.2 12) i) s9).1 f (pAdd 13 (rAt (s9.2 10) i) ln (rAt (s9.2 12) i) s9).2 sl cnt h st LW wv) := hD
                        have hle : mu s0.1 ≤ mu (pAdd 13 (rAt (s9.2 10) i) ln (rAt (s9.2 12) i) s9).1 := by omega
                        refine W.widen (k := mu (pAdd 13 (rAt (s9.2 10) i) ln (rAt (s9.2 12) i) s9).1 - mu s0.1) (n := mu (pAdd 13 (rAt (s9.2 10) i) ln (rAt (s9.2 12) i) s9).1 - mu s0.1) (by omega) (by omega) ?_
                        refine lv_iload hx hb dT_divide_183 (lv_at hl 2 rfl) ?_
                        refine lv_iconst (v := 2) hx hb dT_divide_185 (by decide) ?_
                        refine lv_iand hx hb dT_divide_186 ?_
                        refine lv_if_eq (tgt := 231) hx hb dT_divide_187 (by decide) (fun c_27 => ?_) (fun c_27 => ?_)
                        · skip
                          refine lv_iinc (v := i + 1) (lv' := [(6, .int (i + 1)), (12, .int 0), (11, .int 1), (10, .int (sT_whereLies s9.2 (wOf sl wv) ln i)), (9, .int (rAt (s9.2 12) i)), (8, .int (rAt (s9.2 11) i)), (7, .int (rAt (s9.2 10) i)), (5, .int re), (4, .int (nI (s0.2 10).length)), (0, .ref (ad 0)), (1, .int (nI fr)), (2, .int ln), (3, .int k)]) hx hb dT_divide_231 hl (k := 6) rfl rfl (by decide) rfl (fun ls hl => ?_)
                          refine lv_goto (tgt := 23) hx hb dT_divide_234 (by decide) ?_
                          exact ih (k0 + 1) (pAdd 13 (rAt (s9.2 10) i) ln (rAt (s9.2 12) i) s9) (i + 1) re q f H locs ls (by omega) (by rw [hi]; exact nI_1 k0) (by exact hle) (by rw [← hR, dvL, dvStep, if_neg c_5, if_pos c_6, if_neg c_18, if_neg c_19, if_pos c_27]) hz hP hD hS (lv_sub hl [0, 7, 8, 9, 10, 11, 12] rfl)
                        · skip
                          refine lv_aload_n hx hb dT_divide_190 rfl (lv_at hl 9 rfl) ?_
                          refine va_get (D := g.1) (ci := 4) (v := .ref (ad 4)) (C := "NodeMaker$Tree") (T := Fd_T) (N := 16) hx hb ht i_T hown hK.1 hP 0 rfl rfl 9 (by decide) (ht _ q_114) (fun _ h9 => h9) rfl dT_divide_191 ?_
                          refine lv_iload hx hb dT_divide_194 (lv_at hl 7 rfl) ?_
                          refine lv_iload hx hb dT_divide_196 (lv_at hl 5 rfl) ?_
                          refine lv_iload hx hb dT_divide_198 (lv_at hl 0 rfl) ?_
                          refine lv_if_eq (tgt := 207) hx hb dT_divide_200 (by decide) (fun c_28 => ?_) (fun c_28 => ?_)
                          · skip
                            refine lv_iload hx hb dT_divide_207 (lv_at hl 4 rfl) ?_
                            refine lv_iload hx hb dT_divide_209 (lv_at hl 1 rfl) ?_
                            refine lv_if_eq (tgt := 223) hx hb dT_divide_211 (by decide) (fun c_29 => ?_) (fun c_29 => ?_)
                            · skip
                              exact absurd c_29 (by decide)
                            · skip
                              refine lv_iload hx hb dT_divide_214 (lv_at hl 0 rfl) ?_
                              refine lv_if_ne (tgt := 223) hx hb dT_divide_216 (by decide) (fun c_30 => ?_) (fun c_30 => ?_)
                              · skip
                                exact absurd (by decide) c_30
                              · skip
                                refine lv_iload_n hx hb dT_divide_219 rfl (lv_at hl 11 rfl) ?_
                                refine lv_goto (tgt := 225) hx hb dT_divide_220 (by decide) ?_
                                refine tp_set_10 ⟨hx, hb, hml, hown, ht⟩ q_381 ⟨Nat.le_of_ble_eq_true rfl, Nat.le_of_ble_eq_true rfl⟩ hK hz hP hD hS hA hl.1 (Nat.le_of_ble_eq_true rfl) dT_divide_225 ⟨by show mu (pAdd 13 (rAt (s9.2 10) i) ln (rAt (s9.2 12) i) s9).1 - mu s0.1 + 0 ≤ (mu ((sT_divide (wOf sl wv) fr ln k s0).1).1 - mu s0.1); omega, by show mu (pAdd 13 (rAt (s9.2 10) i) ln (rAt (s9.2 12) i) s9).1 - mu s0.1 + 0 ≤ (mu ((sT_divide (wOf sl wv) fr ln k s0).1).1 - mu s0.1); omega⟩ (fun q f H locs hz hP hD hS => ?_)
                                have hz : rowsT (pSet 10 re (rAt (s9.2 10) i) (rAt (s9.2 11) i) ln (pAdd 13 (rAt (s9.2 10) i) ln (rAt (s9.2 12) i) s9)).1 f (pSet 10 re (rAt (s9.2 10) i) (rAt (s9.2 11) i) ln (pAdd 13 (rAt (s9.2 10) i) ln (rAt (s9.2 12) i) s9)).2 := hz
                                have hP : va_P g.1 vwCl (TW g ad q (pSet 10 re (rAt (s9.2 10) i) (rAt (s9.2 11) i) ln (pAdd 13 (rAt (s9.2 10) i) ln (rAt (s9.2 12) i) s9)).1 f (pSet 10 re (rAt (s9.2 10) i) (rAt (s9.2 11) i) ln (pAdd 13 (rAt (s9.2 10) i) ln (rAt (s9.2 12) i) s9)).2 sl cnt h st LW wv) H := hP
                                have hD : va_D A (TW g ad q (pSet 10 re (rAt (s9.2 10) i) (rAt (s9.2 11) i) ln (pAdd 13 (rAt (s9.2 10) i) ln (rAt (s9.2 12) i) s9)).1 f (pSet 10 re (rAt (s9.2 10) i) (rAt (s9.2 11) i) ln (pAdd 13 (rAt (s9.2 10) i) ln (rAt (s9.2 12) i) s9)).2 sl cnt h st LW wv) := hD
                                have hle : mu s0.1 ≤ mu (pSet 10 re (rAt (s9.2 10) i) (rAt (s9.2 11) i) ln (pAdd 13 (rAt (s9.2 10) i) ln (rAt (s9.2 12) i) s9)).1 := hle
                                refine W.widen (k := mu (pSet 10 re (rAt (s9.2 10) i) (rAt (s9.2 11) i) ln (pAdd 13 (rAt (s9.2 10) i) ln (rAt (s9.2 12) i) s9)).1 - mu s0.1) (n := mu (pSet 10 re (rAt (s9.2 10) i) (rAt (s9.2 11) i) ln (pAdd 13 (rAt (s9.2 10) i) ln (rAt (s9.2 12) i) s9)).1 - mu s0.1) (Nat.le_refl _) (Nat.le_refl _) ?_
                                refine lv_iinc (v := re + 1) (lv' := [(5, .int (re + 1)), (12, .int 0), (11, .int 1), (10, .int (sT_whereLies s9.2 (wOf sl wv) ln i)), (9, .int (rAt (s9.2 12) i)), (8, .int (rAt (s9.2 11) i)), (7, .int (rAt (s9.2 10) i)), (6, .int i), (4, .int (nI (s0.2 10).length)), (0, .ref (ad 0)), (1, .int (nI fr)), (2, .int ln), (3, .int k)]) hx hb dT_divide_228 hl (k := 7) rfl rfl (by decide) rfl (fun ls hl => ?_)
                                refine lv_iinc (v := i + 1) (lv' := [(6, .int (i + 1)), (5, .int (re + 1)), (12, .int 0), (11, .int 1), (10, .int (sT_whereLies s9.2 (wOf sl wv) ln i)), (9, .int (rAt (s9.2 12) i)), (8, .int (rAt (s9.2 11) i)), (7, .int (rAt (s9.2 10) i)), (4, .int (nI (s0.2 10).length)), (0, .ref (ad 0)), (1, .int (nI fr)), (2, .int ln), (3, .int k)]) hx hb dT_divide_231 hl (k := 7) rfl rfl (by decide) rfl (fun ls hl => ?_)
                                refine lv_goto (tgt := 23) hx hb dT_divide_234 (by decide) ?_
                                exact ih (k0 + 1) (pSet 10 re (rAt (s9.2 10) i) (rAt (s9.2 11) i) ln (pAdd 13 (rAt (s9.2 10) i) ln (rAt (s9.2 12) i) s9)) (i + 1) (re + 1) q f H locs ls (by omega) (by rw [hi]; exact nI_1 k0) (by exact hle) (by rw [← hR, dvL, dvStep, if_neg c_5, if_pos c_6, if_neg c_18, if_neg c_19, if_neg c_27]) hz hP hD hS (lv_sub hl [0, 1, 8, 9, 10, 11, 12] rfl)
                          · skip
                            exact absurd (by decide) c_28
                      · skip
                        exact absurd (by decide) c_26
              · skip
                refine lv_iconst (v := 1) hx hb dT_divide_133 (by decide) ?_
                refine lv_goto (tgt := 138) hx hb dT_divide_134 (by decide) ?_
                refine lv_istore (lv' := [(12, .int 1), (11, .int 1), (10, .int (sT_whereLies s9.2 (wOf sl wv) ln i)), (9, .int (rAt (s9.2 12) i)), (8, .int (rAt (s9.2 11) i)), (7, .int (rAt (s9.2 10) i)), (6, .int i), (5, .int re), (4, .int (nI (s0.2 10).length)), (0, .ref (ad 0)), (1, .int (nI fr)), (2, .int ln), (3, .int k)]) hx hb dT_divide_138 hl (by decide) rfl (fun ls hl => ?_)
                refine lv_iload hx hb dT_divide_140 (lv_at hl 2 rfl) ?_
                refine lv_iconst (v := 1) hx hb dT_divide_142 (by decide) ?_
                refine lv_iand hx hb dT_divide_143 ?_
                refine lv_if_eq (tgt := 183) hx hb dT_divide_144 (by decide) (fun c_31 => ?_) (fun c_31 => ?_)
                · skip
                  refine lv_iload hx hb dT_divide_183 (lv_at hl 2 rfl) ?_
                  refine lv_iconst (v := 2) hx hb dT_divide_185 (by decide) ?_
                  refine lv_iand hx hb dT_divide_186 ?_
                  refine lv_if_eq (tgt := 231) hx hb dT_divide_187 (by decide) (fun c_32 => ?_) (fun c_32 => ?_)
                  · skip
                    refine lv_iinc (v := i + 1) (lv' := [(6, .int (i + 1)), (12, .int 1), (11, .int 1), (10, .int (sT_whereLies s9.2 (wOf sl wv) ln i)), (9, .int (rAt (s9.2 12) i)), (8, .int (rAt (s9.2 11) i)), (7, .int (rAt (s9.2 10) i)), (5, .int re), (4, .int (nI (s0.2 10).length)), (0, .ref (ad 0)), (1, .int (nI fr)), (2, .int ln), (3, .int k)]) hx hb dT_divide_231 hl (k := 6) rfl rfl (by decide) rfl (fun ls hl => ?_)
                    refine lv_goto (tgt := 23) hx hb dT_divide_234 (by decide) ?_
                    exact ih (k0 + 1) s9 (i + 1) re q f H locs ls (by omega) (by rw [hi]; exact nI_1 k0) (by exact hle) (by rw [← hR, dvL, dvStep, if_neg c_5, if_pos c_6, if_pos c_18, if_pos c_31, if_pos c_32]) hz hP hD hS (lv_sub hl [0, 7, 8, 9, 10, 11, 12] rfl)
                  · skip
                    refine lv_aload_n hx hb dT_divide_190 rfl (lv_at hl 9 rfl) ?_
                    refine va_get (D := g.1) (ci := 4) (v := .ref (ad 4)) (C := "NodeMaker$Tree") (T := Fd_T) (N := 16) hx hb ht i_T hown hK.1 hP 0 rfl rfl 9 (by decide) (ht _ q_114) (fun _ h9 => h9) rfl dT_divide_191 ?_
                    refine lv_iload hx hb dT_divide_194 (lv_at hl 7 rfl) ?_
                    refine lv_iload hx hb dT_divide_196 (lv_at hl 5 rfl) ?_
                    refine lv_iload hx hb dT_divide_198 (lv_at hl 0 rfl) ?_
                    refine lv_if_eq (tgt := 207) hx hb dT_divide_200 (by decide) (fun c_33 => ?_) (fun c_33 => ?_)
                    · skip
                      exact absurd c_33 (by decide)
                    · skip
                      refine lv_iload_n hx hb dT_divide_203 rfl (lv_at hl 11 rfl) ?_
                      refine lv_goto (tgt := 209) hx hb dT_divide_204 (by decide) ?_
                      refine lv_iload hx hb dT_divide_209 (lv_at hl 1 rfl) ?_
                      refine lv_if_eq (tgt := 223) hx hb dT_divide_211 (by decide) (fun c_34 => ?_) (fun c_34 => ?_)
                      · skip
                        exact absurd c_34 (by decide)
                      · skip
                        refine lv_iload hx hb dT_divide_214 (lv_at hl 0 rfl) ?_
                        refine lv_if_ne (tgt := 223) hx hb dT_divide_216 (by decide) (fun c_35 => ?_) (fun c_35 => ?_)
                        · skip
                          refine lv_iload hx hb dT_divide_223 (lv_at hl 3 rfl) ?_
                          refine tp_set_10 ⟨hx, hb, hml, hown, ht⟩ q_381 ⟨Nat.le_of_ble_eq_true rfl, Nat.le_of_ble_eq_true rfl⟩ hK hz hP hD hS hA hl.1 (Nat.le_of_ble_eq_true rfl) dT_divide_225 ⟨by show mu s9.1 - mu s0.1 + 0 ≤ (mu ((sT_divide (wOf sl wv) fr ln k s0).1).1 - mu s0.1); omega, by show mu s9.1 - mu s0.1 + 0 ≤ (mu ((sT_divide (wOf sl wv) fr ln k s0).1).1 - mu s0.1); omega⟩ (fun q f H locs hz hP hD hS => ?_)
                          have hz : rowsT (pSet 10 re (rAt (s9.2 10) i) ln (rAt (s9.2 12) i) s9).1 f (pSet 10 re (rAt (s9.2 10) i) ln (rAt (s9.2 12) i) s9).2 := hz
                          have hP : va_P g.1 vwCl (TW g ad q (pSet 10 re (rAt (s9.2 10) i) ln (rAt (s9.2 12) i) s9).1 f (pSet 10 re (rAt (s9.2 10) i) ln (rAt (s9.2 12) i) s9).2 sl cnt h st LW wv) H := hP
                          have hD : va_D A (TW g ad q (pSet 10 re (rAt (s9.2 10) i) ln (rAt (s9.2 12) i) s9).1 f (pSet 10 re (rAt (s9.2 10) i) ln (rAt (s9.2 12) i) s9).2 sl cnt h st LW wv) := hD
                          have hle : mu s0.1 ≤ mu (pSet 10 re (rAt (s9.2 10) i) ln (rAt (s9.2 12) i) s9).1 := hle
                          refine W.widen (k := mu (pSet 10 re (rAt (s9.2 10) i) ln (rAt (s9.2 12) i) s9).1 - mu s0.1) (n := mu (pSet 10 re (rAt (s9.2 10) i) ln (rAt (s9.2 12) i) s9).1 - mu s0.1) (Nat.le_refl _) (Nat.le_refl _) ?_
                          refine lv_iinc (v := re + 1) (lv' := [(5, .int (re + 1)), (12, .int 1), (11, .int 1), (10, .int (sT_whereLies s9.2 (wOf sl wv) ln i)), (9, .int (rAt (s9.2 12) i)), (8, .int (rAt (s9.2 11) i)), (7, .int (rAt (s9.2 10) i)), (6, .int i), (4, .int (nI (s0.2 10).length)), (0, .ref (ad 0)), (1, .int (nI fr)), (2, .int ln), (3, .int k)]) hx hb dT_divide_228 hl (k := 7) rfl rfl (by decide) rfl (fun ls hl => ?_)
                          refine lv_iinc (v := i + 1) (lv' := [(6, .int (i + 1)), (5, .int (re + 1)), (12, .int 1), (11, .int 1), (10, .int (sT_whereLies s9.2 (wOf sl wv) ln i)), (9, .int (rAt (s9.2 12) i)), (8, .int (rAt (s9.2 11) i)), (7, .int (rAt (s9.2 10) i)), (4, .int (nI (s0.2 10).length)), (0, .ref (ad 0)), (1, .int (nI fr)), (2, .int ln), (3, .int k)]) hx hb dT_divide_231 hl (k := 7) rfl rfl (by decide) rfl (fun ls hl => ?_)
                          refine lv_goto (tgt := 23) hx hb dT_divide_234 (by decide) ?_
                          exact ih (k0 + 1) (pSet 10 re (rAt (s9.2 10) i) ln (rAt (s9.2 12) i) s9) (i + 1) (re + 1) q f H locs ls (by omega) (by rw [hi]; exact nI_1 k0) (by exact hle) (by rw [← hR, dvL, dvStep, if_neg c_5, if_pos c_6, if_pos c_18, if_pos c_31, if_neg c_32]) hz hP hD hS (lv_sub hl [0, 1, 8, 9, 10, 11, 12] rfl)
                        · skip
                          exact absurd c_35 (by decide)
                · skip
                  refine lv_aload_n hx hb dT_divide_147 rfl (lv_at hl 9 rfl) ?_
                  refine va_get (D := g.1) (ci := 4) (v := .ref (ad 5)) (C := "NodeMaker$Tree") (T := Fd_T) (N := 16) hx hb ht i_T hown hK.1 hP 0 rfl rfl 13 (by decide) (ht _ q_118) (fun _ h9 => h9) rfl dT_divide_148 ?_
                  refine lv_iload hx hb dT_divide_151 (lv_at hl 5 rfl) ?_
                  refine lv_iload hx hb dT_divide_153 (lv_at hl 1 rfl) ?_
                  refine lv_if_eq (tgt := 167) hx hb dT_divide_155 (by decide) (fun c_36 => ?_) (fun c_36 => ?_)
                  · skip
                    exact absurd c_36 (by decide)
                  · skip
                    refine lv_iload hx hb dT_divide_158 (lv_at hl 0 rfl) ?_
                    refine lv_if_ne (tgt := 167) hx hb dT_divide_160 (by decide) (fun c_37 => ?_) (fun c_37 => ?_)
                    · skip
                      refine lv_iload hx hb dT_divide_167 (lv_at hl 4 rfl) ?_
                      refine lv_iload hx hb dT_divide_169 (lv_at hl 0 rfl) ?_
                      refine lv_if_eq (tgt := 178) hx hb dT_divide_171 (by decide) (fun c_38 => ?_) (fun c_38 => ?_)
                      · skip
                        exact absurd c_38 (by decide)
                      · skip
                        refine lv_iload_n hx hb dT_divide_174 rfl (lv_at hl 11 rfl) ?_
                        refine lv_goto (tgt := 180) hx hb dT_divide_175 (by decide) ?_
                        have hmu : mu (pAdd 13 (rAt (s9.2 10) i) (rAt (s9.2 11) i) ln s9).1 = mu s9.1 + (aUse (s9.1 13) (s9.2 13) + aUse (s9.1 14) (s9.2 14) + aUse (s9.1 15) (s9.2 15)) := mu_pAdd (K := 13) (v0 := (rAt (s9.2 10) i)) (v1 := (rAt (s9.2 11) i)) (v2 := ln) (s := s9) (by decide)
                        have hfit : mu (pAdd 13 (rAt (s9.2 10) i) (rAt (s9.2 11) i) ln s9).1 ≤ mu ((sT_divide (wOf sl wv) fr ln k s0).1).1 := Nat.le_trans (by rw [dvStep, if_neg c_5, if_pos c_6, if_pos c_18, if_neg c_31]; (repeat' split) <;> (try simp only [mu_pSet]) <;> with_reducible first | exact Nat.le_refl _ | exact mu_oAdd_le (by decide)) hst
                        refine tp_add_13 ⟨hx, hb, hml, hown, ht⟩ q_285 ⟨Nat.le_of_ble_eq_true rfl, Nat.le_of_ble_eq_true rfl⟩ hK hz hP hD hS hA hl.1 (Nat.le_of_ble_eq_true rfl) dT_divide_180 ⟨by show mu s9.1 - mu s0.1 + (aUse (s9.1 13) (s9.2 13) + aUse (s9.1 14) (s9.2 14) + aUse (s9.1 15) (s9.2 15)) ≤ (mu ((sT_divide (wOf sl wv) fr ln k s0).1).1 - mu s0.1); omega, by show mu s9.1 - mu s0.1 + (aUse (s9.1 13) (s9.2 13) + aUse (s9.1 14) (s9.2 14) + aUse (s9.1 15) (s9.2 15)) ≤ (mu ((sT_divide (wOf sl wv) fr ln k s0).1).1 - mu s0.1); omega⟩ (fun q f H locs hz hP hD hS => ?_)
                        have hz : rowsT (pAdd 13 (rAt (s9.2 10) i) (rAt (s9.2 11) i) ln s9).1 f (pAdd 13 (rAt (s9.2 10) i) (rAt (s9.2 11) i) ln s9).2 := hz
                        have hP : va_P g.1 vwCl (TW g ad q (pAdd 13 (rAt (s9.2 10) i) (rAt (s9.2 11) i) ln s9).1 f (pAdd 13 (rAt (s9.2 10) i) (rAt (s9.2 11) i) ln s9).2 sl cnt h st LW wv) H := hP
                        have hD : va_D A (TW g ad q (pAdd 13 (rAt (s9.2 10) i) (rAt (s9.2 11) i) ln s9).1 f (pAdd 13 (rAt (s9.2 10) i) (rAt (s9.2 11) i) ln s9).2 sl cnt h st LW wv) := hD
                        have hle : mu s0.1 ≤ mu (pAdd 13 (rAt (s9.2 10) i) (rAt (s9.2 11) i) ln s9).1 := by omega
                        refine W.widen (k := mu (pAdd 13 (rAt (s9.2 10) i) (rAt (s9.2 11) i) ln s9).1 - mu s0.1) (n := mu (pAdd 13 (rAt (s9.2 10) i) (rAt (s9.2 11) i) ln s9).1 - mu s0.1) (by omega) (by omega) ?_
                        refine lv_iload hx hb dT_divide_183 (lv_at hl 2 rfl) ?_
                        refine lv_iconst (v := 2) hx hb dT_divide_185 (by decide) ?_
                        refine lv_iand hx hb dT_divide_186 ?_
                        refine lv_if_eq (tgt := 231) hx hb dT_divide_187 (by decide) (fun c_39 => ?_) (fun c_39 => ?_)
                        · skip
                          refine lv_iinc (v := i + 1) (lv' := [(6, .int (i + 1)), (12, .int 1), (11, .int 1), (10, .int (sT_whereLies s9.2 (wOf sl wv) ln i)), (9, .int (rAt (s9.2 12) i)), (8, .int (rAt (s9.2 11) i)), (7, .int (rAt (s9.2 10) i)), (5, .int re), (4, .int (nI (s0.2 10).length)), (0, .ref (ad 0)), (1, .int (nI fr)), (2, .int ln), (3, .int k)]) hx hb dT_divide_231 hl (k := 6) rfl rfl (by decide) rfl (fun ls hl => ?_)
                          refine lv_goto (tgt := 23) hx hb dT_divide_234 (by decide) ?_
                          exact ih (k0 + 1) (pAdd 13 (rAt (s9.2 10) i) (rAt (s9.2 11) i) ln s9) (i + 1) re q f H locs ls (by omega) (by rw [hi]; exact nI_1 k0) (by exact hle) (by rw [← hR, dvL, dvStep, if_neg c_5, if_pos c_6, if_pos c_18, if_neg c_31, if_pos c_39]) hz hP hD hS (lv_sub hl [0, 7, 8, 9, 10, 11, 12] rfl)
                        · skip
                          refine lv_aload_n hx hb dT_divide_190 rfl (lv_at hl 9 rfl) ?_
                          refine va_get (D := g.1) (ci := 4) (v := .ref (ad 4)) (C := "NodeMaker$Tree") (T := Fd_T) (N := 16) hx hb ht i_T hown hK.1 hP 0 rfl rfl 9 (by decide) (ht _ q_114) (fun _ h9 => h9) rfl dT_divide_191 ?_
                          refine lv_iload hx hb dT_divide_194 (lv_at hl 7 rfl) ?_
                          refine lv_iload hx hb dT_divide_196 (lv_at hl 5 rfl) ?_
                          refine lv_iload hx hb dT_divide_198 (lv_at hl 0 rfl) ?_
                          refine lv_if_eq (tgt := 207) hx hb dT_divide_200 (by decide) (fun c_40 => ?_) (fun c_40 => ?_)
                          · skip
                            exact absurd c_40 (by decide)
                          · skip
                            refine lv_iload_n hx hb dT_divide_203 rfl (lv_at hl 11 rfl) ?_
                            refine lv_goto (tgt := 209) hx hb dT_divide_204 (by decide) ?_
                            refine lv_iload hx hb dT_divide_209 (lv_at hl 1 rfl) ?_
                            refine lv_if_eq (tgt := 223) hx hb dT_divide_211 (by decide) (fun c_41 => ?_) (fun c_41 => ?_)
                            · skip
                              exact absurd c_41 (by decide)
                            · skip
                              refine lv_iload hx hb dT_divide_214 (lv_at hl 0 rfl) ?_
                              refine lv_if_ne (tgt := 223) hx hb dT_divide_216 (by decide) (fun c_42 => ?_) (fun c_42 => ?_)
                              · skip
                                refine lv_iload hx hb dT_divide_223 (lv_at hl 3 rfl) ?_
                                refine tp_set_10 ⟨hx, hb, hml, hown, ht⟩ q_381 ⟨Nat.le_of_ble_eq_true rfl, Nat.le_of_ble_eq_true rfl⟩ hK hz hP hD hS hA hl.1 (Nat.le_of_ble_eq_true rfl) dT_divide_225 ⟨by show mu (pAdd 13 (rAt (s9.2 10) i) (rAt (s9.2 11) i) ln s9).1 - mu s0.1 + 0 ≤ (mu ((sT_divide (wOf sl wv) fr ln k s0).1).1 - mu s0.1); omega, by show mu (pAdd 13 (rAt (s9.2 10) i) (rAt (s9.2 11) i) ln s9).1 - mu s0.1 + 0 ≤ (mu ((sT_divide (wOf sl wv) fr ln k s0).1).1 - mu s0.1); omega⟩ (fun q f H locs hz hP hD hS => ?_)
                                have hz : rowsT (pSet 10 re (rAt (s9.2 10) i) ln (rAt (s9.2 12) i) (pAdd 13 (rAt (s9.2 10) i) (rAt (s9.2 11) i) ln s9)).1 f (pSet 10 re (rAt (s9.2 10) i) ln (rAt (s9.2 12) i) (pAdd 13 (rAt (s9.2 10) i) (rAt (s9.2 11) i) ln s9)).2 := hz
                                have hP : va_P g.1 vwCl (TW g ad q (pSet 10 re (rAt (s9.2 10) i) ln (rAt (s9.2 12) i) (pAdd 13 (rAt (s9.2 10) i) (rAt (s9.2 11) i) ln s9)).1 f (pSet 10 re (rAt (s9.2 10) i) ln (rAt (s9.2 12) i) (pAdd 13 (rAt (s9.2 10) i) (rAt (s9.2 11) i) ln s9)).2 sl cnt h st LW wv) H := hP
                                have hD : va_D A (TW g ad q (pSet 10 re (rAt (s9.2 10) i) ln (rAt (s9.2 12) i) (pAdd 13 (rAt (s9.2 10) i) (rAt (s9.2 11) i) ln s9)).1 f (pSet 10 re (rAt (s9.2 10) i) ln (rAt (s9.2 12) i) (pAdd 13 (rAt (s9.2 10) i) (rAt (s9.2 11) i) ln s9)).2 sl cnt h st LW wv) := hD
                                have hle : mu s0.1 ≤ mu (pSet 10 re (rAt (s9.2 10) i) ln (rAt (s9.2 12) i) (pAdd 13 (rAt (s9.2 10) i) (rAt (s9.2 11) i) ln s9)).1 := hle
                                refine W.widen (k := mu (pSet 10 re (rAt (s9.2 10) i) ln (rAt (s9.2 12) i) (pAdd 13 (rAt (s9.2 10) i) (rAt (s9.2 11) i) ln s9)).1 - mu s0.1) (n := mu (pSet 10 re (rAt (s9.2 10) i) ln (rAt (s9.2 12) i) (pAdd 13 (rAt (s9.2 10) i) (rAt (s9.2 11) i) ln s9)).1 - mu s0.1) (Nat.le_refl _) (Nat.le_refl _) ?_
                                refine lv_iinc (v := re + 1) (lv' := [(5, .int (re + 1)), (12, .int 1), (11, .int 1), (10, .int (sT_whereLies s9.2 (wOf sl wv) ln i)), (9, .int (rAt (s9.2 12) i)), (8, .int (rAt (s9.2 11) i)), (7, .int (rAt (s9.2 10) i)), (6, .int i), (4, .int (nI (s0.2 10).length)), (0, .ref (ad 0)), (1, .int (nI fr)), (2, .int ln), (3, .int k)]) hx hb dT_divide_228 hl (k := 7) rfl rfl (by decide) rfl (fun ls hl => ?_)
                                refine lv_iinc (v := i + 1) (lv' := [(6, .int (i + 1)), (5, .int (re + 1)), (12, .int 1), (11, .int 1), (10, .int (sT_whereLies s9.2 (wOf sl wv) ln i)), (9, .int (rAt (s9.2 12) i)), (8, .int (rAt (s9.2 11) i)), (7, .int (rAt (s9.2 10) i)), (4, .int (nI (s0.2 10).length)), (0, .ref (ad 0)), (1, .int (nI fr)), (2, .int ln), (3, .int k)]) hx hb dT_divide_231 hl (k := 7) rfl rfl (by decide) rfl (fun ls hl => ?_)
                                refine lv_goto (tgt := 23) hx hb dT_divide_234 (by decide) ?_
                                exact ih (k0 + 1) (pSet 10 re (rAt (s9.2 10) i) ln (rAt (s9.2 12) i) (pAdd 13 (rAt (s9.2 10) i) (rAt (s9.2 11) i) ln s9)) (i + 1) (re + 1) q f H locs ls (by omega) (by rw [hi]; exact nI_1 k0) (by exact hle) (by rw [← hR, dvL, dvStep, if_neg c_5, if_pos c_6, if_pos c_18, if_neg c_31, if_neg c_39]) hz hP hD hS (lv_sub hl [0, 1, 8, 9, 10, 11, 12] rfl)
                              · skip
                                exact absurd c_42 (by decide)
                    · skip
                      exact absurd c_37 (by decide)
        · skip
          refine lv_aload_n hx hb dT_divide_77 rfl (lv_at hl 7 rfl) ?_
          refine va_get (D := g.1) (ci := 4) (v := .ref (ad 3)) (C := "NodeMaker$Tree") (T := Fd_T) (N := 16) hx hb ht i_T hown hK.1 hP 0 rfl rfl 7 (by decide) (ht _ q_112) (fun _ h9 => h9) rfl dT_divide_78 ?_
          refine lv_iload hx hb dT_divide_81 (lv_at hl 3 rfl) ?_
          refine lv_iload hx hb dT_divide_83 (lv_at hl 2 rfl) ?_
          refine lv_iload hx hb dT_divide_85 (lv_at hl 1 rfl) ?_
          have hmu : mu (pAdd 6 (rAt (s9.2 10) i) (rAt (s9.2 11) i) (rAt (s9.2 12) i) s9).1 = mu s9.1 + (aUse (s9.1 6) (s9.2 6) + aUse (s9.1 7) (s9.2 7) + aUse (s9.1 8) (s9.2 8)) := mu_pAdd (K := 6) (v0 := (rAt (s9.2 10) i)) (v1 := (rAt (s9.2 11) i)) (v2 := (rAt (s9.2 12) i)) (s := s9) (by decide)
          have hfit : mu (pAdd 6 (rAt (s9.2 10) i) (rAt (s9.2 11) i) (rAt (s9.2 12) i) s9).1 ≤ mu ((sT_divide (wOf sl wv) fr ln k s0).1).1 := Nat.le_trans (by rw [dvStep, if_pos c_5]; (repeat' split) <;> (try simp only [mu_pSet]) <;> with_reducible first | exact Nat.le_refl _ | exact mu_oAdd_le (by decide)) hst
          refine tp_add_6 ⟨hx, hb, hml, hown, ht⟩ q_285 ⟨Nat.le_of_ble_eq_true rfl, Nat.le_of_ble_eq_true rfl⟩ hK hz hP hD hS hA hl.1 (Nat.le_of_ble_eq_true rfl) dT_divide_87 ⟨by show mu s9.1 - mu s0.1 + (aUse (s9.1 6) (s9.2 6) + aUse (s9.1 7) (s9.2 7) + aUse (s9.1 8) (s9.2 8)) ≤ (mu ((sT_divide (wOf sl wv) fr ln k s0).1).1 - mu s0.1); omega, by show mu s9.1 - mu s0.1 + (aUse (s9.1 6) (s9.2 6) + aUse (s9.1 7) (s9.2 7) + aUse (s9.1 8) (s9.2 8)) ≤ (mu ((sT_divide (wOf sl wv) fr ln k s0).1).1 - mu s0.1); omega⟩ (fun q f H locs hz hP hD hS => ?_)
          have hz : rowsT (pAdd 6 (rAt (s9.2 10) i) (rAt (s9.2 11) i) (rAt (s9.2 12) i) s9).1 f (pAdd 6 (rAt (s9.2 10) i) (rAt (s9.2 11) i) (rAt (s9.2 12) i) s9).2 := hz
          have hP : va_P g.1 vwCl (TW g ad q (pAdd 6 (rAt (s9.2 10) i) (rAt (s9.2 11) i) (rAt (s9.2 12) i) s9).1 f (pAdd 6 (rAt (s9.2 10) i) (rAt (s9.2 11) i) (rAt (s9.2 12) i) s9).2 sl cnt h st LW wv) H := hP
          have hD : va_D A (TW g ad q (pAdd 6 (rAt (s9.2 10) i) (rAt (s9.2 11) i) (rAt (s9.2 12) i) s9).1 f (pAdd 6 (rAt (s9.2 10) i) (rAt (s9.2 11) i) (rAt (s9.2 12) i) s9).2 sl cnt h st LW wv) := hD
          have hle : mu s0.1 ≤ mu (pAdd 6 (rAt (s9.2 10) i) (rAt (s9.2 11) i) (rAt (s9.2 12) i) s9).1 := by omega
          refine W.widen (k := mu (pAdd 6 (rAt (s9.2 10) i) (rAt (s9.2 11) i) (rAt (s9.2 12) i) s9).1 - mu s0.1) (n := mu (pAdd 6 (rAt (s9.2 10) i) (rAt (s9.2 11) i) (rAt (s9.2 12) i) s9).1 - mu s0.1) (by omega) (by omega) ?_
          refine lv_aload_n hx hb dT_divide_90 rfl (lv_at hl 7 rfl) ?_
          refine va_get (D := g.1) (ci := 4) (v := .ref (ad 15)) (C := "NodeMaker$Tree") (T := Fd_T) (N := 16) hx hb ht i_T hown hK.1 hP 0 rfl rfl 8 (by decide) (ht _ q_113) (fun _ h9 => h9) rfl dT_divide_91 ?_
          refine lv_iload_n hx hb dT_divide_94 rfl (lv_at hl 10 rfl) ?_
          have hmu : mu (oAdd 9 k (pAdd 6 (rAt (s9.2 10) i) (rAt (s9.2 11) i) (rAt (s9.2 12) i) s9)).1 = mu (pAdd 6 (rAt (s9.2 10) i) (rAt (s9.2 11) i) (rAt (s9.2 12) i) s9).1 + aUse ((pAdd 6 (rAt (s9.2 10) i) (rAt (s9.2 11) i) (rAt (s9.2 12) i) s9).1 9) ((pAdd 6 (rAt (s9.2 10) i) (rAt (s9.2 11) i) (rAt (s9.2 12) i) s9).2 9) := mu_oAdd (K := 9) (v := k) (s := pAdd 6 (rAt (s9.2 10) i) (rAt (s9.2 11) i) (rAt (s9.2 12) i) s9) (by decide)
          have hfit : mu (oAdd 9 k (pAdd 6 (rAt (s9.2 10) i) (rAt (s9.2 11) i) (rAt (s9.2 12) i) s9)).1 ≤ mu ((sT_divide (wOf sl wv) fr ln k s0).1).1 := Nat.le_trans (by rw [dvStep, if_pos c_5]; (repeat' split) <;> (try simp only [mu_pSet]) <;> with_reducible first | exact Nat.le_refl _ | exact mu_oAdd_le (by decide)) hst
          refine tr_add_9 ⟨hx, hb, hml, hown, ht⟩ q_319 ⟨Nat.le_of_ble_eq_true rfl, Nat.le_of_ble_eq_true rfl⟩ hK hz hP hD hS hA hl.1 (Nat.le_of_ble_eq_true rfl) dT_divide_95 ⟨by show mu (pAdd 6 (rAt (s9.2 10) i) (rAt (s9.2 11) i) (rAt (s9.2 12) i) s9).1 - mu s0.1 + aUse ((pAdd 6 (rAt (s9.2 10) i) (rAt (s9.2 11) i) (rAt (s9.2 12) i) s9).1 9) ((pAdd 6 (rAt (s9.2 10) i) (rAt (s9.2 11) i) (rAt (s9.2 12) i) s9).2 9) ≤ (mu ((sT_divide (wOf sl wv) fr ln k s0).1).1 - mu s0.1); omega, by show mu (pAdd 6 (rAt (s9.2 10) i) (rAt (s9.2 11) i) (rAt (s9.2 12) i) s9).1 - mu s0.1 + aUse ((pAdd 6 (rAt (s9.2 10) i) (rAt (s9.2 11) i) (rAt (s9.2 12) i) s9).1 9) ((pAdd 6 (rAt (s9.2 10) i) (rAt (s9.2 11) i) (rAt (s9.2 12) i) s9).2 9) ≤ (mu ((sT_divide (wOf sl wv) fr ln k s0).1).1 - mu s0.1); omega⟩ (fun q f H locs hz hP hD hS => ?_)
          have hz : rowsT (oAdd 9 k (pAdd 6 (rAt (s9.2 10) i) (rAt (s9.2 11) i) (rAt (s9.2 12) i) s9)).1 f (oAdd 9 k (pAdd 6 (rAt (s9.2 10) i) (rAt (s9.2 11) i) (rAt (s9.2 12) i) s9)).2 := hz
          have hP : va_P g.1 vwCl (TW g ad q (oAdd 9 k (pAdd 6 (rAt (s9.2 10) i) (rAt (s9.2 11) i) (rAt (s9.2 12) i) s9)).1 f (oAdd 9 k (pAdd 6 (rAt (s9.2 10) i) (rAt (s9.2 11) i) (rAt (s9.2 12) i) s9)).2 sl cnt h st LW wv) H := hP
          have hD : va_D A (TW g ad q (oAdd 9 k (pAdd 6 (rAt (s9.2 10) i) (rAt (s9.2 11) i) (rAt (s9.2 12) i) s9)).1 f (oAdd 9 k (pAdd 6 (rAt (s9.2 10) i) (rAt (s9.2 11) i) (rAt (s9.2 12) i) s9)).2 sl cnt h st LW wv) := hD
          have hle : mu s0.1 ≤ mu (oAdd 9 k (pAdd 6 (rAt (s9.2 10) i) (rAt (s9.2 11) i) (rAt (s9.2 12) i) s9)).1 := by omega
          refine W.widen (k := mu (oAdd 9 k (pAdd 6 (rAt (s9.2 10) i) (rAt (s9.2 11) i) (rAt (s9.2 12) i) s9)).1 - mu s0.1) (n := mu (oAdd 9 k (pAdd 6 (rAt (s9.2 10) i) (rAt (s9.2 11) i) (rAt (s9.2 12) i) s9)).1 - mu s0.1) (by omega) (by omega) ?_
          refine lv_goto (tgt := 231) hx hb dT_divide_98 (by decide) ?_
          refine lv_iinc (v := i + 1) (lv' := [(6, .int (i + 1)), (10, .int (sT_whereLies s9.2 (wOf sl wv) ln i)), (9, .int (rAt (s9.2 12) i)), (8, .int (rAt (s9.2 11) i)), (7, .int (rAt (s9.2 10) i)), (5, .int re), (4, .int (nI (s0.2 10).length)), (0, .ref (ad 0)), (1, .int (nI fr)), (2, .int ln), (3, .int k)]) hx hb dT_divide_231 hl (k := 4) rfl rfl (by decide) rfl (fun ls hl => ?_)
          refine lv_goto (tgt := 23) hx hb dT_divide_234 (by decide) ?_
          exact ih (k0 + 1) (oAdd 9 k (pAdd 6 (rAt (s9.2 10) i) (rAt (s9.2 11) i) (rAt (s9.2 12) i) s9)) (i + 1) re q f H locs ls (by omega) (by rw [hi]; exact nI_1 k0) (by exact hle) (by rw [← hR, dvL, dvStep, if_pos c_5]) hz hP hD hS (lv_sub hl [0, 5, 6, 7, 8, 9, 10] rfl)
  refine W.widen (k := mu (pCut 13 0 s0).1 - mu s0.1) (n := mu (pCut 13 0 s0).1 - mu s0.1) (Nat.zero_le _) (Nat.zero_le _) ?_
  exact loop23 ((s0.2 10).length - fr) fr (pCut 13 0 s0) (nI fr) (nI fr) q f H locs ls (by omega) rfl (Nat.le_refl _) rfl hz hP hD hS (lv_sub hl [0, 1, 2, 3, 4, 5, 6] rfl)
