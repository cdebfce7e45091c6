/-- the walls that are there, whole, by their numbers, wait -/
def grL (Wl : Nat → Option WV) : Nat → Int32 → TSt → TSt
  | 0, _, s => s
  | n + 1, i, s => grL Wl n (i + 1) (if wAt Wl i = none then s else pAdd 10 i (-1) (-1) s)
def sT_grow (Wl : Nat → Option WV) (s : TSt) (h st : Int32) : TSt × Int32 × Int32 := if st = 0 then (s, h, st) else ((sPl Wl 64 0 (grL Wl 64 0 (sT_fell s)) 0).1, (sPl Wl 64 0 (grL Wl 64 0 (sT_fell s)) 0).2.1, 0)
theorem grL_mono (Wl : Nat → Option WV) (n : Nat) : ∀ (i : Int32) (s : TSt), mu s.1 ≤ mu (grL Wl n i s).1 := by
  induction n with
  | zero => intro i s; exact Nat.le_refl _
  | succ n ih =>
    intro i s
    refine Nat.le_trans ?_ (ih _ _)
    split
    · exact Nat.le_refl _
    · exact mu_pAdd_le (by decide)
set_option maxHeartbeats 4000000 in
set_option maxRecDepth 100000 in
theorem cT_grow (l : Launch) (g : CX) (sz : Nat) (ad q : Nat → Nat) (f : Nat → Nat → Int32) (s0 : TSt) (sl : Nat → Option Nat) (cnt h st : Int32) (LW : List Nat) (wv : Nat → WV) (hz : rowsT s0.1 f s0.2) (hsl : slOK sl LW) : Met l yT_grow (wm yT_grow kT_grow 2 none) ({ frames := 70, cells := (mu ((sT_grow (wOf sl wv) s0 h st).1).1 - mu s0.1), slots := (mu ((sT_grow (wOf sl wv) s0 h st).1).1 - mu s0.1), locals := 1783 }) (rw g [.ref (ad 0)] (TW g ad q s0.1 f s0.2 sl cnt h st LW wv) sz) (va_Qv (fun (u : (Nat → Nat) × (Nat → Nat → Int32)) => rowsT ((sT_grow (wOf sl wv) s0 h st).1).1 u.2 ((sT_grow (wOf sl wv) s0 h st).1).2) (rB g (va_A (TW g ad q s0.1 f s0.2 sl cnt h st LW wv) sz) (fun u => (TW g ad u.1 ((sT_grow (wOf sl wv) s0 h st).1).1 u.2 ((sT_grow (wOf sl wv) s0 h st).1).2 sl cnt ((sT_grow (wOf sl wv) s0 h st).2.1) ((sT_grow (wOf sl wv) s0 h st).2.2) LW wv))) (va_A (TW g ad q s0.1 f s0.2 sl cnt h st LW wv) sz)) (mu ((sT_grow (wOf sl wv) s0 h st).1).1 - mu s0.1) (mu ((sT_grow (wOf sl wv) s0 h st).1).1 - mu s0.1) (va_A (TW g ad q s0.1 f s0.2 sl cnt h st LW wv) sz) := by
  refine Met.ofW (cc := kT_grow) (maxL := 2) (ret := none) (by decide) rfl ?_
  intro p e s m args below meth c s₁ B hml hv
  obtain ⟨rfl, hsz, hK, hP, hD0⟩ := hv
  have hx := B.exec
  have hb := B.bytes
  have hr := B.returns
  have ht : ∀ w ∈ wT, w.before _ s = true := fun w h => atoms_spec (ws := wm yT_grow kT_grow 2 none) B.pre w (List.mem_cons_of_mem _ h)
  have hown : s.vm.findClass "NodeMaker$Tree" = some m.cls := findClass_of_methodNamed B.named
  have hlocks := B.notSynchronized
  subst hsz
  have hD := hD0.self (sz := s.heap.size)
  generalize hAe : va_A (TW g ad q s0.1 f s0.2 sl cnt h st LW wv) s.heap.size = A at hD ⊢
  have hA : ∀ q : Nat, s.heap.size ≤ q → A q := fun q h => by rw [← hAe]; exact Or.inr h
  have hS : va_S A s.heap s.heap [] := va_S.rf
  have hl := lv_entry ([.ref (ad 0)]) (n := 2) (Nat.le_of_ble_eq_true rfl)
  rw [lg_entry_eq]
  generalize (lg_sl ([.ref (ad 0)]) ++ List.replicate (2 - (lg_sl ([.ref (ad 0)])).length) Slot.unset).toArray = ls at hl ⊢
  have hl : lv_has ls 2 [(0, .ref (ad 0))] := hl
  refine lv_aload_n hx hb dT_grow_0 rfl (lv_at hl 0 rfl) ?_
  refine va_get (D := g.1) (ci := 4) (v := .int st) (C := "NodeMaker$Tree") (T := Fd_T) (N := 13) hx hb ht i_T hown hK.1 hP 0 rfl rfl 12 (by decide) (ht _ q_115) (fun _ h9 => h9) rfl dT_grow_1 ?_
  refine lv_if_ne (tgt := 8) hx hb dT_grow_4 (by decide) (fun c_1 => ?_) (fun c_1 => ?_)
  · skip
    have hst : ¬ st = 0 := c_1
    have hG : (sT_grow (wOf sl wv) s0 h st) = ((sPl (wOf sl wv) 64 0 (grL (wOf sl wv) 64 0 (sT_fell s0)) 0).1, (sPl (wOf sl wv) 64 0 (grL (wOf sl wv) 64 0 (sT_fell s0)) 0).2.1, 0) := if_neg hst
    have hmG : mu (grL (wOf sl wv) 64 0 (sT_fell s0)).1 ≤ mu (sT_grow (wOf sl wv) s0 h st).1.1 := by rw [hG]; exact sPl_mono _ _ _ _ _
    have hmF0 : mu s0.1 ≤ mu (grL (wOf sl wv) 64 0 (sT_fell s0)).1 := grL_mono (wOf sl wv) 64 0 (sT_fell s0)
    refine lv_aload_n hx hb dT_grow_8 rfl (lv_at hl 0 rfl) ?_
    refine rw_vA (va_runV (As := []) (rest := []) ⟨hx, hb, hml, hown, ht⟩ (cT_fell l g s.heap.size ad q f s0 sl cnt h st LW wv hz hsl) (cwV 0 ht (g_V q_260 q_262 q_0 q_33 q_263) rfl rfl rfl hd_T_fell ⟨Nat.le_of_ble_eq_true rfl, Nat.le_of_ble_eq_true rfl⟩) (rw_V hK hP hD (va_recv hK.1 hP (ci := 4) (q0 := 0) rfl rfl)) rfl rfl hl.1 rfl (lv_room (Nat.le_of_ble_eq_true rfl)) dT_grow_9 ⟨by show 0 + 0 ≤ (mu ((sT_grow (wOf sl wv) s0 h st).1).1 - mu s0.1); omega, by show 0 + 0 ≤ (mu ((sT_grow (wOf sl wv) s0 h st).1).1 - mu s0.1); omega⟩) hD hS hA (fun u H locs hw hP hD hS => ?_)
    obtain ⟨q, f⟩ := u
    have hz : rowsT (sT_fell s0).1 f (sT_fell s0).2 := hw
    have hP : va_P g.1 vwCl (TW g ad q (sT_fell s0).1 f (sT_fell s0).2 sl cnt 0 st LW wv) H := hP
    have hD : va_D A (TW g ad q (sT_fell s0).1 f (sT_fell s0).2 sl cnt 0 st LW wv) := hD
    refine lv_iconst (v := 0) hx hb dT_grow_12 (by decide) ?_
    refine lv_istore_n (lv' := [(1, .int 0), (0, .ref (ad 0))]) hx hb dT_grow_13 rfl hl (by decide) rfl (fun ls hl => ?_)
    have loop14 : ∀ (n : Nat) (k0 : Nat) (s9 : TSt) (i : Int32) (q : Nat → Nat) (f : Nat → Nat → Int32) (H : Heap) (locs : List Loc) (ls : Array Slot), k0 + n = 64 → i = nI k0 → mu s0.1 ≤ mu s9.1 → grL (wOf sl wv) n i s9 = (grL (wOf sl wv) 64 0 (sT_fell s0)) → rowsT s9.1 f s9.2 → va_P g.1 vwCl (TW g ad q s9.1 f s9.2 sl cnt 0 st LW wv) H → va_D A (TW g ad q s9.1 f s9.2 sl cnt 0 st LW wv) → va_S A s.heap H locs → lv_has ls 2 [(1, .int i), (0, .ref (ad 0))] → W p l e (headSpec (wm yT_grow kT_grow 2 none) ({ frames := 70, cells := (mu ((sT_grow (wOf sl wv) s0 h st).1).1 - mu s0.1), slots := (mu ((sT_grow (wOf sl wv) s0 h st).1).1 - mu s0.1), locals := 1783 })).room s m ([.ref (ad 0)] : List Value).toArray below meth c H locs (mu s9.1 - mu s0.1) (mu s9.1 - mu s0.1) (MQ below (va_Qv (fun (u : (Nat → Nat) × (Nat → Nat → Int32)) => rowsT ((sT_grow (wOf sl wv) s0 h st).1).1 u.2 ((sT_grow (wOf sl wv) s0 h st).1).2) (rB g A (fun u => (TW g ad u.1 ((sT_grow (wOf sl wv) s0 h st).1).1 u.2 ((sT_grow (wOf sl wv) s0 h st).1).2 sl cnt ((sT_grow (wOf sl wv) s0 h st).2.1) ((sT_grow (wOf sl wv) s0 h st).2.2) LW wv))) A) ([.ref (ad 0)] : List Value).toArray s (mu ((sT_grow (wOf sl wv) s0 h st).1).1 - mu s0.1) (mu ((sT_grow (wOf sl wv) s0 h st).1).1 - mu s0.1) A) (F0 m 14 ls []) := by
      intro n
      induction n with
      | zero =>
        intro k0 s9 i q f H locs ls hk hi hle hR hz hP hD hS hl
        have hs9 : mu s9.1 ≤ mu (sT_grow (wOf sl wv) s0 h st).1.1 := Nat.le_trans (by rw [← hR]; exact grL_mono _ _ _ _) hmG
        refine lv_iload_n hx hb dT_grow_14 rfl (lv_at hl 0 rfl) ?_
        refine lv_bipush (v := 64) hx hb dT_grow_15 (by decide) ?_
        refine lv_icmp_ge (tgt := 47) hx hb dT_grow_17 (by decide) (fun c_2 => ?_) (fun c_2 => ?_)
        · skip
          refine lv_aload_n hx hb dT_grow_47 rfl (lv_at hl 1 rfl) ?_
          refine lv_iconst (v := 0) hx hb dT_grow_48 (by decide) ?_
          refine lv_iconst (v := 0) hx hb dT_grow_49 (by decide) ?_
          have hsG : s9 = (grL (wOf sl wv) 64 0 (sT_fell s0)) := hR
          have hm9 : mu (sPl (wOf sl wv) 64 0 s9 0).1.1 = mu (sT_grow (wOf sl wv) s0 h st).1.1 := by rw [hG, hsG]
          have hm8 := sPl_mono (wOf sl wv) 64 0 s9 0
          refine rw_iA (va_runV (As := [.int (nI 0), .int (nI 0)]) (rest := []) ⟨hx, hb, hml, hown, ht⟩ (cT_plant l g 64 H.size ad q f s9 sl cnt 0 st LW wv hz hsl 0 0 (by omega) (by omega)) (cwV 2 ht (g_V q_296 q_298 q_1 q_33 q_299) rfl rfl rfl hd_T_plant ⟨Nat.le_of_ble_eq_true rfl, Nat.le_of_ble_eq_true rfl⟩) (rw_V hK hP hD (va_recv hK.1 hP (ci := 4) (q0 := 0) rfl rfl)) rfl rfl hl.1 rfl (lv_room (Nat.le_of_ble_eq_true rfl)) dT_grow_50 ⟨by show mu s9.1 - mu s0.1 + (mu (sPl (wOf sl wv) 64 0 s9 0).1.1 - mu s9.1) ≤ (mu ((sT_grow (wOf sl wv) s0 h st).1).1 - mu s0.1); omega, by show mu s9.1 - mu s0.1 + (mu (sPl (wOf sl wv) 64 0 s9 0).1.1 - mu s9.1) ≤ (mu ((sT_grow (wOf sl wv) s0 h st).1).1 - mu s0.1); omega⟩) hD hS hA (fun r u H locs hw hP hD hS => ?_)
          obtain ⟨q, f⟩ := u
          have hz := hw.2
          have hP : va_P g.1 vwCl (TW g ad q ((sPl (wOf sl wv) 64 0 s9 0).1).1 f ((sPl (wOf sl wv) 64 0 s9 0).1).2 sl cnt ((sPl (wOf sl wv) 64 0 s9 0).2.1) st LW wv) H := hP
          have hD : va_D A (TW g ad q ((sPl (wOf sl wv) 64 0 s9 0).1).1 f ((sPl (wOf sl wv) 64 0 s9 0).1).2 sl cnt ((sPl (wOf sl wv) 64 0 s9 0).2.1) st LW wv) := hD
          refine W.widen (k := mu (sPl (wOf sl wv) 64 0 s9 0).1.1 - mu s0.1) (n := mu (sPl (wOf sl wv) 64 0 s9 0).1.1 - mu s0.1) (by show mu s9.1 - mu s0.1 + (mu (sPl (wOf sl wv) 64 0 s9 0).1.1 - mu s9.1) ≤ _; omega) (by show mu s9.1 - mu s0.1 + (mu (sPl (wOf sl wv) 64 0 s9 0).1.1 - mu s9.1) ≤ _; omega) ?_
          refine lv_pop hx hb dT_grow_53 rfl ?_
          refine lv_aload_n hx hb dT_grow_54 rfl (lv_at hl 1 rfl) ?_
          refine lv_iconst (v := 0) hx hb dT_grow_55 (by decide) ?_
          refine va_put (D := g.1) (ci := 4) (v := .int 0) (ty := .boolean) (C := "NodeMaker$Tree") (T := Fd_T) (N := 13) hx hb ht i_T ty_T ty_T_ok nm_T hown hK.1 hP hD hS 0 rfl rfl 12 (by decide) (ht _ q_115) (fun _ h9 => h9) rfl (by decide +kernel) rfl rfl (Nat.le_of_ble_eq_true rfl) dT_grow_56 (fun H locs hP hD hS => ?_)
          have hP : va_P g.1 vwCl (TW g ad q ((sPl (wOf sl wv) 64 0 s9 0).1).1 f ((sPl (wOf sl wv) 64 0 s9 0).1).2 sl cnt ((sPl (wOf sl wv) 64 0 s9 0).2.1) 0 LW wv) H := hP
          have hD : va_D A (TW g ad q ((sPl (wOf sl wv) 64 0 s9 0).1).1 f ((sPl (wOf sl wv) 64 0 s9 0).1).2 sl cnt ((sPl (wOf sl wv) 64 0 s9 0).2.1) 0 LW wv) := hD
          have hEF : (sT_grow (wOf sl wv) s0 h st) = ((sPl (wOf sl wv) 64 0 s9 0).1, ((sPl (wOf sl wv) 64 0 s9 0).2.1), 0) := by rw [hG, hsG]
          have hz9 : rowsT ((sT_grow (wOf sl wv) s0 h st).1).1 f ((sT_grow (wOf sl wv) s0 h st).1).2 := by rw [hEF]; exact hz
          have hP9 : va_P g.1 vwCl (TW g ad q ((sT_grow (wOf sl wv) s0 h st).1).1 f ((sT_grow (wOf sl wv) s0 h st).1).2 sl cnt (sT_grow (wOf sl wv) s0 h st).2.1 (sT_grow (wOf sl wv) s0 h st).2.2 LW wv) H := by rw [hEF]; exact hP
          have hD9 : va_D A (TW g ad q ((sT_grow (wOf sl wv) s0 h st).1).1 f ((sT_grow (wOf sl wv) s0 h st).1).2 sl cnt (sT_grow (wOf sl wv) s0 h st).2.1 (sT_grow (wOf sl wv) s0 h st).2.2 LW wv) := by rw [hEF]; exact hD
          have hmF : mu ((sT_grow (wOf sl wv) s0 h st).1).1 = mu ((sPl (wOf sl wv) 64 0 s9 0).1).1 := by rw [hEF]
          refine W.widen (k := (mu ((sT_grow (wOf sl wv) s0 h st).1).1 - mu s0.1)) (n := (mu ((sT_grow (wOf sl wv) s0 h st).1).1 - mu s0.1)) (by omega) (by omega) ?_
          exact W.vret hx hb hr (fun t ht9 hW => ⟨⟨(q, f), rfl, hz9, by rw [ht9]; exact hP9, hD9⟩, hS.F ht9⟩) hS.2.2 dT_grow_59
        · skip
          exact absurd (by rw [hi]; exact nI_le (a := 64) (by omega) (by omega)) c_2
      | succ n ih =>
        intro k0 s9 i q f H locs ls hk hi hle hR hz hP hD hS hl
        have hs9 : mu s9.1 ≤ mu (sT_grow (wOf sl wv) s0 h st).1.1 := Nat.le_trans (by rw [← hR]; exact grL_mono _ _ _ _) hmG
        refine lv_iload_n hx hb dT_grow_14 rfl (lv_at hl 0 rfl) ?_
        refine lv_bipush (v := 64) hx hb dT_grow_15 (by decide) ?_
        refine lv_icmp_ge (tgt := 47) hx hb dT_grow_17 (by decide) (fun c_3 => ?_) (fun c_3 => ?_)
        · skip
          exact absurd c_3 (by rw [hi]; exact nI_ge (b := 64) (by omega) (by omega))
        · skip
          refine lv_aload_n hx hb dT_grow_20 rfl (lv_at hl 1 rfl) ?_
          refine va_get (D := g.1) (ci := 4) (v := .ref (ad 1)) (C := "NodeMaker$Tree") (T := Fd_T) (N := 13) hx hb ht i_T hown hK.1 hP 0 rfl rfl 0 (by decide) (ht _ q_103) (fun _ h9 => h9) rfl dT_grow_21 ?_
          refine lv_iload_n hx hb dT_grow_24 rfl (lv_at hl 0 rfl) ?_
          have hPc := pl_P (cx := wsX g (ad 1) (ad 2) sl cnt) hP [1, 2] rfl
          refine ro_Vq (As := [.int i]) (rest := []) ⟨hx, hb, hml, hown, ht⟩ (cS_at l g (ad 1) (ad 2) sl cnt LW wv hsl i) (cwV 1 ht (g_V q_273 q_237 q_238 q_34 q_239) rfl rfl rfl hd_S_at ⟨Nat.le_of_ble_eq_true rfl, Nat.le_of_ble_eq_true rfl⟩) hK hPc (va_recv hK.1 hPc (ci := 3) (q0 := 0) rfl rfl) rfl hl.1 rfl (Nat.le_of_ble_eq_true rfl) dT_grow_25 ⟨by show mu s9.1 - mu s0.1 ≤ (mu ((sT_grow (wOf sl wv) s0 h st).1).1 - mu s0.1); omega, by show mu s9.1 - mu s0.1 ≤ (mu ((sT_grow (wOf sl wv) s0 h st).1).1 - mu s0.1); omega⟩ (fun hq => ?_) (fun x_4 hq => ?_)
          · skip
            have hw9 : wAt (wOf sl wv) i = none := hq.1.symm
            refine lv_ifnullN (tgt := 41) hx hb dT_grow_28 (by decide) ?_
            refine lv_iinc (v := i + 1) (lv' := [(1, .int (i + 1)), (0, .ref (ad 0))]) hx hb dT_grow_41 hl (k := 0) rfl rfl (by decide) rfl (fun ls hl => ?_)
            refine lv_goto (tgt := 14) hx hb dT_grow_44 (by decide) ?_
            exact ih (k0 + 1) s9 (i + 1) q f H locs ls (by omega) (by rw [hi]; exact nI_1 k0) hle (by rw [← hR, grL, if_pos hw9]) hz hP hD hS (lv_sub hl [0, 1] rfl)
          · skip
            have hw9 : ¬ wAt (wOf sl wv) i = none := by rw [← hq.1]; exact fun h => by cases h
            refine lv_ifnull hx hb dT_grow_28 ?_
            refine lv_aload_n hx hb dT_grow_31 rfl (lv_at hl 1 rfl) ?_
            refine va_get (D := g.1) (ci := 4) (v := .ref (ad 4)) (C := "NodeMaker$Tree") (T := Fd_T) (N := 13) hx hb ht i_T hown hK.1 hP 0 rfl rfl 9 (by decide) (ht _ q_112) (fun _ h9 => h9) rfl dT_grow_32 ?_
            refine lv_iload_n hx hb dT_grow_35 rfl (lv_at hl 0 rfl) ?_
            refine lv_iconst (v := -1) hx hb dT_grow_36 (by decide) ?_
            refine lv_iconst (v := -1) hx hb dT_grow_37 (by decide) ?_
            have hmu : mu (pAdd 10 i (-1) (-1) s9).1 = mu s9.1 + (aUse (s9.1 10) (s9.2 10) + aUse (s9.1 11) (s9.2 11) + aUse (s9.1 12) (s9.2 12)) := mu_pAdd (K := 10) (v0 := i) (v1 := (-1)) (v2 := (-1)) (s := s9) (by decide)
            have hfit : mu (pAdd 10 i (-1) (-1) s9).1 ≤ mu ((sT_grow (wOf sl wv) s0 h st).1).1 := Nat.le_trans (show mu (pAdd 10 i (-1) (-1) s9).1 ≤ mu (grL (wOf sl wv) n (i + 1) (pAdd 10 i (-1) (-1) s9)).1 from grL_mono _ _ _ _) (by rw [show grL (wOf sl wv) n (i + 1) (pAdd 10 i (-1) (-1) s9) = (grL (wOf sl wv) 64 0 (sT_fell s0)) from by rw [← hR, grL, if_neg hw9]]; exact hmG)
            refine tp_add_10 ⟨hx, hb, hml, hown, ht⟩ q_274 ⟨Nat.le_of_ble_eq_true rfl, Nat.le_of_ble_eq_true rfl⟩ hK hz hP hD hS hA hl.1 (Nat.le_of_ble_eq_true rfl) dT_grow_38 ⟨by show mu s9.1 - mu s0.1 + (aUse (s9.1 10) (s9.2 10) + aUse (s9.1 11) (s9.2 11) + aUse (s9.1 12) (s9.2 12)) ≤ (mu ((sT_grow (wOf sl wv) s0 h st).1).1 - mu s0.1); omega, by show mu s9.1 - mu s0.1 + (aUse (s9.1 10) (s9.2 10) + aUse (s9.1 11) (s9.2 11) + aUse (s9.1 12) (s9.2 12)) ≤ (mu ((sT_grow (wOf sl wv) s0 h st).1).1 - mu s0.1); omega⟩ (fun q f H locs hz hP hD hS => ?_)
            have hz : rowsT (pAdd 10 i (-1) (-1) s9).1 f (pAdd 10 i (-1) (-1) s9).2 := hz
            have hP : va_P g.1 vwCl (TW g ad q (pAdd 10 i (-1) (-1) s9).1 f (pAdd 10 i (-1) (-1) s9).2 sl cnt 0 st LW wv) H := hP
            have hD : va_D A (TW g ad q (pAdd 10 i (-1) (-1) s9).1 f (pAdd 10 i (-1) (-1) s9).2 sl cnt 0 st LW wv) := hD
            have hle : mu s0.1 ≤ mu (pAdd 10 i (-1) (-1) s9).1 := by omega
            refine W.widen (k := mu (pAdd 10 i (-1) (-1) s9).1 - mu s0.1) (n := mu (pAdd 10 i (-1) (-1) s9).1 - mu s0.1) (by omega) (by omega) ?_
            refine lv_iinc (v := i + 1) (lv' := [(1, .int (i + 1)), (0, .ref (ad 0))]) hx hb dT_grow_41 hl (k := 0) rfl rfl (by decide) rfl (fun ls hl => ?_)
            refine lv_goto (tgt := 14) hx hb dT_grow_44 (by decide) ?_
            exact ih (k0 + 1) (pAdd 10 i (-1) (-1) s9) (i + 1) q f H locs ls (by omega) (by rw [hi]; exact nI_1 k0) hle (by rw [← hR, grL, if_neg hw9]) hz hP hD hS (lv_sub hl [0, 1] rfl)
    refine W.widen (k := mu (sT_fell s0).1 - mu s0.1) (n := mu (sT_fell s0).1 - mu s0.1) (Nat.zero_le _) (Nat.zero_le _) ?_
    exact loop14 64 0 (sT_fell s0) 0 q f H locs ls (by omega) rfl (Nat.le_refl _) rfl hz hP hD hS (lv_sub hl [0, 1] rfl)
  · skip
    have hEF : (sT_grow (wOf sl wv) s0 h st) = (s0, h, st) := if_pos c_1
    have hz9 : rowsT ((sT_grow (wOf sl wv) s0 h st).1).1 f ((sT_grow (wOf sl wv) s0 h st).1).2 := by rw [hEF]; exact hz
    have hP9 : va_P g.1 vwCl (TW g ad q ((sT_grow (wOf sl wv) s0 h st).1).1 f ((sT_grow (wOf sl wv) s0 h st).1).2 sl cnt (sT_grow (wOf sl wv) s0 h st).2.1 (sT_grow (wOf sl wv) s0 h st).2.2 LW wv) s.heap := by rw [hEF]; exact hP
    have hD9 : va_D A (TW g ad q ((sT_grow (wOf sl wv) s0 h st).1).1 f ((sT_grow (wOf sl wv) s0 h st).1).2 sl cnt (sT_grow (wOf sl wv) s0 h st).2.1 (sT_grow (wOf sl wv) s0 h st).2.2 LW wv) := by rw [hEF]; exact hD
    have hmF : mu ((sT_grow (wOf sl wv) s0 h st).1).1 = mu s0.1 := by rw [hEF]
    refine W.widen (k := (mu ((sT_grow (wOf sl wv) s0 h st).1).1 - mu s0.1)) (n := (mu ((sT_grow (wOf sl wv) s0 h st).1).1 - mu s0.1)) (by omega) (by omega) ?_
    exact W.vret hx hb hr (fun t ht9 hW => ⟨⟨(q, f), rfl, hz9, by rw [ht9]; exact hP9, hD9⟩, hS.F ht9⟩) hS.2.2 dT_grow_7
