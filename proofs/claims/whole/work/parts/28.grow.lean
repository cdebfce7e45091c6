/-- the walls that are there, whole, by their numbers, wait -/
def grL (Wl : Nat → Option WV) : Nat → Int32 → TSt → TSt
  | 0, _, s => s
  | n + 1, i, s => grL Wl n (i + 1) (if wAt Wl i = none then s else pAdd 10 i (-1) (-1) s)
/-- the first list waits, if there is a wall -/
def grA (s : TSt) : TSt := if nI (s.2 10).length ≤ 0 then s else awt 0 (-1) 1 s
def grP (Wl : Nat → Option WV) (s : TSt) : TSt × Int32 := sGL Wl 4096 (grA (grL Wl 64 0 (sT_fell s))) 0
def sT_grow (Wl : Nat → Option WV) (s : TSt) (h st : Int32) : TSt × Int32 × Int32 := if st = 0 then (s, h, st) else (sT_countSizes Wl (grP Wl s).1, (grP Wl s).2, 0)
theorem grA_mono (s : TSt) : mu s.1 ≤ mu (grA s).1 := by
  unfold grA
  split
  · exact Nat.le_refl _
  · exact awt_mono _ _ _ _
theorem grL_S3 (Wl : Nat → Option WV) (n : Nat) : ∀ (i : Int32) (s : TSt), S3 (grL Wl n i s) = S3 s := by
  induction n with
  | zero => intro i s; rfl
  | succ n ih =>
    intro i s
    refine (ih _ _).trans ?_
    split <;> rfl
theorem grA_SO {s : TSt} (h : s.2 16 = []) : SO (grA s) := by
  unfold grA
  split
  · exact ⟨[], h, List.Pairwise.nil, fun x hx => absurd hx List.not_mem_nil⟩
  · refine ⟨[0], ?_, List.pairwise_singleton _ _, fun x hx => by rw [List.mem_singleton.1 hx]; exact Nat.zero_le _⟩
    show rAdd (s.2 16) 0 = _
    rw [h]
    rfl
theorem grL_mono (Wl : Nat → Option WV) (n : Nat) : ∀ (i : Int32) (s : TSt), mu s.1 ≤ mu (grL Wl n i s).1 := by
  induction n with
  | zero => intro i s; exact Nat.le_refl _
  | succ n ih =>
    intro i s
    refine Nat.le_trans ?_ (ih _ _)
    split
    · exact Nat.le_refl _
    · exact mu_pAdd_le (by decide)
set_option maxHeartbeats 4000000 in
set_option maxRecDepth 100000 in
theorem cT_grow (l : Launch) (g : CX) (sz : Nat) (ad q : Nat → Nat) (f : Nat → Nat → Int32) (s0 : TSt) (sl : Nat → Option Nat) (cnt h st : Int32) (LW : List Nat) (wv : Nat → WV) (hz : rowsT s0.1 f s0.2) (hsl : slOK sl LW) : Met l yT_grow (wm yT_grow kT_grow 2 none) ({ frames := 6, cells := (mu ((sT_grow (wOf sl wv) s0 h st).1).1 - mu s0.1), slots := (mu ((sT_grow (wOf sl wv) s0 h st).1).1 - mu s0.1), locals := 185 }) (rw g [.ref (ad 0)] (TW g ad q s0.1 f s0.2 sl cnt h st LW wv) sz) (va_Qv (fun (u : (Nat → Nat) × (Nat → Nat → Int32)) => rowsT ((sT_grow (wOf sl wv) s0 h st).1).1 u.2 ((sT_grow (wOf sl wv) s0 h st).1).2) (rB g (va_A (TW g ad q s0.1 f s0.2 sl cnt h st LW wv) sz) (fun u => (TW g ad u.1 ((sT_grow (wOf sl wv) s0 h st).1).1 u.2 ((sT_grow (wOf sl wv) s0 h st).1).2 sl cnt ((sT_grow (wOf sl wv) s0 h st).2.1) ((sT_grow (wOf sl wv) s0 h st).2.2) LW wv))) (va_A (TW g ad q s0.1 f s0.2 sl cnt h st LW wv) sz)) (mu ((sT_grow (wOf sl wv) s0 h st).1).1 - mu s0.1) (mu ((sT_grow (wOf sl wv) s0 h st).1).1 - mu s0.1) (va_A (TW g ad q s0.1 f s0.2 sl cnt h st LW wv) sz) := by
  refine Met.ofW (cc := kT_grow) (maxL := 2) (ret := none) (by decide) rfl ?_
  intro p e s m args below meth c s₁ B hml hv
  obtain ⟨rfl, hsz, hK, hP, hD0⟩ := hv
  have hx := B.exec
  have hb := B.bytes
  have hr := B.returns
  have ht : ∀ w ∈ wT, w.before _ s = true := fun w h => atoms_spec (ws := wm yT_grow kT_grow 2 none) B.pre w (List.mem_cons_of_mem _ h)
  have hown : s.vm.findClass "NodeMaker$Tree" = some m.cls := findClass_of_methodNamed B.named
  have hlocks := B.notSynchronized
  subst hsz
  have hD := hD0.self (sz := s.heap.size)
  generalize hAe : va_A (TW g ad q s0.1 f s0.2 sl cnt h st LW wv) s.heap.size = A at hD ⊢
  have hA : ∀ q : Nat, s.heap.size ≤ q → A q := fun q h => by rw [← hAe]; exact Or.inr h
  have hS : va_S A s.heap s.heap [] := va_S.rf
  have hl := lv_entry ([.ref (ad 0)]) (n := 2) (Nat.le_of_ble_eq_true rfl)
  rw [lg_entry_eq]
  generalize (lg_sl ([.ref (ad 0)]) ++ List.replicate (2 - (lg_sl ([.ref (ad 0)])).length) Slot.unset).toArray = ls at hl ⊢
  have hl : lv_has ls 2 [(0, .ref (ad 0))] := hl
  have hl16 := rowsT_lt hz 16 (by decide)
  refine lv_aload_n hx hb dT_grow_0 rfl (lv_at hl 0 rfl) ?_
  refine va_get (D := g.1) (ci := 4) (v := .int st) (C := "NodeMaker$Tree") (T := Fd_T) (N := 16) hx hb ht i_T hown hK.1 hP 0 rfl rfl 15 (by decide) (ht _ q_120) (fun _ h9 => h9) rfl dT_grow_1 ?_
  refine lv_if_ne (tgt := 8) hx hb dT_grow_4 (by decide) (fun c_7 => ?_) (fun c_7 => ?_)
  · skip
    have hst : ¬ st = 0 := c_7
    have hG : (sT_grow (wOf sl wv) s0 h st) = (sT_countSizes (wOf sl wv) (grP (wOf sl wv) s0).1, (grP (wOf sl wv) s0).2, 0) := if_neg hst
    have hmR : mu (grP (wOf sl wv) s0).1.1 = mu ((sT_grow (wOf sl wv) s0 h st).1).1 := by rw [hG]; exact (csL_mu _ _ _).symm
    have hmA : mu (grA (grL (wOf sl wv) 64 0 (sT_fell s0))).1 ≤ mu (grP (wOf sl wv) s0).1.1 := sGL_mono _ _ _ _
    have hmA0 : mu (grL (wOf sl wv) 64 0 (sT_fell s0)).1 ≤ mu (grA (grL (wOf sl wv) 64 0 (sT_fell s0))).1 := grA_mono _
    have hmG : mu (grL (wOf sl wv) 64 0 (sT_fell s0)).1 ≤ mu ((sT_grow (wOf sl wv) s0 h st).1).1 := by omega
    have hmF0 : mu s0.1 ≤ mu (grL (wOf sl wv) 64 0 (sT_fell s0)).1 := grL_mono (wOf sl wv) 64 0 (sT_fell s0)
    refine lv_aload_n hx hb dT_grow_8 rfl (lv_at hl 0 rfl) ?_
    refine rw_vA (va_runV (As := []) (rest := []) ⟨hx, hb, hml, hown, ht⟩ (cT_fell l g s.heap.size ad q f s0 sl cnt h st LW wv hz hsl) (cwV 0 ht (g_V q_271 q_273 q_0 q_35 q_274) rfl rfl rfl hd_T_fell ⟨Nat.le_of_ble_eq_true rfl, Nat.le_of_ble_eq_true rfl⟩) (rw_V hK hP hD (va_recv hK.1 hP (ci := 4) (q0 := 0) rfl rfl)) rfl rfl hl.1 rfl (lv_room (Nat.le_of_ble_eq_true rfl)) dT_grow_9 ⟨by show 0 + 0 ≤ (mu ((sT_grow (wOf sl wv) s0 h st).1).1 - mu s0.1); omega, by show 0 + 0 ≤ (mu ((sT_grow (wOf sl wv) s0 h st).1).1 - mu s0.1); omega⟩) hD hS hA (fun u H locs hw hP hD hS => ?_)
    obtain ⟨q, f⟩ := u
    have hz : rowsT (sT_fell s0).1 f (sT_fell s0).2 := hw
    have hP : va_P g.1 vwCl (TW g ad q (sT_fell s0).1 f (sT_fell s0).2 sl cnt 0 st LW wv) H := hP
    have hD : va_D A (TW g ad q (sT_fell s0).1 f (sT_fell s0).2 sl cnt 0 st LW wv) := hD
    refine lv_iconst (v := 0) hx hb dT_grow_12 (by decide) ?_
    refine lv_istore_n (lv' := [(1, .int 0), (0, .ref (ad 0))]) hx hb dT_grow_13 rfl hl (by decide) rfl (fun ls hl => ?_)
    have loop14 : ∀ (n : Nat) (k0 : Nat) (s9 : TSt) (i : Int32) (q : Nat → Nat) (f : Nat → Nat → Int32) (H : Heap) (locs : List Loc) (ls : Array Slot), k0 + n = 64 → i = nI k0 → mu s0.1 ≤ mu s9.1 → grL (wOf sl wv) n i s9 = (grL (wOf sl wv) 64 0 (sT_fell s0)) → rowsT s9.1 f s9.2 → va_P g.1 vwCl (TW g ad q s9.1 f s9.2 sl cnt 0 st LW wv) H → va_D A (TW g ad q s9.1 f s9.2 sl cnt 0 st LW wv) → va_S A s.heap H locs → lv_has ls 2 [(1, .int i), (0, .ref (ad 0))] → W p l e (headSpec (wm yT_grow kT_grow 2 none) ({ frames := 6, cells := (mu ((sT_grow (wOf sl wv) s0 h st).1).1 - mu s0.1), slots := (mu ((sT_grow (wOf sl wv) s0 h st).1).1 - mu s0.1), locals := 185 })).room s m ([.ref (ad 0)] : List Value).toArray below meth c H locs (mu s9.1 - mu s0.1) (mu s9.1 - mu s0.1) (MQ below (va_Qv (fun (u : (Nat → Nat) × (Nat → Nat → Int32)) => rowsT ((sT_grow (wOf sl wv) s0 h st).1).1 u.2 ((sT_grow (wOf sl wv) s0 h st).1).2) (rB g A (fun u => (TW g ad u.1 ((sT_grow (wOf sl wv) s0 h st).1).1 u.2 ((sT_grow (wOf sl wv) s0 h st).1).2 sl cnt ((sT_grow (wOf sl wv) s0 h st).2.1) ((sT_grow (wOf sl wv) s0 h st).2.2) LW wv))) A) ([.ref (ad 0)] : List Value).toArray s (mu ((sT_grow (wOf sl wv) s0 h st).1).1 - mu s0.1) (mu ((sT_grow (wOf sl wv) s0 h st).1).1 - mu s0.1) A) (F0 m 14 ls []) := by
      intro n
      induction n with
      | zero =>
        intro k0 s9 i q f H locs ls hk hi hle hR hz hP hD hS hl
        have hs9 : mu s9.1 ≤ mu (sT_grow (wOf sl wv) s0 h st).1.1 := Nat.le_trans (by rw [← hR]; exact grL_mono _ _ _ _) hmG
        refine lv_iload_n hx hb dT_grow_14 rfl (lv_at hl 0 rfl) ?_
        refine lv_bipush (v := 64) hx hb dT_grow_15 (by decide) ?_
        refine lv_icmp_ge (tgt := 47) hx hb dT_grow_17 (by decide) (fun c_8 => ?_) (fun c_8 => ?_)
        · skip
          have hsG : s9 = (grL (wOf sl wv) 64 0 (sT_fell s0)) := hR
          have hle9 : mu s0.1 ≤ mu s9.1 := hle
          have hso : SO (grA s9) := grA_SO (by rw [hsG]; have q := congrArg (fun x => x.1) (grL_S3 (wOf sl wv) 64 0 (sT_fell s0)); exact q.trans (show rCut (s0.2 16) 0 = [] from (show rCut (s0.2 16) 0 = (s0.2 16).take 0 from by have q2 := rCut_tk (L := s0.2 16) (i := 0) (Nat.zero_le _) (by omega); rw [nI_0] at q2; exact q2).trans rfl))
          have hm8 : mu (grA s9).1 ≤ mu (grP (wOf sl wv) s0).1.1 := by rw [hsG]; exact hmA
          have hm7 : mu s9.1 ≤ mu (grA s9).1 := grA_mono _
          have join64 : ∀ (s6 : TSt) (q : Nat → Nat) (f : Nat → Nat → Int32) (H : Heap) (locs : List Loc) (ls : Array Slot), s6 = grA s9 → rowsT s6.1 f s6.2 → va_P g.1 vwCl (TW g ad q s6.1 f s6.2 sl cnt 0 st LW wv) H → va_D A (TW g ad q s6.1 f s6.2 sl cnt 0 st LW wv) → va_S A s.heap H locs → lv_has ls 2 [(0, .ref (ad 0))] → W p l e (headSpec (wm yT_grow kT_grow 2 none) ({ frames := 6, cells := (mu ((sT_grow (wOf sl wv) s0 h st).1).1 - mu s0.1), slots := (mu ((sT_grow (wOf sl wv) s0 h st).1).1 - mu s0.1), locals := 185 })).room s m ([.ref (ad 0)] : List Value).toArray below meth c H locs (mu s6.1 - mu s0.1) (mu s6.1 - mu s0.1) (MQ below (va_Qv (fun (u : (Nat → Nat) × (Nat → Nat → Int32)) => rowsT ((sT_grow (wOf sl wv) s0 h st).1).1 u.2 ((sT_grow (wOf sl wv) s0 h st).1).2) (rB g A (fun u => (TW g ad u.1 ((sT_grow (wOf sl wv) s0 h st).1).1 u.2 ((sT_grow (wOf sl wv) s0 h st).1).2 sl cnt ((sT_grow (wOf sl wv) s0 h st).2.1) ((sT_grow (wOf sl wv) s0 h st).2.2) LW wv))) A) ([.ref (ad 0)] : List Value).toArray s (mu ((sT_grow (wOf sl wv) s0 h st).1).1 - mu s0.1) (mu ((sT_grow (wOf sl wv) s0 h st).1).1 - mu s0.1) A) (F0 m 64 ls []) := by
            intro s6 q f H locs ls hs6 hz hP hD hS hl
            have hle6 : mu s0.1 ≤ mu s6.1 := by rw [hs6]; omega
            refine lv_iconst (v := 0) hx hb dT_grow_64 (by decide) ?_
            refine lv_istore_n (lv' := [(1, .int 0), (0, .ref (ad 0))]) hx hb dT_grow_65 rfl hl (by decide) rfl (fun ls hl => ?_)
            have loop66 : ∀ (n : Nat) (k0 : Nat) (s7 : TSt) (hh i : Int32) (q : Nat → Nat) (f : Nat → Nat → Int32) (H : Heap) (locs : List Loc) (ls : Array Slot), k0 + n = 4096 → i = nI k0 → mu s0.1 ≤ mu s7.1 → SO s7 → sGL (wOf sl wv) n s7 hh = (grP (wOf sl wv) s0) → rowsT s7.1 f s7.2 → va_P g.1 vwCl (TW g ad q s7.1 f s7.2 sl cnt hh st LW wv) H → va_D A (TW g ad q s7.1 f s7.2 sl cnt hh st LW wv) → va_S A s.heap H locs → lv_has ls 2 [(1, .int i), (0, .ref (ad 0))] → W p l e (headSpec (wm yT_grow kT_grow 2 none) ({ frames := 6, cells := (mu ((sT_grow (wOf sl wv) s0 h st).1).1 - mu s0.1), slots := (mu ((sT_grow (wOf sl wv) s0 h st).1).1 - mu s0.1), locals := 185 })).room s m ([.ref (ad 0)] : List Value).toArray below meth c H locs (mu s7.1 - mu s0.1) (mu s7.1 - mu s0.1) (MQ below (va_Qv (fun (u : (Nat → Nat) × (Nat → Nat → Int32)) => rowsT ((sT_grow (wOf sl wv) s0 h st).1).1 u.2 ((sT_grow (wOf sl wv) s0 h st).1).2) (rB g A (fun u => (TW g ad u.1 ((sT_grow (wOf sl wv) s0 h st).1).1 u.2 ((sT_grow (wOf sl wv) s0 h st).1).2 sl cnt ((sT_grow (wOf sl wv) s0 h st).2.1) ((sT_grow (wOf sl wv) s0 h st).2.2) LW wv))) A) ([.ref (ad 0)] : List Value).toArray s (mu ((sT_grow (wOf sl wv) s0 h st).1).1 - mu s0.1) (mu ((sT_grow (wOf sl wv) s0 h st).1).1 - mu s0.1) A) (F0 m 66 ls []) := by
              intro n
              induction n with
              | zero =>
                intro k0 s7 hh i q f H locs ls hk hi hle hso7 hR hz hP hD hS hl
                have hs7 : mu s7.1 ≤ mu (grP (wOf sl wv) s0).1.1 := by rw [← hR]; exact sGL_mono _ _ _ _
                have hl7 := rowsT_lt hz 16 (by decide)
                have hw7 := rowsT_lt hz 10 (by decide)
                have hR9 : (s7, hh) = (grP (wOf sl wv) s0) := hR
                refine lv_iload_n hx hb dT_grow_66 rfl (lv_at hl 0 rfl) ?_
                refine lv_sipush (v := 4096) hx hb dT_grow_67 (by decide) ?_
                refine lv_icmp_ge (tgt := 93) hx hb dT_grow_70 (by decide) (fun c_9 => ?_) (fun c_9 => ?_)
                · skip
                  refine lv_aload_n hx hb dT_grow_93 rfl (lv_at hl 1 rfl) ?_
                  have hmc : mu (sT_countSizes (wOf sl wv) s7).1 = mu s7.1 := csL_mu _ _ _
                  refine rw_vA (va_runV (As := []) (rest := []) ⟨hx, hb, hml, hown, ht⟩ (cT_countSizes l g H.size ad q f s7 sl cnt hh st LW wv hz hsl) (cwV 0 ht (g_V q_386 q_388 q_7 q_35 q_389) rfl rfl rfl hd_T_countSizes ⟨Nat.le_of_ble_eq_true rfl, Nat.le_of_ble_eq_true rfl⟩) (rw_V hK hP hD (va_recv hK.1 hP (ci := 4) (q0 := 0) rfl rfl)) rfl rfl hl.1 rfl (lv_room (Nat.le_of_ble_eq_true rfl)) dT_grow_94 ⟨by show mu s7.1 - mu s0.1 + 0 ≤ (mu ((sT_grow (wOf sl wv) s0 h st).1).1 - mu s0.1); omega, by show mu s7.1 - mu s0.1 + 0 ≤ (mu ((sT_grow (wOf sl wv) s0 h st).1).1 - mu s0.1); omega⟩) hD hS hA (fun u H locs hw hP hD hS => ?_)
                  obtain ⟨q, f⟩ := u
                  have hz : rowsT (sT_countSizes (wOf sl wv) s7).1 f (sT_countSizes (wOf sl wv) s7).2 := hw
                  have hP : va_P g.1 vwCl (TW g ad q (sT_countSizes (wOf sl wv) s7).1 f (sT_countSizes (wOf sl wv) s7).2 sl cnt hh st LW wv) H := hP
                  have hD : va_D A (TW g ad q (sT_countSizes (wOf sl wv) s7).1 f (sT_countSizes (wOf sl wv) s7).2 sl cnt hh st LW wv) := hD
                  refine W.widen (k := mu s7.1 - mu s0.1) (n := mu s7.1 - mu s0.1) (Nat.le_refl _) (Nat.le_refl _) ?_
                  refine lv_aload_n hx hb dT_grow_97 rfl (lv_at hl 1 rfl) ?_
                  refine lv_iconst (v := 0) hx hb dT_grow_98 (by decide) ?_
                  refine va_put (D := g.1) (ci := 4) (v := .int 0) (ty := .boolean) (C := "NodeMaker$Tree") (T := Fd_T) (N := 16) hx hb ht i_T ty_T ty_T_ok nm_T hown hK.1 hP hD hS 0 rfl rfl 15 (by decide) (ht _ q_120) (fun _ h9 => h9) rfl (by decide +kernel) rfl rfl (Nat.le_of_ble_eq_true rfl) dT_grow_99 (fun H locs hP hD hS => ?_)
                  have hP : va_P g.1 vwCl (TW g ad q (sT_countSizes (wOf sl wv) s7).1 f (sT_countSizes (wOf sl wv) s7).2 sl cnt hh 0 LW wv) H := hP
                  have hD : va_D A (TW g ad q (sT_countSizes (wOf sl wv) s7).1 f (sT_countSizes (wOf sl wv) s7).2 sl cnt hh 0 LW wv) := hD
                  have hEF : (sT_grow (wOf sl wv) s0 h st) = ((sT_countSizes (wOf sl wv) s7), hh, 0) := by have q := hG; rw [← hR9] at q; exact q
                  have hz9 : rowsT ((sT_grow (wOf sl wv) s0 h st).1).1 f ((sT_grow (wOf sl wv) s0 h st).1).2 := by rw [hEF]; exact hz
                  have hP9 : va_P g.1 vwCl (TW g ad q ((sT_grow (wOf sl wv) s0 h st).1).1 f ((sT_grow (wOf sl wv) s0 h st).1).2 sl cnt (sT_grow (wOf sl wv) s0 h st).2.1 (sT_grow (wOf sl wv) s0 h st).2.2 LW wv) H := by rw [hEF]; exact hP
                  have hD9 : va_D A (TW g ad q ((sT_grow (wOf sl wv) s0 h st).1).1 f ((sT_grow (wOf sl wv) s0 h st).1).2 sl cnt (sT_grow (wOf sl wv) s0 h st).2.1 (sT_grow (wOf sl wv) s0 h st).2.2 LW wv) := by rw [hEF]; exact hD
                  have hmF : mu ((sT_grow (wOf sl wv) s0 h st).1).1 = mu (sT_countSizes (wOf sl wv) s7).1 := by rw [hEF]
                  refine W.widen (k := (mu ((sT_grow (wOf sl wv) s0 h st).1).1 - mu s0.1)) (n := (mu ((sT_grow (wOf sl wv) s0 h st).1).1 - mu s0.1)) (by omega) (by omega) ?_
                  exact W.vret hx hb hr (fun t ht9 hW => ⟨⟨(q, f), rfl, hz9, by rw [ht9]; exact hP9, hD9⟩, hS.F ht9⟩) hS.2.2 dT_grow_102
                · skip
                  exact absurd (by rw [hi]; exact nI_le (a := 4096) (by omega) (by omega)) c_9
              | succ n ih =>
                intro k0 s7 hh i q f H locs ls hk hi hle hso7 hR hz hP hD hS hl
                have hs7 : mu s7.1 ≤ mu (grP (wOf sl wv) s0).1.1 := by rw [← hR]; exact sGL_mono _ _ _ _
                have hl7 := rowsT_lt hz 16 (by decide)
                have hw7 := rowsT_lt hz 10 (by decide)
                refine lv_iload_n hx hb dT_grow_66 rfl (lv_at hl 0 rfl) ?_
                refine lv_sipush (v := 4096) hx hb dT_grow_67 (by decide) ?_
                refine lv_icmp_ge (tgt := 93) hx hb dT_grow_70 (by decide) (fun c_10 => ?_) (fun c_10 => ?_)
                · skip
                  exact absurd c_10 (by rw [hi]; exact nI_ge (b := 4096) (by omega) (by omega))
                · skip
                  refine lv_aload_n hx hb dT_grow_73 rfl (lv_at hl 1 rfl) ?_
                  refine va_get (D := g.1) (ci := 4) (v := .ref (ad 22)) (C := "NodeMaker$Tree") (T := Fd_T) (N := 16) hx hb ht i_T hown hK.1 hP 0 rfl rfl 10 (by decide) (ht _ q_115) (fun _ h9 => h9) rfl dT_grow_74 ?_
                  have hPc := hP.sub (ws' := rowW g (ad 22) (q 16) (s7.1 16) (f 16) (s7.2 16).length) [38, 39] rfl
                  refine ro_Vi (v := nI (s7.2 16).length) (As := []) (rest := []) ⟨hx, hb, hml, hown, ht⟩ (cR_count l g (ad 22) (q 16) (s7.1 16) (f 16) (s7.2 16)) (cwV 0 ht (g_V q_320 q_312 q_313 q_37 q_314) rfl rfl rfl hd_R_count ⟨Nat.le_of_ble_eq_true rfl, Nat.le_of_ble_eq_true rfl⟩) hK (hPc) (va_recv hK.1 hPc (ci := 0) (q0 := 0) rfl rfl) rfl hl.1 rfl (Nat.le_of_ble_eq_true rfl) dT_grow_77 ⟨by show mu s7.1 - mu s0.1 ≤ (mu ((sT_grow (wOf sl wv) s0 h st).1).1 - mu s0.1); omega, by show mu s7.1 - mu s0.1 ≤ (mu ((sT_grow (wOf sl wv) s0 h st).1).1 - mu s0.1); omega⟩ ?_
                  refine lv_if_le (tgt := 93) hx hb dT_grow_80 (by decide) (fun c_11 => ?_) (fun c_11 => ?_)
                  · skip
                    refine lv_aload_n hx hb dT_grow_93 rfl (lv_at hl 1 rfl) ?_
                    have he7 : (s7.2 16).length = 0 := Nat.le_zero.1 ((nI_leI (b := 0) (by omega) (by decide)).1 c_11)
                    have hR9 : (s7, hh) = (grP (wOf sl wv) s0) := by rw [← hR]; exact (show _ = (if (s7.2 16).length = 0 then _ else _) from (if_pos he7).symm)
                    have hmc : mu (sT_countSizes (wOf sl wv) s7).1 = mu s7.1 := csL_mu _ _ _
                    refine rw_vA (va_runV (As := []) (rest := []) ⟨hx, hb, hml, hown, ht⟩ (cT_countSizes l g H.size ad q f s7 sl cnt hh st LW wv hz hsl) (cwV 0 ht (g_V q_386 q_388 q_7 q_35 q_389) rfl rfl rfl hd_T_countSizes ⟨Nat.le_of_ble_eq_true rfl, Nat.le_of_ble_eq_true rfl⟩) (rw_V hK hP hD (va_recv hK.1 hP (ci := 4) (q0 := 0) rfl rfl)) rfl rfl hl.1 rfl (lv_room (Nat.le_of_ble_eq_true rfl)) dT_grow_94 ⟨by show mu s7.1 - mu s0.1 + 0 ≤ (mu ((sT_grow (wOf sl wv) s0 h st).1).1 - mu s0.1); omega, by show mu s7.1 - mu s0.1 + 0 ≤ (mu ((sT_grow (wOf sl wv) s0 h st).1).1 - mu s0.1); omega⟩) hD hS hA (fun u H locs hw hP hD hS => ?_)
                    obtain ⟨q, f⟩ := u
                    have hz : rowsT (sT_countSizes (wOf sl wv) s7).1 f (sT_countSizes (wOf sl wv) s7).2 := hw
                    have hP : va_P g.1 vwCl (TW g ad q (sT_countSizes (wOf sl wv) s7).1 f (sT_countSizes (wOf sl wv) s7).2 sl cnt hh st LW wv) H := hP
                    have hD : va_D A (TW g ad q (sT_countSizes (wOf sl wv) s7).1 f (sT_countSizes (wOf sl wv) s7).2 sl cnt hh st LW wv) := hD
                    refine W.widen (k := mu s7.1 - mu s0.1) (n := mu s7.1 - mu s0.1) (Nat.le_refl _) (Nat.le_refl _) ?_
                    refine lv_aload_n hx hb dT_grow_97 rfl (lv_at hl 1 rfl) ?_
                    refine lv_iconst (v := 0) hx hb dT_grow_98 (by decide) ?_
                    refine va_put (D := g.1) (ci := 4) (v := .int 0) (ty := .boolean) (C := "NodeMaker$Tree") (T := Fd_T) (N := 16) hx hb ht i_T ty_T ty_T_ok nm_T hown hK.1 hP hD hS 0 rfl rfl 15 (by decide) (ht _ q_120) (fun _ h9 => h9) rfl (by decide +kernel) rfl rfl (Nat.le_of_ble_eq_true rfl) dT_grow_99 (fun H locs hP hD hS => ?_)
                    have hP : va_P g.1 vwCl (TW g ad q (sT_countSizes (wOf sl wv) s7).1 f (sT_countSizes (wOf sl wv) s7).2 sl cnt hh 0 LW wv) H := hP
                    have hD : va_D A (TW g ad q (sT_countSizes (wOf sl wv) s7).1 f (sT_countSizes (wOf sl wv) s7).2 sl cnt hh 0 LW wv) := hD
                    have hEF : (sT_grow (wOf sl wv) s0 h st) = ((sT_countSizes (wOf sl wv) s7), hh, 0) := by have q := hG; rw [← hR9] at q; exact q
                    have hz9 : rowsT ((sT_grow (wOf sl wv) s0 h st).1).1 f ((sT_grow (wOf sl wv) s0 h st).1).2 := by rw [hEF]; exact hz
                    have hP9 : va_P g.1 vwCl (TW g ad q ((sT_grow (wOf sl wv) s0 h st).1).1 f ((sT_grow (wOf sl wv) s0 h st).1).2 sl cnt (sT_grow (wOf sl wv) s0 h st).2.1 (sT_grow (wOf sl wv) s0 h st).2.2 LW wv) H := by rw [hEF]; exact hP
                    have hD9 : va_D A (TW g ad q ((sT_grow (wOf sl wv) s0 h st).1).1 f ((sT_grow (wOf sl wv) s0 h st).1).2 sl cnt (sT_grow (wOf sl wv) s0 h st).2.1 (sT_grow (wOf sl wv) s0 h st).2.2 LW wv) := by rw [hEF]; exact hD
                    have hmF : mu ((sT_grow (wOf sl wv) s0 h st).1).1 = mu (sT_countSizes (wOf sl wv) s7).1 := by rw [hEF]
                    refine W.widen (k := (mu ((sT_grow (wOf sl wv) s0 h st).1).1 - mu s0.1)) (n := (mu ((sT_grow (wOf sl wv) s0 h st).1).1 - mu s0.1)) (by omega) (by omega) ?_
                    exact W.vret hx hb hr (fun t ht9 hW => ⟨⟨(q, f), rfl, hz9, by rw [ht9]; exact hP9, hD9⟩, hS.F ht9⟩) hS.2.2 dT_grow_102
                  · skip
                    refine lv_aload_n hx hb dT_grow_83 rfl (lv_at hl 1 rfl) ?_
                    have hne : ¬ (s7.2 16).length = 0 := fun q => c_11 (by rw [q]; decide)
                    obtain ⟨t1, t2, t3⟩ := hso7.top hl7 hw7 hne
                    have hso7 := hso7.step hl7 hw7 hne (wOf sl wv) hh
                    have hR7 : sGL (wOf sl wv) n (sPN (wOf sl wv) (pnT s7) (pnF s7) s7 hh).1 (sPN (wOf sl wv) (pnT s7) (pnF s7) s7 hh).2 = (grP (wOf sl wv) s0) := by rw [← hR]; exact (show _ = (if (s7.2 16).length = 0 then _ else _) from (if_neg hne).symm)
                    have hmP : mu s7.1 ≤ mu (sPN (wOf sl wv) (pnT s7) (pnF s7) s7 hh).1.1 := sPN_mono _ _ _ _ _
                    have hmP2 : mu (sPN (wOf sl wv) (pnT s7) (pnF s7) s7 hh).1.1 ≤ mu (grP (wOf sl wv) s0).1.1 := by rw [← hR7]; exact sGL_mono _ _ _ _
                    obtain ⟨pn, hpn⟩ : ∃ x, x = sPN (wOf sl wv) (pnT s7) (pnF s7) s7 hh := ⟨_, rfl⟩
                    rw [← hpn] at hso7 hR7 hmP hmP2
                    have huse : mu (sPN (wOf sl wv) (pnT s7) (pnF s7) s7 hh).1.1 = mu pn.1.1 := by rw [hpn]
                    refine rw_vA (va_runV (As := []) (rest := []) ⟨hx, hb, hml, hown, ht⟩ (cT_plantNext l g H.size ad q f s7 sl cnt hh st LW wv hz hsl (pnT s7) (pnF s7) t1 t2 t3) (cwV 0 ht (g_V q_321 q_323 q_2 q_35 q_324) rfl rfl rfl hd_T_plantNext ⟨Nat.le_of_ble_eq_true rfl, Nat.le_of_ble_eq_true rfl⟩) (rw_V hK hP hD (va_recv hK.1 hP (ci := 4) (q0 := 0) rfl rfl)) rfl rfl hl.1 rfl (lv_room (Nat.le_of_ble_eq_true rfl)) dT_grow_84 ⟨by show mu s7.1 - mu s0.1 + (mu (sPN (wOf sl wv) (pnT s7) (pnF s7) s7 hh).1.1 - mu s7.1) ≤ (mu ((sT_grow (wOf sl wv) s0 h st).1).1 - mu s0.1); omega, by show mu s7.1 - mu s0.1 + (mu (sPN (wOf sl wv) (pnT s7) (pnF s7) s7 hh).1.1 - mu s7.1) ≤ (mu ((sT_grow (wOf sl wv) s0 h st).1).1 - mu s0.1); omega⟩) hD hS hA (fun u H locs hw hP hD hS => ?_)
                    obtain ⟨q, f⟩ := u
                    have hz : rowsT pn.1.1 f pn.1.2 := by rw [hpn]; exact hw
                    have hP : va_P g.1 vwCl (TW g ad q pn.1.1 f pn.1.2 sl cnt pn.2 st LW wv) H := by rw [hpn]; exact hP
                    have hD : va_D A (TW g ad q pn.1.1 f pn.1.2 sl cnt pn.2 st LW wv) := by rw [hpn]; exact hD
                    have hle7 : mu s0.1 ≤ mu pn.1.1 := by omega
                    refine W.widen (k := mu pn.1.1 - mu s0.1) (n := mu pn.1.1 - mu s0.1) (by show mu s7.1 - mu s0.1 + (mu (sPN (wOf sl wv) (pnT s7) (pnF s7) s7 hh).1.1 - mu s7.1) ≤ _; omega) (by show mu s7.1 - mu s0.1 + (mu (sPN (wOf sl wv) (pnT s7) (pnF s7) s7 hh).1.1 - mu s7.1) ≤ _; omega) ?_
                    refine lv_iinc (v := i + 1) (lv' := [(1, .int (i + 1)), (0, .ref (ad 0))]) hx hb dT_grow_87 hl (k := 0) rfl rfl (by decide) rfl (fun ls hl => ?_)
                    refine lv_goto (tgt := 66) hx hb dT_grow_90 (by decide) ?_
                    exact ih (k0 + 1) pn.1 pn.2 (i + 1) q f H locs ls (by omega) (by rw [hi]; exact nI_1 k0) hle7 hso7 hR7 hz hP hD hS (lv_sub hl [0, 1] rfl)
            exact loop66 4096 0 s6 0 0 q f H locs ls (by omega) rfl hle6 (by rw [hs6]; exact hso) (by rw [hs6, hsG]; rfl) hz hP hD hS (lv_sub hl [0, 1] rfl)
          refine lv_aload_n hx hb dT_grow_47 rfl (lv_at hl 1 rfl) ?_
          refine va_get (D := g.1) (ci := 4) (v := .ref (ad 4)) (C := "NodeMaker$Tree") (T := Fd_T) (N := 16) hx hb ht i_T hown hK.1 hP 0 rfl rfl 9 (by decide) (ht _ q_114) (fun _ h9 => h9) rfl dT_grow_48 ?_
          have hPc := hP.sub (ws' := (piW g (ad 4) (fun k => ad (16 + k)) (fun k => q (10 + k)) (fun k => s9.1 (10 + k)) (fun k => f (10 + k)) (fun k => (s9.2 (10 + k)).length))) [4, 26, 27, 28, 29, 30, 31] rfl
          refine ro_Vi (v := nI (s9.2 10).length) (As := []) (rest := []) ⟨hx, hb, hml, hown, ht⟩ (cP_count l g (ad 4) (fun k => ad (16 + k)) (fun k => q (10 + k)) (fun k => s9.1 (10 + k)) (fun k => f (10 + k)) (fun k => s9.2 (10 + k)) (rows_3 10 (by decide) hz) ) (cwV 0 ht (g_V q_307 q_308 q_309 q_38 q_310) rfl rfl rfl hd_P_count ⟨Nat.le_of_ble_eq_true rfl, Nat.le_of_ble_eq_true rfl⟩) hK (hPc) (va_recv hK.1 hPc (ci := 1) (q0 := 0) rfl rfl) rfl hl.1 rfl (Nat.le_of_ble_eq_true rfl) dT_grow_51 ⟨by show mu s9.1 - mu s0.1 ≤ (mu ((sT_grow (wOf sl wv) s0 h st).1).1 - mu s0.1); omega, by show mu s9.1 - mu s0.1 ≤ (mu ((sT_grow (wOf sl wv) s0 h st).1).1 - mu s0.1); omega⟩ ?_
          refine lv_if_le (tgt := 64) hx hb dT_grow_54 (by decide) (fun c_12 => ?_) (fun c_12 => ?_)
          · skip
            have e6 : s9 = grA s9 := by rw [grA, if_pos c_12]
            exact join64 s9 q f _ _ ls e6 hz hP hD hS (lv_sub hl [1] rfl)
          · skip
            refine lv_aload_n hx hb dT_grow_57 rfl (lv_at hl 1 rfl) ?_
            refine lv_iconst (v := 0) hx hb dT_grow_58 (by decide) ?_
            refine lv_iconst (v := -1) hx hb dT_grow_59 (by decide) ?_
            refine lv_iconst (v := 1) hx hb dT_grow_60 (by decide) ?_
            have h6w : mu (awt 0 (-1) 1 s9).1 ≤ mu ((sT_grow (wOf sl wv) s0 h st).1).1 := by have : grA s9 = awt 0 (-1) 1 s9 := by { rw [grA, if_neg c_12] }; rw [← this]; omega
            have hma : mu s9.1 ≤ mu (awt 0 (-1) 1 s9).1 := awt_mono _ _ _ _
            refine rw_vA (va_runV (As := [.int 0, .int (-1), .int 1]) (rest := []) ⟨hx, hb, hml, hown, ht⟩ (cT_await l g H.size ad q f s9 sl cnt 0 st LW wv hz hsl 0 (-1) 1) (cwV 3 ht (g_V q_315 q_317 q_1 q_35 q_318) rfl rfl rfl hd_T_await ⟨Nat.le_of_ble_eq_true rfl, Nat.le_of_ble_eq_true rfl⟩) (rw_V hK hP hD (va_recv hK.1 hP (ci := 4) (q0 := 0) rfl rfl)) rfl rfl hl.1 rfl (lv_room (Nat.le_of_ble_eq_true rfl)) dT_grow_61 ⟨by show mu s9.1 - mu s0.1 + (mu (awt 0 (-1) 1 s9).1 - mu s9.1) ≤ (mu ((sT_grow (wOf sl wv) s0 h st).1).1 - mu s0.1); omega, by show mu s9.1 - mu s0.1 + (mu (awt 0 (-1) 1 s9).1 - mu s9.1) ≤ (mu ((sT_grow (wOf sl wv) s0 h st).1).1 - mu s0.1); omega⟩) hD hS hA (fun u H locs hw hP hD hS => ?_)
            obtain ⟨q, f⟩ := u
            have hz : rowsT (awt 0 (-1) 1 s9).1 f (awt 0 (-1) 1 s9).2 := hw
            have hP : va_P g.1 vwCl (TW g ad q (awt 0 (-1) 1 s9).1 f (awt 0 (-1) 1 s9).2 sl cnt 0 st LW wv) H := hP
            have hD : va_D A (TW g ad q (awt 0 (-1) 1 s9).1 f (awt 0 (-1) 1 s9).2 sl cnt 0 st LW wv) := hD
            refine W.widen (k := mu (awt 0 (-1) 1 s9).1 - mu s0.1) (n := mu (awt 0 (-1) 1 s9).1 - mu s0.1) (by show mu s9.1 - mu s0.1 + (mu (awt 0 (-1) 1 s9).1 - mu s9.1) ≤ _; omega) (by show mu s9.1 - mu s0.1 + (mu (awt 0 (-1) 1 s9).1 - mu s9.1) ≤ _; omega) ?_
            have e6 : awt 0 (-1) 1 s9 = grA s9 := by rw [grA, if_neg c_12]
            exact join64 (awt 0 (-1) 1 s9) q f _ _ ls e6 hz hP hD hS (lv_sub hl [1] rfl)
        · skip
          exact absurd (by rw [hi]; exact nI_le (a := 64) (by omega) (by omega)) c_8
      | succ n ih =>
        intro k0 s9 i q f H locs ls hk hi hle hR hz hP hD hS hl
        have hs9 : mu s9.1 ≤ mu (sT_grow (wOf sl wv) s0 h st).1.1 := Nat.le_trans (by rw [← hR]; exact grL_mono _ _ _ _) hmG
        refine lv_iload_n hx hb dT_grow_14 rfl (lv_at hl 0 rfl) ?_
        refine lv_bipush (v := 64) hx hb dT_grow_15 (by decide) ?_
        refine lv_icmp_ge (tgt := 47) hx hb dT_grow_17 (by decide) (fun c_13 => ?_) (fun c_13 => ?_)
        · skip
          exact absurd c_13 (by rw [hi]; exact nI_ge (b := 64) (by omega) (by omega))
        · skip
          refine lv_aload_n hx hb dT_grow_20 rfl (lv_at hl 1 rfl) ?_
          refine va_get (D := g.1) (ci := 4) (v := .ref (ad 1)) (C := "NodeMaker$Tree") (T := Fd_T) (N := 16) hx hb ht i_T hown hK.1 hP 0 rfl rfl 0 (by decide) (ht _ q_105) (fun _ h9 => h9) rfl dT_grow_21 ?_
          refine lv_iload_n hx hb dT_grow_24 rfl (lv_at hl 0 rfl) ?_
          have hPc := pl_P (cx := wsX g (ad 1) (ad 2) sl cnt) hP [1, 2] rfl
          refine ro_Vq (As := [.int i]) (rest := []) ⟨hx, hb, hml, hown, ht⟩ (cS_at l g (ad 1) (ad 2) sl cnt LW wv hsl i) (cwV 1 ht (g_V q_284 q_248 q_249 q_36 q_250) rfl rfl rfl hd_S_at ⟨Nat.le_of_ble_eq_true rfl, Nat.le_of_ble_eq_true rfl⟩) hK hPc (va_recv hK.1 hPc (ci := 3) (q0 := 0) rfl rfl) rfl hl.1 rfl (Nat.le_of_ble_eq_true rfl) dT_grow_25 ⟨by show mu s9.1 - mu s0.1 ≤ (mu ((sT_grow (wOf sl wv) s0 h st).1).1 - mu s0.1); omega, by show mu s9.1 - mu s0.1 ≤ (mu ((sT_grow (wOf sl wv) s0 h st).1).1 - mu s0.1); omega⟩ (fun hq => ?_) (fun x_14 hq => ?_)
          · skip
            have hw9 : wAt (wOf sl wv) i = none := hq.1.symm
            refine lv_ifnullN (tgt := 41) hx hb dT_grow_28 (by decide) ?_
            refine lv_iinc (v := i + 1) (lv' := [(1, .int (i + 1)), (0, .ref (ad 0))]) hx hb dT_grow_41 hl (k := 0) rfl rfl (by decide) rfl (fun ls hl => ?_)
            refine lv_goto (tgt := 14) hx hb dT_grow_44 (by decide) ?_
            exact ih (k0 + 1) s9 (i + 1) q f H locs ls (by omega) (by rw [hi]; exact nI_1 k0) hle (by rw [← hR, grL, if_pos hw9]) hz hP hD hS (lv_sub hl [0, 1] rfl)
          · skip
            have hw9 : ¬ wAt (wOf sl wv) i = none := by rw [← hq.1]; exact fun h => by cases h
            refine lv_ifnull hx hb dT_grow_28 ?_
            refine lv_aload_n hx hb dT_grow_31 rfl (lv_at hl 1 rfl) ?_
            refine va_get (D := g.1) (ci := 4) (v := .ref (ad 4)) (C := "NodeMaker$Tree") (T := Fd_T) (N := 16) hx hb ht i_T hown hK.1 hP 0 rfl rfl 9 (by decide) (ht _ q_114) (fun _ h9 => h9) rfl dT_grow_32 ?_
            refine lv_iload_n hx hb dT_grow_35 rfl (lv_at hl 0 rfl) ?_
            refine lv_iconst (v := -1) hx hb dT_grow_36 (by decide) ?_
            refine lv_iconst (v := -1) hx hb dT_grow_37 (by decide) ?_
            have hmu : mu (pAdd 10 i (-1) (-1) s9).1 = mu s9.1 + (aUse (s9.1 10) (s9.2 10) + aUse (s9.1 11) (s9.2 11) + aUse (s9.1 12) (s9.2 12)) := mu_pAdd (K := 10) (v0 := i) (v1 := (-1)) (v2 := (-1)) (s := s9) (by decide)
            have hfit : mu (pAdd 10 i (-1) (-1) s9).1 ≤ mu ((sT_grow (wOf sl wv) s0 h st).1).1 := Nat.le_trans (show mu (pAdd 10 i (-1) (-1) s9).1 ≤ mu (grL (wOf sl wv) n (i + 1) (pAdd 10 i (-1) (-1) s9)).1 from grL_mono _ _ _ _) (by rw [show grL (wOf sl wv) n (i + 1) (pAdd 10 i (-1) (-1) s9) = (grL (wOf sl wv) 64 0 (sT_fell s0)) from by rw [← hR, grL, if_neg hw9]]; exact hmG)
            refine tp_add_10 ⟨hx, hb, hml, hown, ht⟩ q_285 ⟨Nat.le_of_ble_eq_true rfl, Nat.le_of_ble_eq_true rfl⟩ hK hz hP hD hS hA hl.1 (Nat.le_of_ble_eq_true rfl) dT_grow_38 ⟨by show mu s9.1 - mu s0.1 + (aUse (s9.1 10) (s9.2 10) + aUse (s9.1 11) (s9.2 11) + aUse (s9.1 12) (s9.2 12)) ≤ (mu ((sT_grow (wOf sl wv) s0 h st).1).1 - mu s0.1); omega, by show mu s9.1 - mu s0.1 + (aUse (s9.1 10) (s9.2 10) + aUse (s9.1 11) (s9.2 11) + aUse (s9.1 12) (s9.2 12)) ≤ (mu ((sT_grow (wOf sl wv) s0 h st).1).1 - mu s0.1); omega⟩ (fun q f H locs hz hP hD hS => ?_)
            have hz : rowsT (pAdd 10 i (-1) (-1) s9).1 f (pAdd 10 i (-1) (-1) s9).2 := hz
            have hP : va_P g.1 vwCl (TW g ad q (pAdd 10 i (-1) (-1) s9).1 f (pAdd 10 i (-1) (-1) s9).2 sl cnt 0 st LW wv) H := hP
            have hD : va_D A (TW g ad q (pAdd 10 i (-1) (-1) s9).1 f (pAdd 10 i (-1) (-1) s9).2 sl cnt 0 st LW wv) := hD
            have hle : mu s0.1 ≤ mu (pAdd 10 i (-1) (-1) s9).1 := by omega
            refine W.widen (k := mu (pAdd 10 i (-1) (-1) s9).1 - mu s0.1) (n := mu (pAdd 10 i (-1) (-1) s9).1 - mu s0.1) (by omega) (by omega) ?_
            refine lv_iinc (v := i + 1) (lv' := [(1, .int (i + 1)), (0, .ref (ad 0))]) hx hb dT_grow_41 hl (k := 0) rfl rfl (by decide) rfl (fun ls hl => ?_)
            refine lv_goto (tgt := 14) hx hb dT_grow_44 (by decide) ?_
            exact ih (k0 + 1) (pAdd 10 i (-1) (-1) s9) (i + 1) q f H locs ls (by omega) (by rw [hi]; exact nI_1 k0) hle (by rw [← hR, grL, if_neg hw9]) hz hP hD hS (lv_sub hl [0, 1] rfl)
    refine W.widen (k := mu (sT_fell s0).1 - mu s0.1) (n := mu (sT_fell s0).1 - mu s0.1) (Nat.zero_le _) (Nat.zero_le _) ?_
    exact loop14 64 0 (sT_fell s0) 0 q f H locs ls (by omega) rfl (Nat.le_refl _) rfl hz hP hD hS (lv_sub hl [0, 1] rfl)
  · skip
    have hEF : (sT_grow (wOf sl wv) s0 h st) = (s0, h, st) := if_pos c_7
    have hz9 : rowsT ((sT_grow (wOf sl wv) s0 h st).1).1 f ((sT_grow (wOf sl wv) s0 h st).1).2 := by rw [hEF]; exact hz
    have hP9 : va_P g.1 vwCl (TW g ad q ((sT_grow (wOf sl wv) s0 h st).1).1 f ((sT_grow (wOf sl wv) s0 h st).1).2 sl cnt (sT_grow (wOf sl wv) s0 h st).2.1 (sT_grow (wOf sl wv) s0 h st).2.2 LW wv) s.heap := by rw [hEF]; exact hP
    have hD9 : va_D A (TW g ad q ((sT_grow (wOf sl wv) s0 h st).1).1 f ((sT_grow (wOf sl wv) s0 h st).1).2 sl cnt (sT_grow (wOf sl wv) s0 h st).2.1 (sT_grow (wOf sl wv) s0 h st).2.2 LW wv) := by rw [hEF]; exact hD
    have hmF : mu ((sT_grow (wOf sl wv) s0 h st).1).1 = mu s0.1 := by rw [hEF]
    refine W.widen (k := (mu ((sT_grow (wOf sl wv) s0 h st).1).1 - mu s0.1)) (n := (mu ((sT_grow (wOf sl wv) s0 h st).1).1 - mu s0.1)) (by omega) (by omega) ?_
    exact W.vret hx hb hr (fun t ht9 hW => ⟨⟨(q, f), rfl, hz9, by rw [ht9]; exact hP9, hD9⟩, hS.F ht9⟩) hS.2.2 dT_grow_7
