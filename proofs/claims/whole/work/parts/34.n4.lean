/-- what put refuses before it looks at the walls: 1 refused -/
def sN_bad (ax ay bx by_ : Int32) : Int32 := if sN_isPlace ax ay = 0 then 1 else if sN_isPlace bx by_ = 0 then 1 else if ax = bx then (if ay = by_ then 1 else 0) else 0
/-- put's answer -/
def sN_put (Wl : Nat → Option WV) (ax ay bx by_ : Int32) : Int32 := if sN_bad ax ay bx by_ = 0 then sS_add Wl (ax, ay, bx, by_) else -1
set_option maxHeartbeats 4000000 in
set_option maxRecDepth 100000 in
theorem cN_put (l : Launch) (g : CX) (sz : Nat) (aN : Nat) (hw wx wy : Int32) (ad q : Nat → Nat) (f : Nat → Nat → Int32) (s0 : TSt) (sl : Nat → Option Nat) (cnt h st : Int32) (LW : List Nat) (wv : Nat → WV) (hz : rowsT s0.1 f s0.2) (hsl : slOK sl LW) (ax ay bx by_ : Int32) : Met l yN_put (wm yN_put kN_put 5 (some .int)) ({ frames := 5, cells := 1, slots := 4, locals := 114 }) (rw g [.ref aN, .int ax, .int ay, .int bx, .int by_] (nX g aN hw wx wy ad q s0.1 f s0.2 sl cnt h st ++ plW LW wv) sz) (va_Qi (fun (r : Int32) (u : ((Nat → Nat) × (Nat → Nat → Int32)) × List Nat × (Nat → WV) × (Nat → Option Nat)) => r = sN_put (wOf sl wv) ax ay bx by_ ∧ rowsT s0.1 u.1.2 s0.2 ∧ slOK u.2.2.2 u.2.1 ∧ wOf u.2.2.2 u.2.2.1 = wlAdd (wOf sl wv) (sN_put (wOf sl wv) ax ay bx by_) (ax, ay, bx, by_)) (rB g (va_A (nX g aN hw wx wy ad q s0.1 f s0.2 sl cnt h st ++ plW LW wv) sz) (fun u => (nX g aN hw wx wy ad u.1.1 s0.1 u.1.2 s0.2 u.2.2.2 (if sN_put (wOf sl wv) ax ay bx by_ = -1 then cnt else cnt + 1) h (if sN_bad ax ay bx by_ = 0 then (if st = 0 then (if sN_put (wOf sl wv) ax ay bx by_ = -1 then 0 else 1) else 1) else st : Int32) ++ plW u.2.1 u.2.2.1))) (va_A (nX g aN hw wx wy ad q s0.1 f s0.2 sl cnt h st ++ plW LW wv) sz)) 1 4 (va_A (nX g aN hw wx wy ad q s0.1 f s0.2 sl cnt h st ++ plW LW wv) sz) := by
  refine Met.ofW (cc := kN_put) (maxL := 5) (ret := (some .int)) (by decide) rfl ?_
  intro p e s m args below meth c s₁ B hml hv
  obtain ⟨rfl, hsz, hK, hP, hD0⟩ := hv
  have hx := B.exec
  have hb := B.bytes
  have hr := B.returns
  have ht : ∀ w ∈ wT, w.before _ s = true := fun w h => atoms_spec (ws := wm yN_put kN_put 5 (some .int)) B.pre w (List.mem_cons_of_mem _ h)
  have hown : s.vm.findClass "NodeMaker" = some m.cls := findClass_of_methodNamed B.named
  have hlocks := B.notSynchronized
  subst hsz
  have hD := hD0.self (sz := s.heap.size)
  generalize hAe : va_A (nX g aN hw wx wy ad q s0.1 f s0.2 sl cnt h st ++ plW LW wv) s.heap.size = A at hD ⊢
  have hA : ∀ q : Nat, s.heap.size ≤ q → A q := fun q h => by rw [← hAe]; exact Or.inr h
  have hS : va_S A s.heap s.heap [] := va_S.rf
  have hl := lv_entry ([.ref aN, .int ax, .int ay, .int bx, .int by_]) (n := 5) (Nat.le_of_ble_eq_true rfl)
  rw [lg_entry_eq]
  generalize (lg_sl ([.ref aN, .int ax, .int ay, .int bx, .int by_]) ++ List.replicate (5 - (lg_sl ([.ref aN, .int ax, .int ay, .int bx, .int by_])).length) Slot.unset).toArray = ls at hl ⊢
  have hl : lv_has ls 5 [(0, .ref aN), (1, .int ax), (2, .int ay), (3, .int bx), (4, .int by_)] := hl
  refine lv_iload_n hx hb dN_put_0 rfl (lv_at hl 1 rfl) ?_
  refine lv_iload_n hx hb dN_put_1 rfl (lv_at hl 2 rfl) ?_
  refine ro_Si (v := sN_isPlace ax ay) (As := [.int ax, .int ay]) (rest := []) ⟨hx, hb, hml, hown, ht⟩ (cN_isPlace l g ax ay) (cwS 2 ht (g_S q_171 q_172 q_34 q_173) rfl rfl rfl hd_N_isPlace ⟨Nat.le_of_ble_eq_true rfl, Nat.le_of_ble_eq_true rfl⟩) hK (trivial) rfl hl.1 rfl (Nat.le_of_ble_eq_true rfl) dN_put_2 ⟨by show 0 ≤ 1; omega, by show 0 ≤ 4; omega⟩ ?_
  refine lv_if_eq (tgt := 28) hx hb dN_put_5 (by decide) (fun c_3 => ?_) (fun c_3 => ?_)
  · skip
    refine lv_iconst (v := -1) hx hb dN_put_28 (by decide) ?_
    have hbad : ¬ sN_bad ax ay bx by_ = 0 := by rw [sN_bad, if_pos c_3]; decide
    have hRR : sN_put (wOf sl wv) ax ay bx by_ = -1 := by rw [sN_put, if_neg hbad]
    have e9 : (if sN_bad ax ay bx by_ = 0 then (if st = 0 then (if sN_put (wOf sl wv) ax ay bx by_ = -1 then 0 else 1) else 1) else st : Int32) = st := if_neg hbad
    have e8 : (if sN_put (wOf sl wv) ax ay bx by_ = -1 then cnt else cnt + 1) = cnt := if_pos hRR
    have hP9 : va_P g.1 vwCl (nX g aN hw wx wy ad q s0.1 f s0.2 sl (if sN_put (wOf sl wv) ax ay bx by_ = -1 then cnt else cnt + 1) h (if sN_bad ax ay bx by_ = 0 then (if st = 0 then (if sN_put (wOf sl wv) ax ay bx by_ = -1 then 0 else 1) else 1) else st : Int32) ++ plW LW wv) s.heap := by rw [e8, e9]; exact hP
    have hD9 : va_D A (nX g aN hw wx wy ad q s0.1 f s0.2 sl (if sN_put (wOf sl wv) ax ay bx by_ = -1 then cnt else cnt + 1) h (if sN_bad ax ay bx by_ = 0 then (if st = 0 then (if sN_put (wOf sl wv) ax ay bx by_ = -1 then 0 else 1) else 1) else st : Int32) ++ plW LW wv) := by rw [e8, e9]; exact hD
    refine W.widen (k := 1) (n := 4) (Nat.zero_le _) (Nat.zero_le _) ?_
    exact W.iret hx hb hr (fun t ht9 hW => ⟨⟨_, ((q, f), LW, wv, sl), rfl, ⟨hRR.symm, hz, hsl, by rw [hRR]; rfl⟩, by rw [ht9]; exact hP9, hD9⟩, hS.F ht9⟩) hS.2.2 dN_put_29
  · skip
    refine lv_iload_n hx hb dN_put_8 rfl (lv_at hl 3 rfl) ?_
    refine lv_iload hx hb dN_put_9 (lv_at hl 4 rfl) ?_
    refine ro_Si (v := sN_isPlace bx by_) (As := [.int bx, .int by_]) (rest := []) ⟨hx, hb, hml, hown, ht⟩ (cN_isPlace l g bx by_) (cwS 2 ht (g_S q_171 q_172 q_34 q_173) rfl rfl rfl hd_N_isPlace ⟨Nat.le_of_ble_eq_true rfl, Nat.le_of_ble_eq_true rfl⟩) hK (trivial) rfl hl.1 rfl (Nat.le_of_ble_eq_true rfl) dN_put_11 ⟨by show 0 ≤ 1; omega, by show 0 ≤ 4; omega⟩ ?_
    refine lv_if_eq (tgt := 28) hx hb dN_put_14 (by decide) (fun c_4 => ?_) (fun c_4 => ?_)
    · skip
      refine lv_iconst (v := -1) hx hb dN_put_28 (by decide) ?_
      have hbad : ¬ sN_bad ax ay bx by_ = 0 := by rw [sN_bad, if_neg c_3, if_pos c_4]; decide
      have hRR : sN_put (wOf sl wv) ax ay bx by_ = -1 := by rw [sN_put, if_neg hbad]
      have e9 : (if sN_bad ax ay bx by_ = 0 then (if st = 0 then (if sN_put (wOf sl wv) ax ay bx by_ = -1 then 0 else 1) else 1) else st : Int32) = st := if_neg hbad
      have e8 : (if sN_put (wOf sl wv) ax ay bx by_ = -1 then cnt else cnt + 1) = cnt := if_pos hRR
      have hP9 : va_P g.1 vwCl (nX g aN hw wx wy ad q s0.1 f s0.2 sl (if sN_put (wOf sl wv) ax ay bx by_ = -1 then cnt else cnt + 1) h (if sN_bad ax ay bx by_ = 0 then (if st = 0 then (if sN_put (wOf sl wv) ax ay bx by_ = -1 then 0 else 1) else 1) else st : Int32) ++ plW LW wv) s.heap := by rw [e8, e9]; exact hP
      have hD9 : va_D A (nX g aN hw wx wy ad q s0.1 f s0.2 sl (if sN_put (wOf sl wv) ax ay bx by_ = -1 then cnt else cnt + 1) h (if sN_bad ax ay bx by_ = 0 then (if st = 0 then (if sN_put (wOf sl wv) ax ay bx by_ = -1 then 0 else 1) else 1) else st : Int32) ++ plW LW wv) := by rw [e8, e9]; exact hD
      refine W.widen (k := 1) (n := 4) (Nat.zero_le _) (Nat.zero_le _) ?_
      exact W.iret hx hb hr (fun t ht9 hW => ⟨⟨_, ((q, f), LW, wv, sl), rfl, ⟨hRR.symm, hz, hsl, by rw [hRR]; rfl⟩, by rw [ht9]; exact hP9, hD9⟩, hS.F ht9⟩) hS.2.2 dN_put_29
    · skip
      refine lv_iload_n hx hb dN_put_17 rfl (lv_at hl 1 rfl) ?_
      refine lv_iload_n hx hb dN_put_18 rfl (lv_at hl 3 rfl) ?_
      refine lv_icmp_ne (tgt := 30) hx hb dN_put_19 (by decide) (fun c_5 => ?_) (fun c_5 => ?_)
      · skip
        have hbad : sN_bad ax ay bx by_ = 0 := by rw [sN_bad, if_neg c_3, if_neg c_4, if_neg c_5]
        refine lv_aload_n hx hb dN_put_30 rfl (lv_at hl 0 rfl) ?_
        refine va_get (D := g.1) (ci := 5) (v := .ref (ad 0)) (C := "NodeMaker") (T := Fd_N) (N := 4) hx hb ht i_N hown hK.1 hP 0 rfl rfl 0 (by decide) (ht _ q_154) (fun _ h9 => h9) rfl dN_put_31 ?_
        refine va_new (ci := 2) (fs := [.int 0, .int 0, .int 0, .int 0]) (C := "NodeMaker$Wall") (T := Fd_W) (N := 4) hx hb ht i_W ty_W ty_W_ok hown (ht _ q_174) (ht _ q_175) (ht _ q_40) hK.1 hP hD hS hA rfl (fun j hj => by rcases (show j = 0 ∨ j = 1 ∨ j = 2 ∨ j = 3 by omega) with rfl | rfl | rfl | rfl <;> rfl) (Nat.le_of_ble_eq_true rfl) (Nat.le_of_ble_eq_true rfl) dN_put_34 (fun b H hP hD hS => ?_)
        have hnew : b ∉ LW := pool_notin hD
        have hP := last_P hP
        have hD := last_D hD
        refine lv_dup hx hb dN_put_37 rfl ?_
        refine lv_iload_n hx hb dN_put_38 rfl (lv_at hl 1 rfl) ?_
        refine lv_iload_n hx hb dN_put_39 rfl (lv_at hl 2 rfl) ?_
        refine lv_iload_n hx hb dN_put_40 rfl (lv_at hl 3 rfl) ?_
        refine lv_iload hx hb dN_put_41 (lv_at hl 4 rfl) ?_
        have hPc : va_P g.1 vwCl [(b, .inr (2, [.int 0, .int 0, .int 0, .int 0]))] H := hP.sub [0] rfl
        have hDc : va_D A [(b, .inr (2, [.int 0, .int 0, .int 0, .int 0]))] := hD.sub [0] (by decide) rfl
        refine rw_vQ (X := [(b, .inr (2, [.int 0, .int 0, .int 0, .int 0]))]) (pl := nX g aN hw wx wy ad q s0.1 f s0.2 sl cnt h st ++ plW LW wv) (wr := []) (va_runI (As := [.int ax, .int ay, .int bx, .int by_]) (rest := [.ref b, .ref (ad 0)]) ⟨hx, hb, hml, hown, ht⟩ (cW_init l g H.size b ax ay bx by_) (cwI 4 ht (g_all q_178) rfl rfl rfl (ht _ q_40) (ht _ q_176) (ht _ q_177) rfl hd_W_init ⟨Nat.le_of_ble_eq_true rfl, Nat.le_of_ble_eq_true rfl⟩) (rw_S hK hPc hDc) rfl rfl hl.1 rfl (lv_room (Nat.le_of_ble_eq_true rfl)) dN_put_43 ⟨Nat.le_of_ble_eq_true rfl, Nat.le_of_ble_eq_true rfl⟩) hP hD hS hA [0] [] rfl rfl rfl (by decide) (by decide) (fun _ H locs _ hP hD hS => ?_)
        have hP : va_P g.1 vwCl (nX g aN hw wx wy ad q s0.1 f s0.2 sl cnt h st ++ plW (LW ++ [b]) (va_up wv b (ax, ay, bx, by_))) H := by rw [← pool_new hnew]; exact first_P hP
        have hD : va_D A (nX g aN hw wx wy ad q s0.1 f s0.2 sl cnt h st ++ plW (LW ++ [b]) (va_up wv b (ax, ay, bx, by_))) := by rw [← pool_new hnew]; exact first_D hD
        have hsl2 : slOK sl (LW ++ [b]) := slOK_new hsl
        have hbL : b ∈ LW ++ [b] := List.mem_append_right _ (List.mem_singleton.mpr rfl)
        have hwo : wOf sl (va_up wv b (ax, ay, bx, by_)) = (wOf sl wv) := wOf_new hsl hnew
        have hvb : va_up wv b (ax, ay, bx, by_) b = (ax, ay, bx, by_) := va_up_self _ _ _
        have hPt : va_P g.1 vwCl (treeX g ad q s0.1 f s0.2 sl cnt h st ++ plW (LW ++ [b]) (va_up wv b (ax, ay, bx, by_))) H := pl_P hP [1, 2, 3, 4, 5, 6, 7, 8, 9, 10, 11, 12, 13, 14, 15, 16, 17, 18, 19, 20, 21, 22, 23, 24, 25, 26, 27, 28, 29, 30, 31, 32, 33, 34, 35, 36, 37, 38, 39, 40, 41, 42, 43, 44] rfl
        have hDt : va_D A (treeX g ad q s0.1 f s0.2 sl cnt h st ++ plW (LW ++ [b]) (va_up wv b (ax, ay, bx, by_))) := pl_D hD [1, 2, 3, 4, 5, 6, 7, 8, 9, 10, 11, 12, 13, 14, 15, 16, 17, 18, 19, 20, 21, 22, 23, 24, 25, 26, 27, 28, 29, 30, 31, 32, 33, 34, 35, 36, 37, 38, 39, 40, 41, 42, 43, 44] (by decide) rfl
        refine rw_iP (X := nX g aN hw wx wy ad q s0.1 f s0.2 sl cnt h st) (pl := plW (LW ++ [b]) (va_up wv b (ax, ay, bx, by_))) (cx := treeX g ad q s0.1 f s0.2 sl cnt h st) (rx := fun (u : (Nat → Nat) × (Nat → Nat → Int32)) => treeX g ad u.1 s0.1 u.2 s0.2 (slAdd sl (sS_add (wOf sl (va_up wv b (ax, ay, bx, by_))) ((va_up wv b (ax, ay, bx, by_)) b)) b) (if sS_add (wOf sl (va_up wv b (ax, ay, bx, by_))) ((va_up wv b (ax, ay, bx, by_)) b) = -1 then cnt else cnt + 1) h (if st = 0 then (if sS_add (wOf sl (va_up wv b (ax, ay, bx, by_))) ((va_up wv b (ax, ay, bx, by_)) b) = -1 then 0 else 1) else 1 : Int32)) (pl1 := fun _ => plW (LW ++ [b]) (va_up wv b (ax, ay, bx, by_))) (wr := [(aN, .inr (5, [.ref (ad 0), .int hw, .int wx, .int wy]))]) (va_runV (As := [.ref b]) (rest := []) ⟨hx, hb, hml, hown, ht⟩ (cT_addWall l g H.size ad q f s0 sl cnt h st (LW ++ [b]) (va_up wv b (ax, ay, bx, by_)) hz hsl2 b hbL) (cwV 1 ht (g_V q_201 q_202 q_203 q_35 q_204) rfl rfl rfl hd_T_addWall ⟨Nat.le_of_ble_eq_true rfl, Nat.le_of_ble_eq_true rfl⟩) (rw_V hK hPt hDt (va_recv hK.1 hPt (ci := 4) (q0 := 0) rfl rfl)) rfl rfl hl.1 rfl (lv_room (Nat.le_of_ble_eq_true rfl)) dN_put_46 ⟨Nat.le_of_ble_eq_true rfl, Nat.le_of_ble_eq_true rfl⟩) hP hD hS hA [1, 2, 3, 4, 5, 6, 7, 8, 9, 10, 11, 12, 13, 14, 15, 16, 17, 18, 19, 20, 21, 22, 23, 24, 25, 26, 27, 28, 29, 30, 31, 32, 33, 34, 35, 36, 37, 38, 39, 40, 41, 42, 43, 44] [0] rfl rfl (by decide) (by decide) (fun r u H locs hw9 hP hD hS => ?_)
        obtain ⟨rfl, hz⟩ := hw9
        have hRR : sS_add (wOf sl (va_up wv b (ax, ay, bx, by_))) ((va_up wv b (ax, ay, bx, by_)) b) = sN_put (wOf sl wv) ax ay bx by_ := by rw [hwo, hvb, sN_put, if_pos hbad]
        rw [hRR] at hP hD
        rw [hRR]
        have e9 : (if sN_bad ax ay bx by_ = 0 then (if st = 0 then (if sN_put (wOf sl wv) ax ay bx by_ = -1 then 0 else 1) else 1) else st : Int32) = (if st = 0 then (if sN_put (wOf sl wv) ax ay bx by_ = -1 then 0 else 1) else 1 : Int32) := if_pos hbad
        have hP9 : va_P g.1 vwCl (nX g aN hw wx wy ad u.1 s0.1 u.2 s0.2 (slAdd sl (sN_put (wOf sl wv) ax ay bx by_) b) (if sN_put (wOf sl wv) ax ay bx by_ = -1 then cnt else cnt + 1) h (if sN_bad ax ay bx by_ = 0 then (if st = 0 then (if sN_put (wOf sl wv) ax ay bx by_ = -1 then 0 else 1) else 1) else st : Int32) ++ plW (LW ++ [b]) (va_up wv b (ax, ay, bx, by_))) H := by rw [e9]; exact hP
        have hD9 : va_D A (nX g aN hw wx wy ad u.1 s0.1 u.2 s0.2 (slAdd sl (sN_put (wOf sl wv) ax ay bx by_) b) (if sN_put (wOf sl wv) ax ay bx by_ = -1 then cnt else cnt + 1) h (if sN_bad ax ay bx by_ = 0 then (if st = 0 then (if sN_put (wOf sl wv) ax ay bx by_ = -1 then 0 else 1) else 1) else st : Int32) ++ plW (LW ++ [b]) (va_up wv b (ax, ay, bx, by_))) := by rw [e9]; exact hD
        exact W.iret hx hb hr (fun t ht9 hW => ⟨⟨_, (u, LW ++ [b], va_up wv b (ax, ay, bx, by_), slAdd sl (sN_put (wOf sl wv) ax ay bx by_) b), rfl, ⟨rfl, hz, slAdd_ok hsl2 hbL, wOf_add hsl hnew⟩, by rw [ht9]; exact hP9, hD9⟩, hS.F ht9⟩) hS.2.2 dN_put_49
      · skip
        refine lv_iload_n hx hb dN_put_22 rfl (lv_at hl 2 rfl) ?_
        refine lv_iload hx hb dN_put_23 (lv_at hl 4 rfl) ?_
        refine lv_icmp_ne (tgt := 30) hx hb dN_put_25 (by decide) (fun c_6 => ?_) (fun c_6 => ?_)
        · skip
          have hbad : sN_bad ax ay bx by_ = 0 := by rw [sN_bad, if_neg c_3, if_neg c_4, if_pos c_5, if_neg c_6]
          refine lv_aload_n hx hb dN_put_30 rfl (lv_at hl 0 rfl) ?_
          refine va_get (D := g.1) (ci := 5) (v := .ref (ad 0)) (C := "NodeMaker") (T := Fd_N) (N := 4) hx hb ht i_N hown hK.1 hP 0 rfl rfl 0 (by decide) (ht _ q_154) (fun _ h9 => h9) rfl dN_put_31 ?_
          refine va_new (ci := 2) (fs := [.int 0, .int 0, .int 0, .int 0]) (C := "NodeMaker$Wall") (T := Fd_W) (N := 4) hx hb ht i_W ty_W ty_W_ok hown (ht _ q_174) (ht _ q_175) (ht _ q_40) hK.1 hP hD hS hA rfl (fun j hj => by rcases (show j = 0 ∨ j = 1 ∨ j = 2 ∨ j = 3 by omega) with rfl | rfl | rfl | rfl <;> rfl) (Nat.le_of_ble_eq_true rfl) (Nat.le_of_ble_eq_true rfl) dN_put_34 (fun b H hP hD hS => ?_)
          have hnew : b ∉ LW := pool_notin hD
          have hP := last_P hP
          have hD := last_D hD
          refine lv_dup hx hb dN_put_37 rfl ?_
          refine lv_iload_n hx hb dN_put_38 rfl (lv_at hl 1 rfl) ?_
          refine lv_iload_n hx hb dN_put_39 rfl (lv_at hl 2 rfl) ?_
          refine lv_iload_n hx hb dN_put_40 rfl (lv_at hl 3 rfl) ?_
          refine lv_iload hx hb dN_put_41 (lv_at hl 4 rfl) ?_
          have hPc : va_P g.1 vwCl [(b, .inr (2, [.int 0, .int 0, .int 0, .int 0]))] H := hP.sub [0] rfl
          have hDc : va_D A [(b, .inr (2, [.int 0, .int 0, .int 0, .int 0]))] := hD.sub [0] (by decide) rfl
          refine rw_vQ (X := [(b, .inr (2, [.int 0, .int 0, .int 0, .int 0]))]) (pl := nX g aN hw wx wy ad q s0.1 f s0.2 sl cnt h st ++ plW LW wv) (wr := []) (va_runI (As := [.int ax, .int ay, .int bx, .int by_]) (rest := [.ref b, .ref (ad 0)]) ⟨hx, hb, hml, hown, ht⟩ (cW_init l g H.size b ax ay bx by_) (cwI 4 ht (g_all q_178) rfl rfl rfl (ht _ q_40) (ht _ q_176) (ht _ q_177) rfl hd_W_init ⟨Nat.le_of_ble_eq_true rfl, Nat.le_of_ble_eq_true rfl⟩) (rw_S hK hPc hDc) rfl rfl hl.1 rfl (lv_room (Nat.le_of_ble_eq_true rfl)) dN_put_43 ⟨Nat.le_of_ble_eq_true rfl, Nat.le_of_ble_eq_true rfl⟩) hP hD hS hA [0] [] rfl rfl rfl (by decide) (by decide) (fun _ H locs _ hP hD hS => ?_)
          have hP : va_P g.1 vwCl (nX g aN hw wx wy ad q s0.1 f s0.2 sl cnt h st ++ plW (LW ++ [b]) (va_up wv b (ax, ay, bx, by_))) H := by rw [← pool_new hnew]; exact first_P hP
          have hD : va_D A (nX g aN hw wx wy ad q s0.1 f s0.2 sl cnt h st ++ plW (LW ++ [b]) (va_up wv b (ax, ay, bx, by_))) := by rw [← pool_new hnew]; exact first_D hD
          have hsl2 : slOK sl (LW ++ [b]) := slOK_new hsl
          have hbL : b ∈ LW ++ [b] := List.mem_append_right _ (List.mem_singleton.mpr rfl)
          have hwo : wOf sl (va_up wv b (ax, ay, bx, by_)) = (wOf sl wv) := wOf_new hsl hnew
          have hvb : va_up wv b (ax, ay, bx, by_) b = (ax, ay, bx, by_) := va_up_self _ _ _
          have hPt : va_P g.1 vwCl (treeX g ad q s0.1 f s0.2 sl cnt h st ++ plW (LW ++ [b]) (va_up wv b (ax, ay, bx, by_))) H := pl_P hP [1, 2, 3, 4, 5, 6, 7, 8, 9, 10, 11, 12, 13, 14, 15, 16, 17, 18, 19, 20, 21, 22, 23, 24, 25, 26, 27, 28, 29, 30, 31, 32, 33, 34, 35, 36, 37, 38, 39, 40, 41, 42, 43, 44] rfl
          have hDt : va_D A (treeX g ad q s0.1 f s0.2 sl cnt h st ++ plW (LW ++ [b]) (va_up wv b (ax, ay, bx, by_))) := pl_D hD [1, 2, 3, 4, 5, 6, 7, 8, 9, 10, 11, 12, 13, 14, 15, 16, 17, 18, 19, 20, 21, 22, 23, 24, 25, 26, 27, 28, 29, 30, 31, 32, 33, 34, 35, 36, 37, 38, 39, 40, 41, 42, 43, 44] (by decide) rfl
          refine rw_iP (X := nX g aN hw wx wy ad q s0.1 f s0.2 sl cnt h st) (pl := plW (LW ++ [b]) (va_up wv b (ax, ay, bx, by_))) (cx := treeX g ad q s0.1 f s0.2 sl cnt h st) (rx := fun (u : (Nat → Nat) × (Nat → Nat → Int32)) => treeX g ad u.1 s0.1 u.2 s0.2 (slAdd sl (sS_add (wOf sl (va_up wv b (ax, ay, bx, by_))) ((va_up wv b (ax, ay, bx, by_)) b)) b) (if sS_add (wOf sl (va_up wv b (ax, ay, bx, by_))) ((va_up wv b (ax, ay, bx, by_)) b) = -1 then cnt else cnt + 1) h (if st = 0 then (if sS_add (wOf sl (va_up wv b (ax, ay, bx, by_))) ((va_up wv b (ax, ay, bx, by_)) b) = -1 then 0 else 1) else 1 : Int32)) (pl1 := fun _ => plW (LW ++ [b]) (va_up wv b (ax, ay, bx, by_))) (wr := [(aN, .inr (5, [.ref (ad 0), .int hw, .int wx, .int wy]))]) (va_runV (As := [.ref b]) (rest := []) ⟨hx, hb, hml, hown, ht⟩ (cT_addWall l g H.size ad q f s0 sl cnt h st (LW ++ [b]) (va_up wv b (ax, ay, bx, by_)) hz hsl2 b hbL) (cwV 1 ht (g_V q_201 q_202 q_203 q_35 q_204) rfl rfl rfl hd_T_addWall ⟨Nat.le_of_ble_eq_true rfl, Nat.le_of_ble_eq_true rfl⟩) (rw_V hK hPt hDt (va_recv hK.1 hPt (ci := 4) (q0 := 0) rfl rfl)) rfl rfl hl.1 rfl (lv_room (Nat.le_of_ble_eq_true rfl)) dN_put_46 ⟨Nat.le_of_ble_eq_true rfl, Nat.le_of_ble_eq_true rfl⟩) hP hD hS hA [1, 2, 3, 4, 5, 6, 7, 8, 9, 10, 11, 12, 13, 14, 15, 16, 17, 18, 19, 20, 21, 22, 23, 24, 25, 26, 27, 28, 29, 30, 31, 32, 33, 34, 35, 36, 37, 38, 39, 40, 41, 42, 43, 44] [0] rfl rfl (by decide) (by decide) (fun r u H locs hw9 hP hD hS => ?_)
          obtain ⟨rfl, hz⟩ := hw9
          have hRR : sS_add (wOf sl (va_up wv b (ax, ay, bx, by_))) ((va_up wv b (ax, ay, bx, by_)) b) = sN_put (wOf sl wv) ax ay bx by_ := by rw [hwo, hvb, sN_put, if_pos hbad]
          rw [hRR] at hP hD
          rw [hRR]
          have e9 : (if sN_bad ax ay bx by_ = 0 then (if st = 0 then (if sN_put (wOf sl wv) ax ay bx by_ = -1 then 0 else 1) else 1) else st : Int32) = (if st = 0 then (if sN_put (wOf sl wv) ax ay bx by_ = -1 then 0 else 1) else 1 : Int32) := if_pos hbad
          have hP9 : va_P g.1 vwCl (nX g aN hw wx wy ad u.1 s0.1 u.2 s0.2 (slAdd sl (sN_put (wOf sl wv) ax ay bx by_) b) (if sN_put (wOf sl wv) ax ay bx by_ = -1 then cnt else cnt + 1) h (if sN_bad ax ay bx by_ = 0 then (if st = 0 then (if sN_put (wOf sl wv) ax ay bx by_ = -1 then 0 else 1) else 1) else st : Int32) ++ plW (LW ++ [b]) (va_up wv b (ax, ay, bx, by_))) H := by rw [e9]; exact hP
          have hD9 : va_D A (nX g aN hw wx wy ad u.1 s0.1 u.2 s0.2 (slAdd sl (sN_put (wOf sl wv) ax ay bx by_) b) (if sN_put (wOf sl wv) ax ay bx by_ = -1 then cnt else cnt + 1) h (if sN_bad ax ay bx by_ = 0 then (if st = 0 then (if sN_put (wOf sl wv) ax ay bx by_ = -1 then 0 else 1) else 1) else st : Int32) ++ plW (LW ++ [b]) (va_up wv b (ax, ay, bx, by_))) := by rw [e9]; exact hD
          exact W.iret hx hb hr (fun t ht9 hW => ⟨⟨_, (u, LW ++ [b], va_up wv b (ax, ay, bx, by_), slAdd sl (sN_put (wOf sl wv) ax ay bx by_) b), rfl, ⟨rfl, hz, slAdd_ok hsl2 hbL, wOf_add hsl hnew⟩, by rw [ht9]; exact hP9, hD9⟩, hS.F ht9⟩) hS.2.2 dN_put_49
        · skip
          refine lv_iconst (v := -1) hx hb dN_put_28 (by decide) ?_
          have hbad : ¬ sN_bad ax ay bx by_ = 0 := by rw [sN_bad, if_neg c_3, if_neg c_4, if_pos c_5, if_pos c_6]; decide
          have hRR : sN_put (wOf sl wv) ax ay bx by_ = -1 := by rw [sN_put, if_neg hbad]
          have e9 : (if sN_bad ax ay bx by_ = 0 then (if st = 0 then (if sN_put (wOf sl wv) ax ay bx by_ = -1 then 0 else 1) else 1) else st : Int32) = st := if_neg hbad
          have e8 : (if sN_put (wOf sl wv) ax ay bx by_ = -1 then cnt else cnt + 1) = cnt := if_pos hRR
          have hP9 : va_P g.1 vwCl (nX g aN hw wx wy ad q s0.1 f s0.2 sl (if sN_put (wOf sl wv) ax ay bx by_ = -1 then cnt else cnt + 1) h (if sN_bad ax ay bx by_ = 0 then (if st = 0 then (if sN_put (wOf sl wv) ax ay bx by_ = -1 then 0 else 1) else 1) else st : Int32) ++ plW LW wv) s.heap := by rw [e8, e9]; exact hP
          have hD9 : va_D A (nX g aN hw wx wy ad q s0.1 f s0.2 sl (if sN_put (wOf sl wv) ax ay bx by_ = -1 then cnt else cnt + 1) h (if sN_bad ax ay bx by_ = 0 then (if st = 0 then (if sN_put (wOf sl wv) ax ay bx by_ = -1 then 0 else 1) else 1) else st : Int32) ++ plW LW wv) := by rw [e8, e9]; exact hD
          refine W.widen (k := 1) (n := 4) (Nat.zero_le _) (Nat.zero_le _) ?_
          exact W.iret hx hb hr (fun t ht9 hW => ⟨⟨_, ((q, f), LW, wv, sl), rfl, ⟨hRR.symm, hz, hsl, by rw [hRR]; rfl⟩, by rw [ht9]; exact hP9, hD9⟩, hS.F ht9⟩) hS.2.2 dN_put_29
