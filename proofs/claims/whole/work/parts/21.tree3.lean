def sT_powL (Rw : Nat → List Int32) (num : Int32) : Nat → Int32 → Int32 → Int32
  | 0, _, fo => fo
  | n + 1, i, fo => sT_powL Rw num n (i + 1) (fo + if rAt (Rw 6) i = num then 1 else 0)
def sT_piecesOfWall (Rw : Nat → List Int32) (Wl : Nat → Option WV) (num : Int32) : Int32 := sT_powL Rw num (Rw 6).length 0 0
theorem rowsT_lt {cp : Nat → Nat} {f : Nat → Nat → Int32} {Rw : Nat → List Int32} (h : rowsT cp f Rw) (k : Nat) (hk : k < 19) : (Rw k).length ≤ 4096 := Nat.le_trans (h k hk).1 (h k hk).2.2.1
set_option maxHeartbeats 4000000 in
set_option maxRecDepth 100000 in
theorem cT_piecesOfWall (l : Launch) (g : CX) (ad q cp : Nat → Nat) (f : Nat → Nat → Int32) (Rw : Nat → List Int32) (sl : Nat → Option Nat) (cnt h st : Int32) (LW : List Nat) (wv : Nat → WV) (hz : rowsT cp f Rw) (hsl : slOK sl LW) (num : Int32) : Met l yT_piecesOfWall (wm yT_piecesOfWall kT_piecesOfWall 4 (some .int)) ({ frames := 2, cells := 0, slots := 0, locals := 42 }) (ro g [.ref (ad 0), .int num] (va_P g.1 vwCl (TW g ad q cp f Rw sl cnt h st LW wv))) (vp_Si (fun r => r = sT_piecesOfWall Rw (wOf sl wv) num)) 0 0 (fun _ => False) := by
  refine Met.ofW (cc := kT_piecesOfWall) (maxL := 4) (ret := (some .int)) (by decide) rfl ?_
  intro p e s m args below meth c s₁ B hml hv
  obtain ⟨rfl, hK, hP⟩ := hv
  have hx := B.exec
  have hb := B.bytes
  have hr := B.returns
  have ht : ∀ w ∈ wT, w.before _ s = true := fun w h => atoms_spec (ws := wm yT_piecesOfWall kT_piecesOfWall 4 (some .int)) B.pre w (List.mem_cons_of_mem _ h)
  have hown : s.vm.findClass "NodeMaker$Tree" = some m.cls := findClass_of_methodNamed B.named
  have hlocks := B.notSynchronized
  have hl := lv_entry ([.ref (ad 0), .int num]) (n := 4) (Nat.le_of_ble_eq_true rfl)
  rw [lg_entry_eq]
  generalize (lg_sl ([.ref (ad 0), .int num]) ++ List.replicate (4 - (lg_sl ([.ref (ad 0), .int num])).length) Slot.unset).toArray = ls at hl ⊢
  have hl : lv_has ls 4 [(0, .ref (ad 0)), (1, .int num)] := hl
  have hlen := rowsT_lt hz 6 (by decide)
  refine lv_iconst (v := 0) hx hb dT_piecesOfWall_0 (by decide) ?_
  refine lv_istore_n (lv' := [(2, .int 0), (0, .ref (ad 0)), (1, .int num)]) hx hb dT_piecesOfWall_1 rfl hl (by decide) rfl (fun ls hl => ?_)
  refine lv_iconst (v := 0) hx hb dT_piecesOfWall_2 (by decide) ?_
  refine lv_istore_n (lv' := [(3, .int 0), (2, .int 0), (0, .ref (ad 0)), (1, .int num)]) hx hb dT_piecesOfWall_3 rfl hl (by decide) rfl (fun ls hl => ?_)
  have loop4 : ∀ (n : Nat) (k : Nat) (fo i : Int32) (ls : Array Slot), k + n = (Rw 6).length → i = nI k → sT_powL Rw num n i fo = sT_piecesOfWall Rw (wOf sl wv) num → lv_has ls 4 [(3, .int i), (2, .int fo), (0, .ref (ad 0)), (1, .int num)] → W p l e (headSpec (wm yT_piecesOfWall kT_piecesOfWall 4 (some .int)) ({ frames := 2, cells := 0, slots := 0, locals := 42 })).room s m ([.ref (ad 0), .int num] : List Value).toArray below meth c s.heap [] (0) (0) (MQ below (vp_Si (fun r => r = sT_piecesOfWall Rw (wOf sl wv) num)) ([.ref (ad 0), .int num] : List Value).toArray s 0 0 (fun _ => False)) (F0 m 4 ls []) := by
    intro n
    induction n with
    | zero =>
      intro k fo i ls hk hi hR hl
      refine lv_iload_n hx hb dT_piecesOfWall_4 rfl (lv_at hl 0 rfl) ?_
      refine lv_aload_n hx hb dT_piecesOfWall_5 rfl (lv_at hl 2 rfl) ?_
      refine va_get (D := g.1) (ci := 4) (v := .ref (ad 3)) (C := "NodeMaker$Tree") (T := Fd_T) (N := 16) hx hb ht i_T hown hK.1 hP 0 rfl rfl 7 (by decide) (ht _ q_112) (fun _ h9 => h9) rfl dT_piecesOfWall_6 ?_
      have hPc := hP.sub (ws' := (piW g (ad 3) (fun k => ad (12 + k)) (fun k => q (6 + k)) (fun k => cp (6 + k)) (fun k => f (6 + k)) (fun k => (Rw (6 + k)).length))) [3, 18, 19, 20, 21, 22, 23] rfl
      refine ro_Vi (v := nI (Rw 6).length) (As := []) (rest := [.int i]) ⟨hx, hb, hml, hown, ht⟩ (cP_count l g (ad 3) (fun k => ad (12 + k)) (fun k => q (6 + k)) (fun k => cp (6 + k)) (fun k => f (6 + k)) (fun k => Rw (6 + k)) (rows_3 6 (by decide) hz) ) (cwV 0 ht (g_V q_307 q_308 q_309 q_38 q_310) rfl rfl rfl hd_P_count ⟨Nat.le_of_ble_eq_true rfl, Nat.le_of_ble_eq_true rfl⟩) hK (hPc) (va_recv hK.1 hPc (ci := 1) (q0 := 0) rfl rfl) rfl hl.1 rfl (Nat.le_of_ble_eq_true rfl) dT_piecesOfWall_9 ⟨by show 0 ≤ 0; omega, by show 0 ≤ 0; omega⟩ ?_
      refine lv_icmp_ge (tgt := 41) hx hb dT_piecesOfWall_12 (by decide) (fun c_1 => ?_) (fun c_1 => ?_)
      · skip
        refine lv_iload_n hx hb dT_piecesOfWall_41 rfl (lv_at hl 1 rfl) ?_
        exact W.iret hx hb hr (fun t ht9 hW => ⟨_, rfl, hR, ht9⟩) (fun q h => by cases h) dT_piecesOfWall_42
      · skip
        exact absurd (by rw [hi]; exact nI_le (by omega) (by omega)) c_1
    | succ n ih =>
      intro k fo i ls hk hi hR hl
      refine lv_iload_n hx hb dT_piecesOfWall_4 rfl (lv_at hl 0 rfl) ?_
      refine lv_aload_n hx hb dT_piecesOfWall_5 rfl (lv_at hl 2 rfl) ?_
      refine va_get (D := g.1) (ci := 4) (v := .ref (ad 3)) (C := "NodeMaker$Tree") (T := Fd_T) (N := 16) hx hb ht i_T hown hK.1 hP 0 rfl rfl 7 (by decide) (ht _ q_112) (fun _ h9 => h9) rfl dT_piecesOfWall_6 ?_
      have hPc := hP.sub (ws' := (piW g (ad 3) (fun k => ad (12 + k)) (fun k => q (6 + k)) (fun k => cp (6 + k)) (fun k => f (6 + k)) (fun k => (Rw (6 + k)).length))) [3, 18, 19, 20, 21, 22, 23] rfl
      refine ro_Vi (v := nI (Rw 6).length) (As := []) (rest := [.int i]) ⟨hx, hb, hml, hown, ht⟩ (cP_count l g (ad 3) (fun k => ad (12 + k)) (fun k => q (6 + k)) (fun k => cp (6 + k)) (fun k => f (6 + k)) (fun k => Rw (6 + k)) (rows_3 6 (by decide) hz) ) (cwV 0 ht (g_V q_307 q_308 q_309 q_38 q_310) rfl rfl rfl hd_P_count ⟨Nat.le_of_ble_eq_true rfl, Nat.le_of_ble_eq_true rfl⟩) hK (hPc) (va_recv hK.1 hPc (ci := 1) (q0 := 0) rfl rfl) rfl hl.1 rfl (Nat.le_of_ble_eq_true rfl) dT_piecesOfWall_9 ⟨by show 0 ≤ 0; omega, by show 0 ≤ 0; omega⟩ ?_
      refine lv_icmp_ge (tgt := 41) hx hb dT_piecesOfWall_12 (by decide) (fun c_2 => ?_) (fun c_2 => ?_)
      · skip
        exact absurd c_2 (by rw [hi]; exact nI_ge (by omega) (by omega))
      · skip
        refine lv_iload_n hx hb dT_piecesOfWall_15 rfl (lv_at hl 1 rfl) ?_
        refine lv_aload_n hx hb dT_piecesOfWall_16 rfl (lv_at hl 2 rfl) ?_
        refine va_get (D := g.1) (ci := 4) (v := .ref (ad 3)) (C := "NodeMaker$Tree") (T := Fd_T) (N := 16) hx hb ht i_T hown hK.1 hP 0 rfl rfl 7 (by decide) (ht _ q_112) (fun _ h9 => h9) rfl dT_piecesOfWall_17 ?_
        refine lv_iload_n hx hb dT_piecesOfWall_20 rfl (lv_at hl 0 rfl) ?_
        have hPc := hP.sub (ws' := (piW g (ad 3) (fun k => ad (12 + k)) (fun k => q (6 + k)) (fun k => cp (6 + k)) (fun k => f (6 + k)) (fun k => (Rw (6 + k)).length))) [3, 18, 19, 20, 21, 22, 23] rfl
        refine ro_Vi (v := rAt (Rw 6) i) (As := [.int i]) (rest := [.int fo]) ⟨hx, hb, hml, hown, ht⟩ (cP_wallAt l g (ad 3) (fun k => ad (12 + k)) (fun k => q (6 + k)) (fun k => cp (6 + k)) (fun k => f (6 + k)) (fun k => Rw (6 + k)) (rows_3 6 (by decide) hz) i) (cwV 1 ht (g_V q_341 q_342 q_343 q_38 q_344) rfl rfl rfl hd_P_wallAt ⟨Nat.le_of_ble_eq_true rfl, Nat.le_of_ble_eq_true rfl⟩) hK (hPc) (va_recv hK.1 hPc (ci := 1) (q0 := 0) rfl rfl) rfl hl.1 rfl (Nat.le_of_ble_eq_true rfl) dT_piecesOfWall_21 ⟨by show 0 ≤ 0; omega, by show 0 ≤ 0; omega⟩ ?_
        refine lv_iload_n hx hb dT_piecesOfWall_24 rfl (lv_at hl 3 rfl) ?_
        refine lv_icmp_ne (tgt := 32) hx hb dT_piecesOfWall_25 (by decide) (fun c_3 => ?_) (fun c_3 => ?_)
        · skip
          refine lv_iconst (v := 0) hx hb dT_piecesOfWall_32 (by decide) ?_
          refine lv_iadd hx hb dT_piecesOfWall_33 ?_
          refine lv_istore_n (lv' := [(2, .int (fo + 0)), (3, .int i), (0, .ref (ad 0)), (1, .int num)]) hx hb dT_piecesOfWall_34 rfl hl (by decide) rfl (fun ls hl => ?_)
          refine lv_iinc (v := i + 1) (lv' := [(3, .int (i + 1)), (2, .int (fo + 0)), (0, .ref (ad 0)), (1, .int num)]) hx hb dT_piecesOfWall_35 hl (k := 1) rfl rfl (by decide) rfl (fun ls hl => ?_)
          refine lv_goto (tgt := 4) hx hb dT_piecesOfWall_38 (by decide) ?_
          exact ih (k + 1) (fo + 0) (i + 1) ls (by omega) (by rw [hi]; exact nI_1 k) (by rw [← hR, sT_powL, if_neg c_3]) (lv_sub hl [0, 1, 2, 3] rfl)
        · skip
          refine lv_iconst (v := 1) hx hb dT_piecesOfWall_28 (by decide) ?_
          refine lv_goto (tgt := 33) hx hb dT_piecesOfWall_29 (by decide) ?_
          refine lv_iadd hx hb dT_piecesOfWall_33 ?_
          refine lv_istore_n (lv' := [(2, .int (fo + 1)), (3, .int i), (0, .ref (ad 0)), (1, .int num)]) hx hb dT_piecesOfWall_34 rfl hl (by decide) rfl (fun ls hl => ?_)
          refine lv_iinc (v := i + 1) (lv' := [(3, .int (i + 1)), (2, .int (fo + 1)), (0, .ref (ad 0)), (1, .int num)]) hx hb dT_piecesOfWall_35 hl (k := 1) rfl rfl (by decide) rfl (fun ls hl => ?_)
          refine lv_goto (tgt := 4) hx hb dT_piecesOfWall_38 (by decide) ?_
          exact ih (k + 1) (fo + 1) (i + 1) ls (by omega) (by rw [hi]; exact nI_1 k) (by rw [← hR, sT_powL, if_pos c_3]) (lv_sub hl [0, 1, 2, 3] rfl)
  exact loop4 (Rw 6).length 0 0 0 ls (by omega) rfl rfl (lv_sub hl [0, 1, 2, 3] rfl)
def sGcdL : Nat → Int64 → Int64 → Int64
  | 0, a, _ => a
  | n + 1, a, b => if b = 0 then a else sGcdL n b (a - a / b * b)
def sT_commonDivisor (x y : Int64) : Int64 := sGcdL 128 x y
set_option maxHeartbeats 4000000 in
set_option maxRecDepth 100000 in
theorem cT_commonDivisor (l : Launch) (g : CX) (x : Int64) (y : Int64) : Met l yT_commonDivisor (wm yT_commonDivisor kT_commonDivisor 11 (some .long)) ({ frames := 0, cells := 0, slots := 0, locals := 0 }) (ro g [.long x, .long y] (fun _ => True)) (vp_Sl (fun r => r = sT_commonDivisor x y)) 0 0 (fun _ => False) := by
  refine Met.ofW (cc := kT_commonDivisor) (maxL := 11) (ret := (some .long)) (by decide) rfl ?_
  intro p e s m args below meth c s₁ B hml hv
  obtain ⟨rfl, hK, hP⟩ := hv
  have hx := B.exec
  have hb := B.bytes
  have hr := B.returns
  have ht : ∀ w ∈ wT, w.before _ s = true := fun w h => atoms_spec (ws := wm yT_commonDivisor kT_commonDivisor 11 (some .long)) B.pre w (List.mem_cons_of_mem _ h)
  have hown : s.vm.findClass "NodeMaker$Tree" = some m.cls := findClass_of_methodNamed B.named
  have hlocks := B.notSynchronized
  have hl := lv_entry ([.long x, .long y]) (n := 11) (Nat.le_of_ble_eq_true rfl)
  rw [lg_entry_eq]
  generalize (lg_sl ([.long x, .long y]) ++ List.replicate (11 - (lg_sl ([.long x, .long y])).length) Slot.unset).toArray = ls at hl ⊢
  have hl : lv_has ls 11 [(0, .long x), (2, .long y)] := hl
  refine lv_lload_n hx hb dT_commonDivisor_0 rfl (lv_at hl 0 rfl) ?_
  refine lv_lstore (lv' := [(4, .long x), (0, .long x), (2, .long y)]) hx hb dT_commonDivisor_1 hl (by decide) rfl (fun ls hl => ?_)
  refine lv_lload_n hx hb dT_commonDivisor_3 rfl (lv_at hl 2 rfl) ?_
  refine lv_lstore (lv' := [(6, .long y), (4, .long x), (0, .long x), (2, .long y)]) hx hb dT_commonDivisor_4 hl (by decide) rfl (fun ls hl => ?_)
  refine lv_iconst (v := 0) hx hb dT_commonDivisor_6 (by decide) ?_
  refine lv_istore (lv' := [(8, .int 0), (6, .long y), (4, .long x), (0, .long x), (2, .long y)]) hx hb dT_commonDivisor_7 hl (by decide) rfl (fun ls hl => ?_)
  have loop9 : ∀ (n : Nat) (k : Nat) (a b : Int64) (i : Int32) (ls : Array Slot), k + n = 128 → i = nI k → sGcdL n a b = sT_commonDivisor x y → lv_has ls 11 [(8, .int i), (6, .long b), (4, .long a)] → W p l e (headSpec (wm yT_commonDivisor kT_commonDivisor 11 (some .long)) ({ frames := 0, cells := 0, slots := 0, locals := 0 })).room s m ([.long x, .long y] : List Value).toArray below meth c s.heap [] (0) (0) (MQ below (vp_Sl (fun r => r = sT_commonDivisor x y)) ([.long x, .long y] : List Value).toArray s 0 0 (fun _ => False)) (F0 m 9 ls []) := by
    intro n
    induction n with
    | zero =>
      intro k a b i ls hk hi hR hl
      refine lv_iload hx hb dT_commonDivisor_9 (lv_at hl 0 rfl) ?_
      refine lv_sipush (v := 128) hx hb dT_commonDivisor_11 (by decide) ?_
      refine lv_icmp_ge (tgt := 45) hx hb dT_commonDivisor_14 (by decide) (fun c_4 => ?_) (fun c_4 => ?_)
      · skip
        refine lv_lload hx hb dT_commonDivisor_45 (lv_at hl 2 rfl) ?_
        exact W.lret hx hb hr (fun t ht9 hW => ⟨_, rfl, hR, ht9⟩) (fun q h => by cases h) dT_commonDivisor_47
      · skip
        exact absurd (by rw [hi]; exact nI_le (a := 128) (by omega) (by omega)) c_4
    | succ n ih =>
      intro k a b i ls hk hi hR hl
      refine lv_iload hx hb dT_commonDivisor_9 (lv_at hl 0 rfl) ?_
      refine lv_sipush (v := 128) hx hb dT_commonDivisor_11 (by decide) ?_
      refine lv_icmp_ge (tgt := 45) hx hb dT_commonDivisor_14 (by decide) (fun c_5 => ?_) (fun c_5 => ?_)
      · skip
        exact absurd c_5 (by rw [hi]; exact nI_ge (b := 128) (by omega) (by omega))
      · skip
        refine lv_lload hx hb dT_commonDivisor_17 (lv_at hl 1 rfl) ?_
        refine lv_lconst (v := 0) hx hb dT_commonDivisor_19 (by decide) ?_
        refine W.lcmp hx hb dT_commonDivisor_20 ?_
        refine lv_if_eq (tgt := 45) hx hb dT_commonDivisor_21 (by decide) (fun c_6 => ?_) (fun c_6 => ?_)
        · skip
          rw [lg_cmp_eq] at c_6
          refine lv_lload hx hb dT_commonDivisor_45 (lv_at hl 2 rfl) ?_
          exact W.lret hx hb hr (fun t ht9 hW => ⟨_, rfl, by rw [← hR, sGcdL, if_pos c_6], ht9⟩) (fun q h => by cases h) dT_commonDivisor_47
        · skip
          rw [lg_cmp_eq] at c_6
          refine lv_lload hx hb dT_commonDivisor_24 (lv_at hl 2 rfl) ?_
          refine lv_lload hx hb dT_commonDivisor_26 (lv_at hl 1 rfl) ?_
          refine lv_lrem hx hb dT_commonDivisor_28 (c_6) ?_
          refine lv_lstore (lv' := [(9, .long (a - a / b * b)), (8, .int i), (6, .long b), (4, .long a)]) hx hb dT_commonDivisor_29 hl (by decide) rfl (fun ls hl => ?_)
          refine lv_lload hx hb dT_commonDivisor_31 (lv_at hl 2 rfl) ?_
          refine lv_lstore (lv' := [(4, .long b), (9, .long (a - a / b * b)), (8, .int i), (6, .long b)]) hx hb dT_commonDivisor_33 hl (by decide) rfl (fun ls hl => ?_)
          refine lv_lload hx hb dT_commonDivisor_35 (lv_at hl 1 rfl) ?_
          refine lv_lstore (lv' := [(6, .long (a - a / b * b)), (4, .long b), (9, .long (a - a / b * b)), (8, .int i)]) hx hb dT_commonDivisor_37 hl (by decide) rfl (fun ls hl => ?_)
          refine lv_iinc (v := i + 1) (lv' := [(8, .int (i + 1)), (6, .long (a - a / b * b)), (4, .long b), (9, .long (a - a / b * b))]) hx hb dT_commonDivisor_39 hl (k := 3) rfl rfl (by decide) rfl (fun ls hl => ?_)
          refine lv_goto (tgt := 9) hx hb dT_commonDivisor_42 (by decide) ?_
          exact ih (k + 1) b (a - a / b * b) (i + 1) ls (by omega) (by rw [hi]; exact nI_1 k) (by rw [← hR, sGcdL, if_neg c_6]) (lv_sub hl [0, 1, 2] rfl)
  exact loop9 128 0 x y 0 ls (by omega) rfl rfl (lv_sub hl [0, 1, 2] rfl)
def sLeafL (Rw : Nat → List Int32) (Wl : Nat → Option WV) (x y : Int32) : Nat → Int32 → Int32 → Int32
  | 0, b, _ => b
  | n + 1, b, k => if sT_hasNode Rw Wl k = 0 then b else if sT_liesLeft Rw Wl k x y = 0 then sLeafL Rw Wl x y n (b + (sT_nodesIn Rw Wl (rAt (Rw 1) k) + 1)) (rAt (Rw 2) k) else sLeafL Rw Wl x y n b (rAt (Rw 1) k)
def sT_leafAround (Rw : Nat → List Int32) (Wl : Nat → Option WV) (x y : Int32) : Int32 := sLeafL Rw Wl x y 64 0 0
set_option maxHeartbeats 4000000 in
set_option maxRecDepth 100000 in
theorem cT_leafAround (l : Launch) (g : CX) (ad q cp : Nat → Nat) (f : Nat → Nat → Int32) (Rw : Nat → List Int32) (sl : Nat → Option Nat) (cnt h st : Int32) (LW : List Nat) (wv : Nat → WV) (hz : rowsT cp f Rw) (hsl : slOK sl LW) (x : Int32) (y : Int32) : Met l yT_leafAround (wm yT_leafAround kT_leafAround 7 (some .int)) ({ frames := 3, cells := 0, slots := 0, locals := 62 }) (ro g [.ref (ad 0), .int x, .int y] (va_P g.1 vwCl (TW g ad q cp f Rw sl cnt h st LW wv))) (vp_Si (fun r => r = sT_leafAround Rw (wOf sl wv) x y)) 0 0 (fun _ => False) := by
  refine Met.ofW (cc := kT_leafAround) (maxL := 7) (ret := (some .int)) (by decide) rfl ?_
  intro p e s m args below meth c s₁ B hml hv
  obtain ⟨rfl, hK, hP⟩ := hv
  have hx := B.exec
  have hb := B.bytes
  have hr := B.returns
  have ht : ∀ w ∈ wT, w.before _ s = true := fun w h => atoms_spec (ws := wm yT_leafAround kT_leafAround 7 (some .int)) B.pre w (List.mem_cons_of_mem _ h)
  have hown : s.vm.findClass "NodeMaker$Tree" = some m.cls := findClass_of_methodNamed B.named
  have hlocks := B.notSynchronized
  have hl := lv_entry ([.ref (ad 0), .int x, .int y]) (n := 7) (Nat.le_of_ble_eq_true rfl)
  rw [lg_entry_eq]
  generalize (lg_sl ([.ref (ad 0), .int x, .int y]) ++ List.replicate (7 - (lg_sl ([.ref (ad 0), .int x, .int y])).length) Slot.unset).toArray = ls at hl ⊢
  have hl : lv_has ls 7 [(0, .ref (ad 0)), (1, .int x), (2, .int y)] := hl
  refine lv_iconst (v := 0) hx hb dT_leafAround_0 (by decide) ?_
  refine lv_istore_n (lv' := [(3, .int 0), (0, .ref (ad 0)), (1, .int x), (2, .int y)]) hx hb dT_leafAround_1 rfl hl (by decide) rfl (fun ls hl => ?_)
  refine lv_iconst (v := 0) hx hb dT_leafAround_2 (by decide) ?_
  refine lv_istore (lv' := [(4, .int 0), (3, .int 0), (0, .ref (ad 0)), (1, .int x), (2, .int y)]) hx hb dT_leafAround_3 hl (by decide) rfl (fun ls hl => ?_)
  refine lv_iconst (v := 0) hx hb dT_leafAround_5 (by decide) ?_
  refine lv_istore (lv' := [(5, .int 0), (4, .int 0), (3, .int 0), (0, .ref (ad 0)), (1, .int x), (2, .int y)]) hx hb dT_leafAround_6 hl (by decide) rfl (fun ls hl => ?_)
  have loop8 : ∀ (n : Nat) (j : Nat) (b k d : Int32) (ls : Array Slot), j + n = 64 → d = nI j → sLeafL Rw (wOf sl wv) x y n b k = sT_leafAround Rw (wOf sl wv) x y → lv_has ls 7 [(5, .int d), (4, .int k), (3, .int b), (0, .ref (ad 0)), (1, .int x), (2, .int y)] → W p l e (headSpec (wm yT_leafAround kT_leafAround 7 (some .int)) ({ frames := 3, cells := 0, slots := 0, locals := 62 })).room s m ([.ref (ad 0), .int x, .int y] : List Value).toArray below meth c s.heap [] (0) (0) (MQ below (vp_Si (fun r => r = sT_leafAround Rw (wOf sl wv) x y)) ([.ref (ad 0), .int x, .int y] : List Value).toArray s 0 0 (fun _ => False)) (F0 m 8 ls []) := by
    intro n
    induction n with
    | zero =>
      intro j b k d ls hk hi hR hl
      refine lv_iload hx hb dT_leafAround_8 (lv_at hl 0 rfl) ?_
      refine lv_bipush (v := 64) hx hb dT_leafAround_10 (by decide) ?_
      refine lv_icmp_ge (tgt := 81) hx hb dT_leafAround_12 (by decide) (fun c_7 => ?_) (fun c_7 => ?_)
      · skip
        refine lv_iload_n hx hb dT_leafAround_81 rfl (lv_at hl 2 rfl) ?_
        exact W.iret hx hb hr (fun t ht9 hW => ⟨_, rfl, hR, ht9⟩) (fun q h => by cases h) dT_leafAround_82
      · skip
        exact absurd (by rw [hi]; exact nI_le (a := 64) (by omega) (by omega)) c_7
    | succ n ih =>
      intro j b k d ls hk hi hR hl
      refine lv_iload hx hb dT_leafAround_8 (lv_at hl 0 rfl) ?_
      refine lv_bipush (v := 64) hx hb dT_leafAround_10 (by decide) ?_
      refine lv_icmp_ge (tgt := 81) hx hb dT_leafAround_12 (by decide) (fun c_8 => ?_) (fun c_8 => ?_)
      · skip
        exact absurd c_8 (by rw [hi]; exact nI_ge (b := 64) (by omega) (by omega))
      · skip
        refine lv_aload_n hx hb dT_leafAround_15 rfl (lv_at hl 3 rfl) ?_
        refine lv_iload hx hb dT_leafAround_16 (lv_at hl 1 rfl) ?_
        refine ro_Vi (v := sT_hasNode Rw (wOf sl wv) k) (As := [.int k]) (rest := []) ⟨hx, hb, hml, hown, ht⟩ (cT_hasNode l g ad q cp f Rw sl cnt h st LW wv hz hsl k) (cwV 1 ht (g_V q_333 q_334 q_335 q_35 q_336) rfl rfl rfl hd_T_hasNode ⟨Nat.le_of_ble_eq_true rfl, Nat.le_of_ble_eq_true rfl⟩) hK (hP) (va_recv hK.1 hP (ci := 4) (q0 := 0) rfl rfl) rfl hl.1 rfl (Nat.le_of_ble_eq_true rfl) dT_leafAround_18 ⟨by show 0 ≤ 0; omega, by show 0 ≤ 0; omega⟩ ?_
        refine lv_if_eq (tgt := 81) hx hb dT_leafAround_21 (by decide) (fun c_9 => ?_) (fun c_9 => ?_)
        · skip
          refine lv_iload_n hx hb dT_leafAround_81 rfl (lv_at hl 2 rfl) ?_
          exact W.iret hx hb hr (fun t ht9 hW => ⟨_, rfl, by rw [← hR, sLeafL, if_pos c_9], ht9⟩) (fun q h => by cases h) dT_leafAround_82
        · skip
          refine lv_aload_n hx hb dT_leafAround_24 rfl (lv_at hl 3 rfl) ?_
          refine va_get (D := g.1) (ci := 4) (v := .ref (ad 7)) (C := "NodeMaker$Tree") (T := Fd_T) (N := 16) hx hb ht i_T hown hK.1 hP 0 rfl rfl 2 (by decide) (ht _ q_107) (fun _ h9 => h9) rfl dT_leafAround_25 ?_
          refine lv_iload hx hb dT_leafAround_28 (lv_at hl 1 rfl) ?_
          have hPc := hP.sub (ws' := rowW g (ad 7) (q 1) (cp 1) (f 1) (Rw 1).length) [8, 9] rfl
          refine ro_Vi (v := rAt (Rw 1) k) (As := [.int k]) (rest := []) ⟨hx, hb, hml, hown, ht⟩ (cR_at l g (ad 7) (q 1) (cp 1) (f 1) (Rw 1) (hz 1 (by decide)) k) (cwV 1 ht (g_V q_325 q_326 q_327 q_37 q_328) rfl rfl rfl hd_R_at ⟨Nat.le_of_ble_eq_true rfl, Nat.le_of_ble_eq_true rfl⟩) hK (hPc) (va_recv hK.1 hPc (ci := 0) (q0 := 0) rfl rfl) rfl hl.1 rfl (Nat.le_of_ble_eq_true rfl) dT_leafAround_30 ⟨by show 0 ≤ 0; omega, by show 0 ≤ 0; omega⟩ ?_
          refine lv_istore (lv' := [(6, .int (rAt (Rw 1) k)), (5, .int d), (4, .int k), (3, .int b), (0, .ref (ad 0)), (1, .int x), (2, .int y)]) hx hb dT_leafAround_33 hl (by decide) rfl (fun ls hl => ?_)
          refine lv_aload_n hx hb dT_leafAround_35 rfl (lv_at hl 4 rfl) ?_
          refine lv_iload hx hb dT_leafAround_36 (lv_at hl 2 rfl) ?_
          refine lv_iload_n hx hb dT_leafAround_38 rfl (lv_at hl 5 rfl) ?_
          refine lv_iload_n hx hb dT_leafAround_39 rfl (lv_at hl 6 rfl) ?_
          refine ro_Vi (v := sT_liesLeft Rw (wOf sl wv) k x y) (As := [.int k, .int x, .int y]) (rest := []) ⟨hx, hb, hml, hown, ht⟩ (cT_liesLeft l g ad q cp f Rw sl cnt h st LW wv hz hsl k x y) (cwV 3 ht (g_V q_454 q_456 q_9 q_35 q_457) rfl rfl rfl hd_T_liesLeft ⟨Nat.le_of_ble_eq_true rfl, Nat.le_of_ble_eq_true rfl⟩) hK (hP) (va_recv hK.1 hP (ci := 4) (q0 := 0) rfl rfl) rfl hl.1 rfl (Nat.le_of_ble_eq_true rfl) dT_leafAround_40 ⟨by show 0 ≤ 0; omega, by show 0 ≤ 0; omega⟩ ?_
          refine lv_if_eq (tgt := 53) hx hb dT_leafAround_43 (by decide) (fun c_10 => ?_) (fun c_10 => ?_)
          · skip
            refine lv_iload_n hx hb dT_leafAround_53 rfl (lv_at hl 3 rfl) ?_
            refine lv_aload_n hx hb dT_leafAround_54 rfl (lv_at hl 4 rfl) ?_
            refine lv_iload hx hb dT_leafAround_55 (lv_at hl 0 rfl) ?_
            refine ro_Vi (v := sT_nodesIn Rw (wOf sl wv) (rAt (Rw 1) k)) (As := [.int (rAt (Rw 1) k)]) (rest := [.int b]) ⟨hx, hb, hml, hown, ht⟩ (cT_nodesIn l g ad q cp f Rw sl cnt h st LW wv hz hsl (rAt (Rw 1) k)) (cwV 1 ht (g_V q_390 q_391 q_392 q_35 q_393) rfl rfl rfl hd_T_nodesIn ⟨Nat.le_of_ble_eq_true rfl, Nat.le_of_ble_eq_true rfl⟩) hK (hP) (va_recv hK.1 hP (ci := 4) (q0 := 0) rfl rfl) rfl hl.1 rfl (Nat.le_of_ble_eq_true rfl) dT_leafAround_57 ⟨by show 0 ≤ 0; omega, by show 0 ≤ 0; omega⟩ ?_
            refine lv_iconst (v := 1) hx hb dT_leafAround_60 (by decide) ?_
            refine lv_iadd hx hb dT_leafAround_61 ?_
            refine lv_iadd hx hb dT_leafAround_62 ?_
            refine lv_istore_n (lv' := [(3, .int (b + ((sT_nodesIn Rw (wOf sl wv) (rAt (Rw 1) k)) + 1))), (6, .int (rAt (Rw 1) k)), (5, .int d), (4, .int k), (0, .ref (ad 0)), (1, .int x), (2, .int y)]) hx hb dT_leafAround_63 rfl hl (by decide) rfl (fun ls hl => ?_)
            refine lv_aload_n hx hb dT_leafAround_64 rfl (lv_at hl 4 rfl) ?_
            refine va_get (D := g.1) (ci := 4) (v := .ref (ad 8)) (C := "NodeMaker$Tree") (T := Fd_T) (N := 16) hx hb ht i_T hown hK.1 hP 0 rfl rfl 3 (by decide) (ht _ q_108) (fun _ h9 => h9) rfl dT_leafAround_65 ?_
            refine lv_iload hx hb dT_leafAround_68 (lv_at hl 3 rfl) ?_
            have hPc := hP.sub (ws' := rowW g (ad 8) (q 2) (cp 2) (f 2) (Rw 2).length) [10, 11] rfl
            refine ro_Vi (v := rAt (Rw 2) k) (As := [.int k]) (rest := []) ⟨hx, hb, hml, hown, ht⟩ (cR_at l g (ad 8) (q 2) (cp 2) (f 2) (Rw 2) (hz 2 (by decide)) k) (cwV 1 ht (g_V q_325 q_326 q_327 q_37 q_328) rfl rfl rfl hd_R_at ⟨Nat.le_of_ble_eq_true rfl, Nat.le_of_ble_eq_true rfl⟩) hK (hPc) (va_recv hK.1 hPc (ci := 0) (q0 := 0) rfl rfl) rfl hl.1 rfl (Nat.le_of_ble_eq_true rfl) dT_leafAround_70 ⟨by show 0 ≤ 0; omega, by show 0 ≤ 0; omega⟩ ?_
            refine lv_istore (lv' := [(4, .int (rAt (Rw 2) k)), (3, .int (b + ((sT_nodesIn Rw (wOf sl wv) (rAt (Rw 1) k)) + 1))), (6, .int (rAt (Rw 1) k)), (5, .int d), (0, .ref (ad 0)), (1, .int x), (2, .int y)]) hx hb dT_leafAround_73 hl (by decide) rfl (fun ls hl => ?_)
            refine lv_iinc (v := d + 1) (lv' := [(5, .int (d + 1)), (4, .int (rAt (Rw 2) k)), (3, .int (b + ((sT_nodesIn Rw (wOf sl wv) (rAt (Rw 1) k)) + 1))), (6, .int (rAt (Rw 1) k)), (0, .ref (ad 0)), (1, .int x), (2, .int y)]) hx hb dT_leafAround_75 hl (k := 3) rfl rfl (by decide) rfl (fun ls hl => ?_)
            refine lv_goto (tgt := 8) hx hb dT_leafAround_78 (by decide) ?_
            exact ih (j + 1) (b + ((sT_nodesIn Rw (wOf sl wv) (rAt (Rw 1) k)) + 1)) (rAt (Rw 2) k) (d + 1) ls (by omega) (by rw [hi]; exact nI_1 j) (by rw [← hR, sLeafL, if_neg c_9, if_pos c_10]) (lv_sub hl [0, 1, 2, 4, 5, 6] rfl)
          · skip
            refine lv_iload hx hb dT_leafAround_46 (lv_at hl 0 rfl) ?_
            refine lv_istore (lv' := [(4, .int (rAt (Rw 1) k)), (6, .int (rAt (Rw 1) k)), (5, .int d), (3, .int b), (0, .ref (ad 0)), (1, .int x), (2, .int y)]) hx hb dT_leafAround_48 hl (by decide) rfl (fun ls hl => ?_)
            refine lv_goto (tgt := 75) hx hb dT_leafAround_50 (by decide) ?_
            refine lv_iinc (v := d + 1) (lv' := [(5, .int (d + 1)), (4, .int (rAt (Rw 1) k)), (6, .int (rAt (Rw 1) k)), (3, .int b), (0, .ref (ad 0)), (1, .int x), (2, .int y)]) hx hb dT_leafAround_75 hl (k := 2) rfl rfl (by decide) rfl (fun ls hl => ?_)
            refine lv_goto (tgt := 8) hx hb dT_leafAround_78 (by decide) ?_
            exact ih (j + 1) b (rAt (Rw 1) k) (d + 1) ls (by omega) (by rw [hi]; exact nI_1 j) (by rw [← hR, sLeafL, if_neg c_9, if_neg c_10]) (lv_sub hl [0, 1, 3, 4, 5, 6] rfl)
  exact loop8 64 0 0 0 0 ls (by omega) rfl rfl (lv_sub hl [0, 1, 2, 3, 4, 5] rfl)
def sBlIn (Rw : Nat → List Int32) (Wl : Nat → Option WV) (ln : Int32) : Nat → Int32 → Int32 → Int32 → Int32 × Int32
  | 0, _, c, b => (c, b)
  | n + 1, j, c, b => sBlIn Rw Wl ln n (j + 1) (c + if sT_whereLies Rw Wl ln j = 3 then 1 else 0) ((b + if sT_whereLies Rw Wl ln j &&& 1 = 0 then 0 else 1) - if sT_whereLies Rw Wl ln j &&& 2 = 0 then 0 else 1)
/-- 4 times the cuts, and the difference of the sides -/
def sBlP (p : Int32 × Int32) : Int32 := 4 * p.1 + if 0 ≤ p.2 then p.2 else 0 - p.2
def sBlOut (Rw : Nat → List Int32) (Wl : Nat → Option WV) (fr : Nat) : Nat → Int32 → Int32 → Int32 → Int32
  | 0, _, be, _ => be
  | n + 1, i, be, le => if be = -1 then sBlOut Rw Wl fr n (i + 1) (rAt (Rw 10) i) (sBlP (sBlIn Rw Wl (rAt (Rw 10) i) ((Rw 10).length - fr) (nI fr) 0 0)) else if le ≤ sBlP (sBlIn Rw Wl (rAt (Rw 10) i) ((Rw 10).length - fr) (nI fr) 0 0) then sBlOut Rw Wl fr n (i + 1) be le else sBlOut Rw Wl fr n (i + 1) (rAt (Rw 10) i) (sBlP (sBlIn Rw Wl (rAt (Rw 10) i) ((Rw 10).length - fr) (nI fr) 0 0))
def sT_bestLine (Rw : Nat → List Int32) (Wl : Nat → Option WV) (fr : Nat) : Int32 := sBlOut Rw Wl fr (min 16 ((Rw 10).length - fr)) (nI fr) (-1) 0
set_option maxHeartbeats 4000000 in
set_option maxRecDepth 100000 in
theorem cT_bestLine (l : Launch) (g : CX) (ad q cp : Nat → Nat) (f : Nat → Nat → Int32) (Rw : Nat → List Int32) (sl : Nat → Option Nat) (cnt h st : Int32) (LW : List Nat) (wv : Nat → WV) (hz : rowsT cp f Rw) (hsl : slOK sl LW) (fr : Nat) (hfr : fr ≤ (Rw 10).length) : Met l yT_bestLine (wm yT_bestLine kT_bestLine 11 (some .int)) ({ frames := 4, cells := 0, slots := 0, locals := 111 }) (ro g [.ref (ad 0), .int (nI fr)] (va_P g.1 vwCl (TW g ad q cp f Rw sl cnt h st LW wv))) (vp_Si (fun r => r = sT_bestLine Rw (wOf sl wv) fr)) 0 0 (fun _ => False) := by
  refine Met.ofW (cc := kT_bestLine) (maxL := 11) (ret := (some .int)) (by decide) rfl ?_
  intro p e s m args below meth c s₁ B hml hv
  obtain ⟨rfl, hK, hP⟩ := hv
  have hx := B.exec
  have hb := B.bytes
  have hr := B.returns
  have ht : ∀ w ∈ wT, w.before _ s = true := fun w h => atoms_spec (ws := wm yT_bestLine kT_bestLine 11 (some .int)) B.pre w (List.mem_cons_of_mem _ h)
  have hown : s.vm.findClass "NodeMaker$Tree" = some m.cls := findClass_of_methodNamed B.named
  have hlocks := B.notSynchronized
  have hl := lv_entry ([.ref (ad 0), .int (nI fr)]) (n := 11) (Nat.le_of_ble_eq_true rfl)
  rw [lg_entry_eq]
  generalize (lg_sl ([.ref (ad 0), .int (nI fr)]) ++ List.replicate (11 - (lg_sl ([.ref (ad 0), .int (nI fr)])).length) Slot.unset).toArray = ls at hl ⊢
  have hl : lv_has ls 11 [(0, .ref (ad 0)), (1, .int (nI fr))] := hl
  have hlen := rowsT_lt hz 10 (by decide)
  refine lv_aload_n hx hb dT_bestLine_0 rfl (lv_at hl 0 rfl) ?_
  refine va_get (D := g.1) (ci := 4) (v := .ref (ad 4)) (C := "NodeMaker$Tree") (T := Fd_T) (N := 16) hx hb ht i_T hown hK.1 hP 0 rfl rfl 9 (by decide) (ht _ q_114) (fun _ h9 => h9) rfl dT_bestLine_1 ?_
  have hPc := hP.sub (ws' := (piW g (ad 4) (fun k => ad (16 + k)) (fun k => q (10 + k)) (fun k => cp (10 + k)) (fun k => f (10 + k)) (fun k => (Rw (10 + k)).length))) [4, 26, 27, 28, 29, 30, 31] rfl
  refine ro_Vi (v := nI (Rw 10).length) (As := []) (rest := []) ⟨hx, hb, hml, hown, ht⟩ (cP_count l g (ad 4) (fun k => ad (16 + k)) (fun k => q (10 + k)) (fun k => cp (10 + k)) (fun k => f (10 + k)) (fun k => Rw (10 + k)) (rows_3 10 (by decide) hz) ) (cwV 0 ht (g_V q_307 q_308 q_309 q_38 q_310) rfl rfl rfl hd_P_count ⟨Nat.le_of_ble_eq_true rfl, Nat.le_of_ble_eq_true rfl⟩) hK (hPc) (va_recv hK.1 hPc (ci := 1) (q0 := 0) rfl rfl) rfl hl.1 rfl (Nat.le_of_ble_eq_true rfl) dT_bestLine_4 ⟨by show 0 ≤ 0; omega, by show 0 ≤ 0; omega⟩ ?_
  refine lv_istore_n (lv' := [(2, .int (nI (Rw 10).length)), (0, .ref (ad 0)), (1, .int (nI fr))]) hx hb dT_bestLine_7 rfl hl (by decide) rfl (fun ls hl => ?_)
  refine lv_iconst (v := -1) hx hb dT_bestLine_8 (by decide) ?_
  refine lv_istore_n (lv' := [(3, .int (-1)), (2, .int (nI (Rw 10).length)), (0, .ref (ad 0)), (1, .int (nI fr))]) hx hb dT_bestLine_9 rfl hl (by decide) rfl (fun ls hl => ?_)
  refine lv_iconst (v := 0) hx hb dT_bestLine_10 (by decide) ?_
  refine lv_istore (lv' := [(4, .int 0), (3, .int (-1)), (2, .int (nI (Rw 10).length)), (0, .ref (ad 0)), (1, .int (nI fr))]) hx hb dT_bestLine_11 hl (by decide) rfl (fun ls hl => ?_)
  refine lv_iload_n hx hb dT_bestLine_13 rfl (lv_at hl 4 rfl) ?_
  refine lv_istore (lv' := [(5, .int (nI fr)), (4, .int 0), (3, .int (-1)), (2, .int (nI (Rw 10).length)), (0, .ref (ad 0)), (1, .int (nI fr))]) hx hb dT_bestLine_14 hl (by decide) rfl (fun ls hl => ?_)
  have loop16 : ∀ (n : Nat) (k0 : Nat) (i be le : Int32) (ls : Array Slot), fr ≤ k0 → n = min 16 ((Rw 10).length - fr) - (k0 - fr) ∧ k0 - fr ≤ min 16 ((Rw 10).length - fr) → i = nI k0 → sBlOut Rw (wOf sl wv) fr n i be le = sT_bestLine Rw (wOf sl wv) fr → lv_has ls 11 [(5, .int i), (4, .int le), (3, .int be), (2, .int (nI (Rw 10).length)), (0, .ref (ad 0)), (1, .int (nI fr))] → W p l e (headSpec (wm yT_bestLine kT_bestLine 11 (some .int)) ({ frames := 4, cells := 0, slots := 0, locals := 111 })).room s m ([.ref (ad 0), .int (nI fr)] : List Value).toArray below meth c s.heap [] (0) (0) (MQ below (vp_Si (fun r => r = sT_bestLine Rw (wOf sl wv) fr)) ([.ref (ad 0), .int (nI fr)] : List Value).toArray s 0 0 (fun _ => False)) (F0 m 16 ls []) := by
    intro n
    induction n with
    | zero =>
      intro k0 i be le ls hk0 hk hi hR hl
      refine lv_iload hx hb dT_bestLine_16 (lv_at hl 0 rfl) ?_
      refine lv_iload_n hx hb dT_bestLine_18 rfl (lv_at hl 3 rfl) ?_
      refine lv_icmp_ge (tgt := 160) hx hb dT_bestLine_19 (by decide) (fun c_11 => ?_) (fun c_11 => ?_)
      · skip
        refine lv_iload_n hx hb dT_bestLine_160 rfl (lv_at hl 2 rfl) ?_
        exact W.iret hx hb hr (fun t ht9 hW => ⟨_, rfl, hR, ht9⟩) (fun q h => by cases h) dT_bestLine_161
      · skip
        refine lv_iload hx hb dT_bestLine_22 (lv_at hl 0 rfl) ?_
        refine lv_iload_n hx hb dT_bestLine_24 rfl (lv_at hl 5 rfl) ?_
        refine lv_bipush (v := 16) hx hb dT_bestLine_25 (by decide) ?_
        refine lv_iadd hx hb dT_bestLine_27 ?_
        refine lv_icmp_ge (tgt := 160) hx hb dT_bestLine_28 (by decide) (fun c_12 => ?_) (fun c_12 => ?_)
        · skip
          refine lv_iload_n hx hb dT_bestLine_160 rfl (lv_at hl 2 rfl) ?_
          exact W.iret hx hb hr (fun t ht9 hW => ⟨_, rfl, hR, ht9⟩) (fun q h => by cases h) dT_bestLine_161
        · skip
          exact absurd (by rw [hi, show (nI fr + 16 : Int32) = nI (fr + 16) from nI_add fr 16]; exact nI_le (by have hlt : ¬ (Rw 10).length ≤ k0 := fun h => c_11 (by rw [hi]; exact nI_le h (by omega)); omega) (by omega)) c_12
    | succ n ih =>
      intro k0 i be le ls hk0 hk hi hR hl
      refine lv_iload hx hb dT_bestLine_16 (lv_at hl 0 rfl) ?_
      refine lv_iload_n hx hb dT_bestLine_18 rfl (lv_at hl 3 rfl) ?_
      refine lv_icmp_ge (tgt := 160) hx hb dT_bestLine_19 (by decide) (fun c_13 => ?_) (fun c_13 => ?_)
      · skip
        exact absurd c_13 (by rw [hi]; exact nI_ge (by omega) (by omega))
      · skip
        refine lv_iload hx hb dT_bestLine_22 (lv_at hl 0 rfl) ?_
        refine lv_iload_n hx hb dT_bestLine_24 rfl (lv_at hl 5 rfl) ?_
        refine lv_bipush (v := 16) hx hb dT_bestLine_25 (by decide) ?_
        refine lv_iadd hx hb dT_bestLine_27 ?_
        refine lv_icmp_ge (tgt := 160) hx hb dT_bestLine_28 (by decide) (fun c_14 => ?_) (fun c_14 => ?_)
        · skip
          exact absurd c_14 (by rw [hi, show (nI fr + 16 : Int32) = nI (fr + 16) from nI_add fr 16]; exact nI_ge (by omega) (by omega))
        · skip
          refine lv_aload_n hx hb dT_bestLine_31 rfl (lv_at hl 4 rfl) ?_
          refine va_get (D := g.1) (ci := 4) (v := .ref (ad 4)) (C := "NodeMaker$Tree") (T := Fd_T) (N := 16) hx hb ht i_T hown hK.1 hP 0 rfl rfl 9 (by decide) (ht _ q_114) (fun _ h9 => h9) rfl dT_bestLine_32 ?_
          refine lv_iload hx hb dT_bestLine_35 (lv_at hl 0 rfl) ?_
          have hPc := hP.sub (ws' := (piW g (ad 4) (fun k => ad (16 + k)) (fun k => q (10 + k)) (fun k => cp (10 + k)) (fun k => f (10 + k)) (fun k => (Rw (10 + k)).length))) [4, 26, 27, 28, 29, 30, 31] rfl
          refine ro_Vi (v := rAt (Rw 10) i) (As := [.int i]) (rest := []) ⟨hx, hb, hml, hown, ht⟩ (cP_wallAt l g (ad 4) (fun k => ad (16 + k)) (fun k => q (10 + k)) (fun k => cp (10 + k)) (fun k => f (10 + k)) (fun k => Rw (10 + k)) (rows_3 10 (by decide) hz) i) (cwV 1 ht (g_V q_341 q_342 q_343 q_38 q_344) rfl rfl rfl hd_P_wallAt ⟨Nat.le_of_ble_eq_true rfl, Nat.le_of_ble_eq_true rfl⟩) hK (hPc) (va_recv hK.1 hPc (ci := 1) (q0 := 0) rfl rfl) rfl hl.1 rfl (Nat.le_of_ble_eq_true rfl) dT_bestLine_37 ⟨by show 0 ≤ 0; omega, by show 0 ≤ 0; omega⟩ ?_
          refine lv_istore (lv' := [(6, .int (rAt (Rw 10) i)), (5, .int i), (4, .int le), (3, .int be), (2, .int (nI (Rw 10).length)), (0, .ref (ad 0)), (1, .int (nI fr))]) hx hb dT_bestLine_40 hl (by decide) rfl (fun ls hl => ?_)
          refine lv_iconst (v := 0) hx hb dT_bestLine_42 (by decide) ?_
          refine lv_istore (lv' := [(7, .int 0), (6, .int (rAt (Rw 10) i)), (5, .int i), (4, .int le), (3, .int be), (2, .int (nI (Rw 10).length)), (0, .ref (ad 0)), (1, .int (nI fr))]) hx hb dT_bestLine_43 hl (by decide) rfl (fun ls hl => ?_)
          refine lv_iconst (v := 0) hx hb dT_bestLine_45 (by decide) ?_
          refine lv_istore (lv' := [(8, .int 0), (7, .int 0), (6, .int (rAt (Rw 10) i)), (5, .int i), (4, .int le), (3, .int be), (2, .int (nI (Rw 10).length)), (0, .ref (ad 0)), (1, .int (nI fr))]) hx hb dT_bestLine_46 hl (by decide) rfl (fun ls hl => ?_)
          refine lv_iload_n hx hb dT_bestLine_48 rfl (lv_at hl 8 rfl) ?_
          refine lv_istore (lv' := [(9, .int (nI fr)), (8, .int 0), (7, .int 0), (6, .int (rAt (Rw 10) i)), (5, .int i), (4, .int le), (3, .int be), (2, .int (nI (Rw 10).length)), (0, .ref (ad 0)), (1, .int (nI fr))]) hx hb dT_bestLine_49 hl (by decide) rfl (fun ls hl => ?_)
          have loop51 : ∀ (n : Nat) (k : Nat) (j c9 b : Int32) (ls : Array Slot), k + n = (Rw 10).length → j = nI k → sBlIn Rw (wOf sl wv) (rAt (Rw 10) i) n j c9 b = sBlIn Rw (wOf sl wv) (rAt (Rw 10) i) ((Rw 10).length - fr) (nI fr) 0 0 → lv_has ls 11 [(9, .int j), (8, .int b), (7, .int c9), (6, .int (rAt (Rw 10) i)), (5, .int i), (4, .int le), (3, .int be), (2, .int (nI (Rw 10).length)), (0, .ref (ad 0)), (1, .int (nI fr))] → W p l e (headSpec (wm yT_bestLine kT_bestLine 11 (some .int)) ({ frames := 4, cells := 0, slots := 0, locals := 111 })).room s m ([.ref (ad 0), .int (nI fr)] : List Value).toArray below meth c s.heap [] (0) (0) (MQ below (vp_Si (fun r => r = sT_bestLine Rw (wOf sl wv) fr)) ([.ref (ad 0), .int (nI fr)] : List Value).toArray s 0 0 (fun _ => False)) (F0 m 51 ls []) := by
            intro n
            induction n with
            | zero =>
              intro k j c9 b ls hk hj hI hl
              have hI2 : sBlP (c9, b) = sBlP (sBlIn Rw (wOf sl wv) (rAt (Rw 10) i) ((Rw 10).length - fr) (nI fr) 0 0) := by rw [← hI]; rfl
              refine lv_iload hx hb dT_bestLine_51 (lv_at hl 0 rfl) ?_
              refine lv_iload_n hx hb dT_bestLine_53 rfl (lv_at hl 7 rfl) ?_
              refine lv_icmp_ge (tgt := 123) hx hb dT_bestLine_54 (by decide) (fun c_15 => ?_) (fun c_15 => ?_)
              · skip
                refine lv_iconst (v := 4) hx hb dT_bestLine_123 (by decide) ?_
                refine lv_iload hx hb dT_bestLine_124 (lv_at hl 2 rfl) ?_
                refine lv_imul hx hb dT_bestLine_126 ?_
                refine lv_iload hx hb dT_bestLine_127 (lv_at hl 1 rfl) ?_
                refine va_mabs hx hb (by rw [hml]; exact hl.1.symm) hown (ht _ q_373) (ht _ q_374) (ht _ q_41) (ht _ q_375) (Nat.le_of_ble_eq_true rfl) (Nat.le_of_ble_eq_true rfl) (by show 0 ≤ 0; omega) (by show 0 ≤ 0; omega) dT_bestLine_129 ?_
                refine lv_iadd hx hb dT_bestLine_132 ?_
                refine lv_istore (lv' := [(9, .int ((4 * c9) + (if 0 ≤ b then b else 0 - b))), (8, .int b), (7, .int c9), (6, .int (rAt (Rw 10) i)), (5, .int i), (4, .int le), (3, .int be), (2, .int (nI (Rw 10).length)), (0, .ref (ad 0)), (1, .int (nI fr))]) hx hb dT_bestLine_133 hl (by decide) rfl (fun ls hl => ?_)
                refine lv_iload_n hx hb dT_bestLine_135 rfl (lv_at hl 6 rfl) ?_
                refine lv_iconst (v := -1) hx hb dT_bestLine_136 (by decide) ?_
                refine lv_icmp_eq (tgt := 147) hx hb dT_bestLine_137 (by decide) (fun c_16 => ?_) (fun c_16 => ?_)
                · skip
                  refine lv_iload hx hb dT_bestLine_147 (lv_at hl 0 rfl) ?_
                  refine lv_istore (lv' := [(4, .int ((4 * c9) + (if 0 ≤ b then b else 0 - b))), (9, .int ((4 * c9) + (if 0 ≤ b then b else 0 - b))), (8, .int b), (7, .int c9), (6, .int (rAt (Rw 10) i)), (5, .int i), (3, .int be), (2, .int (nI (Rw 10).length)), (0, .ref (ad 0)), (1, .int (nI fr))]) hx hb dT_bestLine_149 hl (by decide) rfl (fun ls hl => ?_)
                  refine lv_iload hx hb dT_bestLine_151 (lv_at hl 4 rfl) ?_
                  refine lv_istore_n (lv' := [(3, .int (rAt (Rw 10) i)), (4, .int ((4 * c9) + (if 0 ≤ b then b else 0 - b))), (9, .int ((4 * c9) + (if 0 ≤ b then b else 0 - b))), (8, .int b), (7, .int c9), (6, .int (rAt (Rw 10) i)), (5, .int i), (2, .int (nI (Rw 10).length)), (0, .ref (ad 0)), (1, .int (nI fr))]) hx hb dT_bestLine_153 rfl hl (by decide) rfl (fun ls hl => ?_)
                  refine lv_iinc (v := i + 1) (lv' := [(5, .int (i + 1)), (3, .int (rAt (Rw 10) i)), (4, .int ((4 * c9) + (if 0 ≤ b then b else 0 - b))), (9, .int ((4 * c9) + (if 0 ≤ b then b else 0 - b))), (8, .int b), (7, .int c9), (6, .int (rAt (Rw 10) i)), (2, .int (nI (Rw 10).length)), (0, .ref (ad 0)), (1, .int (nI fr))]) hx hb dT_bestLine_154 hl (k := 6) rfl rfl (by decide) rfl (fun ls hl => ?_)
                  refine lv_goto (tgt := 16) hx hb dT_bestLine_157 (by decide) ?_
                  exact ih (k0 + 1) (i + 1) (rAt (Rw 10) i) (sBlP (sBlIn Rw (wOf sl wv) (rAt (Rw 10) i) ((Rw 10).length - fr) (nI fr) 0 0)) ls (by omega) (by omega) (by rw [hi]; exact nI_1 k0) (by rw [← hR, sBlOut, if_pos c_16]) (hI2 ▸ (lv_sub hl [0, 2, 1, 7, 8, 9] rfl))
                · skip
                  refine lv_iload hx hb dT_bestLine_140 (lv_at hl 0 rfl) ?_
                  refine lv_iload hx hb dT_bestLine_142 (lv_at hl 5 rfl) ?_
                  refine lv_icmp_ge (tgt := 154) hx hb dT_bestLine_144 (by decide) (fun c_17 => ?_) (fun c_17 => ?_)
                  · skip
                    refine lv_iinc (v := i + 1) (lv' := [(5, .int (i + 1)), (9, .int ((4 * c9) + (if 0 ≤ b then b else 0 - b))), (8, .int b), (7, .int c9), (6, .int (rAt (Rw 10) i)), (4, .int le), (3, .int be), (2, .int (nI (Rw 10).length)), (0, .ref (ad 0)), (1, .int (nI fr))]) hx hb dT_bestLine_154 hl (k := 4) rfl rfl (by decide) rfl (fun ls hl => ?_)
                    refine lv_goto (tgt := 16) hx hb dT_bestLine_157 (by decide) ?_
                    exact ih (k0 + 1) (i + 1) be le ls (by omega) (by omega) (by rw [hi]; exact nI_1 k0) (by rw [← hR, sBlOut, if_neg c_16, if_pos (hI2 ▸ c_17)]) (lv_sub hl [0, 5, 6, 7, 8, 9] rfl)
                  · skip
                    refine lv_iload hx hb dT_bestLine_147 (lv_at hl 0 rfl) ?_
                    refine lv_istore (lv' := [(4, .int ((4 * c9) + (if 0 ≤ b then b else 0 - b))), (9, .int ((4 * c9) + (if 0 ≤ b then b else 0 - b))), (8, .int b), (7, .int c9), (6, .int (rAt (Rw 10) i)), (5, .int i), (3, .int be), (2, .int (nI (Rw 10).length)), (0, .ref (ad 0)), (1, .int (nI fr))]) hx hb dT_bestLine_149 hl (by decide) rfl (fun ls hl => ?_)
                    refine lv_iload hx hb dT_bestLine_151 (lv_at hl 4 rfl) ?_
                    refine lv_istore_n (lv' := [(3, .int (rAt (Rw 10) i)), (4, .int ((4 * c9) + (if 0 ≤ b then b else 0 - b))), (9, .int ((4 * c9) + (if 0 ≤ b then b else 0 - b))), (8, .int b), (7, .int c9), (6, .int (rAt (Rw 10) i)), (5, .int i), (2, .int (nI (Rw 10).length)), (0, .ref (ad 0)), (1, .int (nI fr))]) hx hb dT_bestLine_153 rfl hl (by decide) rfl (fun ls hl => ?_)
                    refine lv_iinc (v := i + 1) (lv' := [(5, .int (i + 1)), (3, .int (rAt (Rw 10) i)), (4, .int ((4 * c9) + (if 0 ≤ b then b else 0 - b))), (9, .int ((4 * c9) + (if 0 ≤ b then b else 0 - b))), (8, .int b), (7, .int c9), (6, .int (rAt (Rw 10) i)), (2, .int (nI (Rw 10).length)), (0, .ref (ad 0)), (1, .int (nI fr))]) hx hb dT_bestLine_154 hl (k := 6) rfl rfl (by decide) rfl (fun ls hl => ?_)
                    refine lv_goto (tgt := 16) hx hb dT_bestLine_157 (by decide) ?_
                    exact ih (k0 + 1) (i + 1) (rAt (Rw 10) i) (sBlP (sBlIn Rw (wOf sl wv) (rAt (Rw 10) i) ((Rw 10).length - fr) (nI fr) 0 0)) ls (by omega) (by omega) (by rw [hi]; exact nI_1 k0) (by rw [← hR, sBlOut, if_neg c_16, if_neg (hI2 ▸ c_17)]) (hI2 ▸ (lv_sub hl [0, 2, 1, 7, 8, 9] rfl))
              · skip
                exact absurd (by rw [hj]; exact nI_le (by omega) (by omega)) c_15
            | succ n ih =>
              intro k j c9 b ls hk hj hI hl
              refine lv_iload hx hb dT_bestLine_51 (lv_at hl 0 rfl) ?_
              refine lv_iload_n hx hb dT_bestLine_53 rfl (lv_at hl 7 rfl) ?_
              refine lv_icmp_ge (tgt := 123) hx hb dT_bestLine_54 (by decide) (fun c_18 => ?_) (fun c_18 => ?_)
              · skip
                exact absurd c_18 (by rw [hj]; exact nI_ge (by omega) (by omega))
              · skip
                refine lv_aload_n hx hb dT_bestLine_57 rfl (lv_at hl 8 rfl) ?_
                refine lv_iload hx hb dT_bestLine_58 (lv_at hl 3 rfl) ?_
                refine lv_iload hx hb dT_bestLine_60 (lv_at hl 0 rfl) ?_
                refine ro_Vi (v := sT_whereLies Rw (wOf sl wv) (rAt (Rw 10) i) j) (As := [.int (rAt (Rw 10) i), .int j]) (rest := []) ⟨hx, hb, hml, hown, ht⟩ (cT_whereLies l g ad q cp f Rw sl cnt h st LW wv hz hsl (rAt (Rw 10) i) j) (cwV 2 ht (g_V q_346 q_348 q_4 q_35 q_349) rfl rfl rfl hd_T_whereLies ⟨Nat.le_of_ble_eq_true rfl, Nat.le_of_ble_eq_true rfl⟩) hK (hP) (va_recv hK.1 hP (ci := 4) (q0 := 0) rfl rfl) rfl hl.1 rfl (Nat.le_of_ble_eq_true rfl) dT_bestLine_62 ⟨by show 0 ≤ 0; omega, by show 0 ≤ 0; omega⟩ ?_
                refine lv_istore (lv' := [(10, .int (sT_whereLies Rw (wOf sl wv) (rAt (Rw 10) i) j)), (9, .int j), (8, .int b), (7, .int c9), (6, .int (rAt (Rw 10) i)), (5, .int i), (4, .int le), (3, .int be), (2, .int (nI (Rw 10).length)), (0, .ref (ad 0)), (1, .int (nI fr))]) hx hb dT_bestLine_65 hl (by decide) rfl (fun ls hl => ?_)
                refine lv_iload hx hb dT_bestLine_67 (lv_at hl 3 rfl) ?_
                refine lv_iload hx hb dT_bestLine_69 (lv_at hl 0 rfl) ?_
                refine lv_iconst (v := 3) hx hb dT_bestLine_71 (by decide) ?_
                refine lv_icmp_ne (tgt := 79) hx hb dT_bestLine_72 (by decide) (fun c_19 => ?_) (fun c_19 => ?_)
                · skip
                  refine lv_iconst (v := 0) hx hb dT_bestLine_79 (by decide) ?_
                  refine lv_iadd hx hb dT_bestLine_80 ?_
                  refine lv_istore (lv' := [(7, .int (c9 + 0)), (10, .int (sT_whereLies Rw (wOf sl wv) (rAt (Rw 10) i) j)), (9, .int j), (8, .int b), (6, .int (rAt (Rw 10) i)), (5, .int i), (4, .int le), (3, .int be), (2, .int (nI (Rw 10).length)), (0, .ref (ad 0)), (1, .int (nI fr))]) hx hb dT_bestLine_81 hl (by decide) rfl (fun ls hl => ?_)
                  refine lv_iload hx hb dT_bestLine_83 (lv_at hl 3 rfl) ?_
                  refine lv_iload hx hb dT_bestLine_85 (lv_at hl 1 rfl) ?_
                  refine lv_iconst (v := 1) hx hb dT_bestLine_87 (by decide) ?_
                  refine lv_iand hx hb dT_bestLine_88 ?_
                  refine lv_if_eq (tgt := 96) hx hb dT_bestLine_89 (by decide) (fun c_20 => ?_) (fun c_20 => ?_)
                  · skip
                    refine lv_iconst (v := 0) hx hb dT_bestLine_96 (by decide) ?_
                    refine lv_iadd hx hb dT_bestLine_97 ?_
                    refine lv_istore (lv' := [(8, .int (b + 0)), (7, .int (c9 + 0)), (10, .int (sT_whereLies Rw (wOf sl wv) (rAt (Rw 10) i) j)), (9, .int j), (6, .int (rAt (Rw 10) i)), (5, .int i), (4, .int le), (3, .int be), (2, .int (nI (Rw 10).length)), (0, .ref (ad 0)), (1, .int (nI fr))]) hx hb dT_bestLine_98 hl (by decide) rfl (fun ls hl => ?_)
                    refine lv_iload hx hb dT_bestLine_100 (lv_at hl 0 rfl) ?_
                    refine lv_iload hx hb dT_bestLine_102 (lv_at hl 2 rfl) ?_
                    refine lv_iconst (v := 2) hx hb dT_bestLine_104 (by decide) ?_
                    refine lv_iand hx hb dT_bestLine_105 ?_
                    refine lv_if_eq (tgt := 113) hx hb dT_bestLine_106 (by decide) (fun c_21 => ?_) (fun c_21 => ?_)
                    · skip
                      refine lv_iconst (v := 0) hx hb dT_bestLine_113 (by decide) ?_
                      refine lv_isub hx hb dT_bestLine_114 ?_
                      refine lv_istore (lv' := [(8, .int ((b + 0) - 0)), (7, .int (c9 + 0)), (10, .int (sT_whereLies Rw (wOf sl wv) (rAt (Rw 10) i) j)), (9, .int j), (6, .int (rAt (Rw 10) i)), (5, .int i), (4, .int le), (3, .int be), (2, .int (nI (Rw 10).length)), (0, .ref (ad 0)), (1, .int (nI fr))]) hx hb dT_bestLine_115 hl (by decide) rfl (fun ls hl => ?_)
                      refine lv_iinc (v := j + 1) (lv' := [(9, .int (j + 1)), (8, .int ((b + 0) - 0)), (7, .int (c9 + 0)), (10, .int (sT_whereLies Rw (wOf sl wv) (rAt (Rw 10) i) j)), (6, .int (rAt (Rw 10) i)), (5, .int i), (4, .int le), (3, .int be), (2, .int (nI (Rw 10).length)), (0, .ref (ad 0)), (1, .int (nI fr))]) hx hb dT_bestLine_117 hl (k := 3) rfl rfl (by decide) rfl (fun ls hl => ?_)
                      refine lv_goto (tgt := 51) hx hb dT_bestLine_120 (by decide) ?_
                      exact ih (k + 1) (j + 1) (c9 + 0) ((b + 0) - 0) ls (by omega) (by rw [hj]; exact nI_1 k) (by rw [← hI, sBlIn, if_neg c_19, if_pos c_20, if_pos c_21]) (lv_sub hl [0, 1, 2, 4, 5, 6, 7, 8, 9, 10] rfl)
                    · skip
                      refine lv_iconst (v := 1) hx hb dT_bestLine_109 (by decide) ?_
                      refine lv_goto (tgt := 114) hx hb dT_bestLine_110 (by decide) ?_
                      refine lv_isub hx hb dT_bestLine_114 ?_
                      refine lv_istore (lv' := [(8, .int ((b + 0) - 1)), (7, .int (c9 + 0)), (10, .int (sT_whereLies Rw (wOf sl wv) (rAt (Rw 10) i) j)), (9, .int j), (6, .int (rAt (Rw 10) i)), (5, .int i), (4, .int le), (3, .int be), (2, .int (nI (Rw 10).length)), (0, .ref (ad 0)), (1, .int (nI fr))]) hx hb dT_bestLine_115 hl (by decide) rfl (fun ls hl => ?_)
                      refine lv_iinc (v := j + 1) (lv' := [(9, .int (j + 1)), (8, .int ((b + 0) - 1)), (7, .int (c9 + 0)), (10, .int (sT_whereLies Rw (wOf sl wv) (rAt (Rw 10) i) j)), (6, .int (rAt (Rw 10) i)), (5, .int i), (4, .int le), (3, .int be), (2, .int (nI (Rw 10).length)), (0, .ref (ad 0)), (1, .int (nI fr))]) hx hb dT_bestLine_117 hl (k := 3) rfl rfl (by decide) rfl (fun ls hl => ?_)
                      refine lv_goto (tgt := 51) hx hb dT_bestLine_120 (by decide) ?_
                      exact ih (k + 1) (j + 1) (c9 + 0) ((b + 0) - 1) ls (by omega) (by rw [hj]; exact nI_1 k) (by rw [← hI, sBlIn, if_neg c_19, if_pos c_20, if_neg c_21]) (lv_sub hl [0, 1, 2, 4, 5, 6, 7, 8, 9, 10] rfl)
                  · skip
                    refine lv_iconst (v := 1) hx hb dT_bestLine_92 (by decide) ?_
                    refine lv_goto (tgt := 97) hx hb dT_bestLine_93 (by decide) ?_
                    refine lv_iadd hx hb dT_bestLine_97 ?_
                    refine lv_istore (lv' := [(8, .int (b + 1)), (7, .int (c9 + 0)), (10, .int (sT_whereLies Rw (wOf sl wv) (rAt (Rw 10) i) j)), (9, .int j), (6, .int (rAt (Rw 10) i)), (5, .int i), (4, .int le), (3, .int be), (2, .int (nI (Rw 10).length)), (0, .ref (ad 0)), (1, .int (nI fr))]) hx hb dT_bestLine_98 hl (by decide) rfl (fun ls hl => ?_)
                    refine lv_iload hx hb dT_bestLine_100 (lv_at hl 0 rfl) ?_
                    refine lv_iload hx hb dT_bestLine_102 (lv_at hl 2 rfl) ?_
                    refine lv_iconst (v := 2) hx hb dT_bestLine_104 (by decide) ?_
                    refine lv_iand hx hb dT_bestLine_105 ?_
                    refine lv_if_eq (tgt := 113) hx hb dT_bestLine_106 (by decide) (fun c_22 => ?_) (fun c_22 => ?_)
                    · skip
                      refine lv_iconst (v := 0) hx hb dT_bestLine_113 (by decide) ?_
                      refine lv_isub hx hb dT_bestLine_114 ?_
                      refine lv_istore (lv' := [(8, .int ((b + 1) - 0)), (7, .int (c9 + 0)), (10, .int (sT_whereLies Rw (wOf sl wv) (rAt (Rw 10) i) j)), (9, .int j), (6, .int (rAt (Rw 10) i)), (5, .int i), (4, .int le), (3, .int be), (2, .int (nI (Rw 10).length)), (0, .ref (ad 0)), (1, .int (nI fr))]) hx hb dT_bestLine_115 hl (by decide) rfl (fun ls hl => ?_)
                      refine lv_iinc (v := j + 1) (lv' := [(9, .int (j + 1)), (8, .int ((b + 1) - 0)), (7, .int (c9 + 0)), (10, .int (sT_whereLies Rw (wOf sl wv) (rAt (Rw 10) i) j)), (6, .int (rAt (Rw 10) i)), (5, .int i), (4, .int le), (3, .int be), (2, .int (nI (Rw 10).length)), (0, .ref (ad 0)), (1, .int (nI fr))]) hx hb dT_bestLine_117 hl (k := 3) rfl rfl (by decide) rfl (fun ls hl => ?_)
                      refine lv_goto (tgt := 51) hx hb dT_bestLine_120 (by decide) ?_
                      exact ih (k + 1) (j + 1) (c9 + 0) ((b + 1) - 0) ls (by omega) (by rw [hj]; exact nI_1 k) (by rw [← hI, sBlIn, if_neg c_19, if_neg c_20, if_pos c_22]) (lv_sub hl [0, 1, 2, 4, 5, 6, 7, 8, 9, 10] rfl)
                    · skip
                      refine lv_iconst (v := 1) hx hb dT_bestLine_109 (by decide) ?_
                      refine lv_goto (tgt := 114) hx hb dT_bestLine_110 (by decide) ?_
                      refine lv_isub hx hb dT_bestLine_114 ?_
                      refine lv_istore (lv' := [(8, .int ((b + 1) - 1)), (7, .int (c9 + 0)), (10, .int (sT_whereLies Rw (wOf sl wv) (rAt (Rw 10) i) j)), (9, .int j), (6, .int (rAt (Rw 10) i)), (5, .int i), (4, .int le), (3, .int be), (2, .int (nI (Rw 10).length)), (0, .ref (ad 0)), (1, .int (nI fr))]) hx hb dT_bestLine_115 hl (by decide) rfl (fun ls hl => ?_)
                      refine lv_iinc (v := j + 1) (lv' := [(9, .int (j + 1)), (8, .int ((b + 1) - 1)), (7, .int (c9 + 0)), (10, .int (sT_whereLies Rw (wOf sl wv) (rAt (Rw 10) i) j)), (6, .int (rAt (Rw 10) i)), (5, .int i), (4, .int le), (3, .int be), (2, .int (nI (Rw 10).length)), (0, .ref (ad 0)), (1, .int (nI fr))]) hx hb dT_bestLine_117 hl (k := 3) rfl rfl (by decide) rfl (fun ls hl => ?_)
                      refine lv_goto (tgt := 51) hx hb dT_bestLine_120 (by decide) ?_
                      exact ih (k + 1) (j + 1) (c9 + 0) ((b + 1) - 1) ls (by omega) (by rw [hj]; exact nI_1 k) (by rw [← hI, sBlIn, if_neg c_19, if_neg c_20, if_neg c_22]) (lv_sub hl [0, 1, 2, 4, 5, 6, 7, 8, 9, 10] rfl)
                · skip
                  refine lv_iconst (v := 1) hx hb dT_bestLine_75 (by decide) ?_
                  refine lv_goto (tgt := 80) hx hb dT_bestLine_76 (by decide) ?_
                  refine lv_iadd hx hb dT_bestLine_80 ?_
                  refine lv_istore (lv' := [(7, .int (c9 + 1)), (10, .int (sT_whereLies Rw (wOf sl wv) (rAt (Rw 10) i) j)), (9, .int j), (8, .int b), (6, .int (rAt (Rw 10) i)), (5, .int i), (4, .int le), (3, .int be), (2, .int (nI (Rw 10).length)), (0, .ref (ad 0)), (1, .int (nI fr))]) hx hb dT_bestLine_81 hl (by decide) rfl (fun ls hl => ?_)
                  refine lv_iload hx hb dT_bestLine_83 (lv_at hl 3 rfl) ?_
                  refine lv_iload hx hb dT_bestLine_85 (lv_at hl 1 rfl) ?_
                  refine lv_iconst (v := 1) hx hb dT_bestLine_87 (by decide) ?_
                  refine lv_iand hx hb dT_bestLine_88 ?_
                  refine lv_if_eq (tgt := 96) hx hb dT_bestLine_89 (by decide) (fun c_23 => ?_) (fun c_23 => ?_)
                  · skip
                    refine lv_iconst (v := 0) hx hb dT_bestLine_96 (by decide) ?_
                    refine lv_iadd hx hb dT_bestLine_97 ?_
                    refine lv_istore (lv' := [(8, .int (b + 0)), (7, .int (c9 + 1)), (10, .int (sT_whereLies Rw (wOf sl wv) (rAt (Rw 10) i) j)), (9, .int j), (6, .int (rAt (Rw 10) i)), (5, .int i), (4, .int le), (3, .int be), (2, .int (nI (Rw 10).length)), (0, .ref (ad 0)), (1, .int (nI fr))]) hx hb dT_bestLine_98 hl (by decide) rfl (fun ls hl => ?_)
                    refine lv_iload hx hb dT_bestLine_100 (lv_at hl 0 rfl) ?_
                    refine lv_iload hx hb dT_bestLine_102 (lv_at hl 2 rfl) ?_
                    refine lv_iconst (v := 2) hx hb dT_bestLine_104 (by decide) ?_
                    refine lv_iand hx hb dT_bestLine_105 ?_
                    refine lv_if_eq (tgt := 113) hx hb dT_bestLine_106 (by decide) (fun c_24 => ?_) (fun c_24 => ?_)
                    · skip
                      refine lv_iconst (v := 0) hx hb dT_bestLine_113 (by decide) ?_
                      refine lv_isub hx hb dT_bestLine_114 ?_
                      refine lv_istore (lv' := [(8, .int ((b + 0) - 0)), (7, .int (c9 + 1)), (10, .int (sT_whereLies Rw (wOf sl wv) (rAt (Rw 10) i) j)), (9, .int j), (6, .int (rAt (Rw 10) i)), (5, .int i), (4, .int le), (3, .int be), (2, .int (nI (Rw 10).length)), (0, .ref (ad 0)), (1, .int (nI fr))]) hx hb dT_bestLine_115 hl (by decide) rfl (fun ls hl => ?_)
                      refine lv_iinc (v := j + 1) (lv' := [(9, .int (j + 1)), (8, .int ((b + 0) - 0)), (7, .int (c9 + 1)), (10, .int (sT_whereLies Rw (wOf sl wv) (rAt (Rw 10) i) j)), (6, .int (rAt (Rw 10) i)), (5, .int i), (4, .int le), (3, .int be), (2, .int (nI (Rw 10).length)), (0, .ref (ad 0)), (1, .int (nI fr))]) hx hb dT_bestLine_117 hl (k := 3) rfl rfl (by decide) rfl (fun ls hl => ?_)
                      refine lv_goto (tgt := 51) hx hb dT_bestLine_120 (by decide) ?_
                      exact ih (k + 1) (j + 1) (c9 + 1) ((b + 0) - 0) ls (by omega) (by rw [hj]; exact nI_1 k) (by rw [← hI, sBlIn, if_pos c_19, if_pos c_23, if_pos c_24]) (lv_sub hl [0, 1, 2, 4, 5, 6, 7, 8, 9, 10] rfl)
                    · skip
                      refine lv_iconst (v := 1) hx hb dT_bestLine_109 (by decide) ?_
                      refine lv_goto (tgt := 114) hx hb dT_bestLine_110 (by decide) ?_
                      refine lv_isub hx hb dT_bestLine_114 ?_
                      refine lv_istore (lv' := [(8, .int ((b + 0) - 1)), (7, .int (c9 + 1)), (10, .int (sT_whereLies Rw (wOf sl wv) (rAt (Rw 10) i) j)), (9, .int j), (6, .int (rAt (Rw 10) i)), (5, .int i), (4, .int le), (3, .int be), (2, .int (nI (Rw 10).length)), (0, .ref (ad 0)), (1, .int (nI fr))]) hx hb dT_bestLine_115 hl (by decide) rfl (fun ls hl => ?_)
                      refine lv_iinc (v := j + 1) (lv' := [(9, .int (j + 1)), (8, .int ((b + 0) - 1)), (7, .int (c9 + 1)), (10, .int (sT_whereLies Rw (wOf sl wv) (rAt (Rw 10) i) j)), (6, .int (rAt (Rw 10) i)), (5, .int i), (4, .int le), (3, .int be), (2, .int (nI (Rw 10).length)), (0, .ref (ad 0)), (1, .int (nI fr))]) hx hb dT_bestLine_117 hl (k := 3) rfl rfl (by decide) rfl (fun ls hl => ?_)
                      refine lv_goto (tgt := 51) hx hb dT_bestLine_120 (by decide) ?_
                      exact ih (k + 1) (j + 1) (c9 + 1) ((b + 0) - 1) ls (by omega) (by rw [hj]; exact nI_1 k) (by rw [← hI, sBlIn, if_pos c_19, if_pos c_23, if_neg c_24]) (lv_sub hl [0, 1, 2, 4, 5, 6, 7, 8, 9, 10] rfl)
                  · skip
                    refine lv_iconst (v := 1) hx hb dT_bestLine_92 (by decide) ?_
                    refine lv_goto (tgt := 97) hx hb dT_bestLine_93 (by decide) ?_
                    refine lv_iadd hx hb dT_bestLine_97 ?_
                    refine lv_istore (lv' := [(8, .int (b + 1)), (7, .int (c9 + 1)), (10, .int (sT_whereLies Rw (wOf sl wv) (rAt (Rw 10) i) j)), (9, .int j), (6, .int (rAt (Rw 10) i)), (5, .int i), (4, .int le), (3, .int be), (2, .int (nI (Rw 10).length)), (0, .ref (ad 0)), (1, .int (nI fr))]) hx hb dT_bestLine_98 hl (by decide) rfl (fun ls hl => ?_)
                    refine lv_iload hx hb dT_bestLine_100 (lv_at hl 0 rfl) ?_
                    refine lv_iload hx hb dT_bestLine_102 (lv_at hl 2 rfl) ?_
                    refine lv_iconst (v := 2) hx hb dT_bestLine_104 (by decide) ?_
                    refine lv_iand hx hb dT_bestLine_105 ?_
                    refine lv_if_eq (tgt := 113) hx hb dT_bestLine_106 (by decide) (fun c_25 => ?_) (fun c_25 => ?_)
                    · skip
                      refine lv_iconst (v := 0) hx hb dT_bestLine_113 (by decide) ?_
                      refine lv_isub hx hb dT_bestLine_114 ?_
                      refine lv_istore (lv' := [(8, .int ((b + 1) - 0)), (7, .int (c9 + 1)), (10, .int (sT_whereLies Rw (wOf sl wv) (rAt (Rw 10) i) j)), (9, .int j), (6, .int (rAt (Rw 10) i)), (5, .int i), (4, .int le), (3, .int be), (2, .int (nI (Rw 10).length)), (0, .ref (ad 0)), (1, .int (nI fr))]) hx hb dT_bestLine_115 hl (by decide) rfl (fun ls hl => ?_)
                      refine lv_iinc (v := j + 1) (lv' := [(9, .int (j + 1)), (8, .int ((b + 1) - 0)), (7, .int (c9 + 1)), (10, .int (sT_whereLies Rw (wOf sl wv) (rAt (Rw 10) i) j)), (6, .int (rAt (Rw 10) i)), (5, .int i), (4, .int le), (3, .int be), (2, .int (nI (Rw 10).length)), (0, .ref (ad 0)), (1, .int (nI fr))]) hx hb dT_bestLine_117 hl (k := 3) rfl rfl (by decide) rfl (fun ls hl => ?_)
                      refine lv_goto (tgt := 51) hx hb dT_bestLine_120 (by decide) ?_
                      exact ih (k + 1) (j + 1) (c9 + 1) ((b + 1) - 0) ls (by omega) (by rw [hj]; exact nI_1 k) (by rw [← hI, sBlIn, if_pos c_19, if_neg c_23, if_pos c_25]) (lv_sub hl [0, 1, 2, 4, 5, 6, 7, 8, 9, 10] rfl)
                    · skip
                      refine lv_iconst (v := 1) hx hb dT_bestLine_109 (by decide) ?_
                      refine lv_goto (tgt := 114) hx hb dT_bestLine_110 (by decide) ?_
                      refine lv_isub hx hb dT_bestLine_114 ?_
                      refine lv_istore (lv' := [(8, .int ((b + 1) - 1)), (7, .int (c9 + 1)), (10, .int (sT_whereLies Rw (wOf sl wv) (rAt (Rw 10) i) j)), (9, .int j), (6, .int (rAt (Rw 10) i)), (5, .int i), (4, .int le), (3, .int be), (2, .int (nI (Rw 10).length)), (0, .ref (ad 0)), (1, .int (nI fr))]) hx hb dT_bestLine_115 hl (by decide) rfl (fun ls hl => ?_)
                      refine lv_iinc (v := j + 1) (lv' := [(9, .int (j + 1)), (8, .int ((b + 1) - 1)), (7, .int (c9 + 1)), (10, .int (sT_whereLies Rw (wOf sl wv) (rAt (Rw 10) i) j)), (6, .int (rAt (Rw 10) i)), (5, .int i), (4, .int le), (3, .int be), (2, .int (nI (Rw 10).length)), (0, .ref (ad 0)), (1, .int (nI fr))]) hx hb dT_bestLine_117 hl (k := 3) rfl rfl (by decide) rfl (fun ls hl => ?_)
                      refine lv_goto (tgt := 51) hx hb dT_bestLine_120 (by decide) ?_
                      exact ih (k + 1) (j + 1) (c9 + 1) ((b + 1) - 1) ls (by omega) (by rw [hj]; exact nI_1 k) (by rw [← hI, sBlIn, if_pos c_19, if_neg c_23, if_neg c_25]) (lv_sub hl [0, 1, 2, 4, 5, 6, 7, 8, 9, 10] rfl)
          exact loop51 ((Rw 10).length - fr) fr (nI fr) 0 0 ls (by omega) rfl rfl (lv_sub hl [0, 1, 2, 3, 4, 5, 6, 7, 8, 9] rfl)
  exact loop16 (min 16 ((Rw 10).length - fr)) fr (nI fr) (-1) 0 ls (by omega) (by omega) rfl rfl (lv_sub hl [0, 1, 2, 3, 4, 5] rfl)
