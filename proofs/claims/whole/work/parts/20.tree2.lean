set_option maxHeartbeats 4000000 in
set_option maxRecDepth 100000 in
theorem cT_height (l : Launch) (g : CX) (ad q cp : Nat → Nat) (f : Nat → Nat → Int32) (Rw : Nat → List Int32) (sl : Nat → Option Nat) (cnt h st : Int32) (LW : List Nat) (wv : Nat → WV) (hz : rowsT cp f Rw) (hsl : slOK sl LW) : Met l yT_height (wm yT_height kT_height 1 (some .int)) ({ frames := 0, cells := 0, slots := 0, locals := 0 }) (ro g [.ref (ad 0)] (va_P g.1 vwCl (TW g ad q cp f Rw sl cnt h st LW wv))) (vp_Si (fun r => r = h)) 0 0 (fun _ => False) := by
  refine Met.ofW (cc := kT_height) (maxL := 1) (ret := (some .int)) (by decide) rfl ?_
  intro p e s m args below meth c s₁ B hml hv
  obtain ⟨rfl, hK, hP⟩ := hv
  have hx := B.exec
  have hb := B.bytes
  have hr := B.returns
  have ht : ∀ w ∈ wT, w.before _ s = true := fun w h => atoms_spec (ws := wm yT_height kT_height 1 (some .int)) B.pre w (List.mem_cons_of_mem _ h)
  have hown : s.vm.findClass "NodeMaker$Tree" = some m.cls := findClass_of_methodNamed B.named
  have hlocks := B.notSynchronized
  have hl := lv_entry ([.ref (ad 0)]) (n := 1) (Nat.le_of_ble_eq_true rfl)
  rw [lg_entry_eq]
  generalize (lg_sl ([.ref (ad 0)]) ++ List.replicate (1 - (lg_sl ([.ref (ad 0)])).length) Slot.unset).toArray = ls at hl ⊢
  have hl : lv_has ls 1 [(0, .ref (ad 0))] := hl
  refine lv_aload_n hx hb dT_height_0 rfl (lv_at hl 0 rfl) ?_
  refine va_get (D := g.1) (ci := 4) (v := .int h) (C := "NodeMaker$Tree") (T := Fd_T) (N := 16) hx hb ht i_T hown hK.1 hP 0 rfl rfl 14 (by decide) (ht _ q_119) (fun _ h9 => h9) rfl dT_height_1 ?_
  exact W.iret hx hb hr (fun t ht9 hW => ⟨_, rfl, rfl, ht9⟩) (fun q h => by cases h) dT_height_4
set_option maxHeartbeats 4000000 in
set_option maxRecDepth 100000 in
theorem cT_wallCount (l : Launch) (g : CX) (ad q cp : Nat → Nat) (f : Nat → Nat → Int32) (Rw : Nat → List Int32) (sl : Nat → Option Nat) (cnt h st : Int32) (LW : List Nat) (wv : Nat → WV) (hz : rowsT cp f Rw) (hsl : slOK sl LW) : Met l yT_wallCount (wm yT_wallCount kT_wallCount 1 (some .int)) ({ frames := 1, cells := 0, slots := 0, locals := 20 }) (ro g [.ref (ad 0)] (va_P g.1 vwCl (TW g ad q cp f Rw sl cnt h st LW wv))) (vp_Si (fun r => r = cnt)) 0 0 (fun _ => False) := by
  refine Met.ofW (cc := kT_wallCount) (maxL := 1) (ret := (some .int)) (by decide) rfl ?_
  intro p e s m args below meth c s₁ B hml hv
  obtain ⟨rfl, hK, hP⟩ := hv
  have hx := B.exec
  have hb := B.bytes
  have hr := B.returns
  have ht : ∀ w ∈ wT, w.before _ s = true := fun w h => atoms_spec (ws := wm yT_wallCount kT_wallCount 1 (some .int)) B.pre w (List.mem_cons_of_mem _ h)
  have hown : s.vm.findClass "NodeMaker$Tree" = some m.cls := findClass_of_methodNamed B.named
  have hlocks := B.notSynchronized
  have hl := lv_entry ([.ref (ad 0)]) (n := 1) (Nat.le_of_ble_eq_true rfl)
  rw [lg_entry_eq]
  generalize (lg_sl ([.ref (ad 0)]) ++ List.replicate (1 - (lg_sl ([.ref (ad 0)])).length) Slot.unset).toArray = ls at hl ⊢
  have hl : lv_has ls 1 [(0, .ref (ad 0))] := hl
  refine lv_aload_n hx hb dT_wallCount_0 rfl (lv_at hl 0 rfl) ?_
  refine va_get (D := g.1) (ci := 4) (v := .ref (ad 1)) (C := "NodeMaker$Tree") (T := Fd_T) (N := 16) hx hb ht i_T hown hK.1 hP 0 rfl rfl 0 (by decide) (ht _ q_105) (fun _ h9 => h9) rfl dT_wallCount_1 ?_
  have hPc := pl_P (cx := wsX g (ad 1) (ad 2) sl cnt) hP [1, 2] rfl
  refine ro_Vi (v := cnt) (As := []) (rest := []) ⟨hx, hb, hml, hown, ht⟩ (cS_count l g (ad 1) (ad 2) sl cnt LW wv) (cwV 0 ht (g_V q_507 q_508 q_509 q_36 q_510) rfl rfl rfl hd_S_count ⟨Nat.le_of_ble_eq_true rfl, Nat.le_of_ble_eq_true rfl⟩) hK (hPc) (va_recv hK.1 hPc (ci := 3) (q0 := 0) rfl rfl) rfl hl.1 rfl (Nat.le_of_ble_eq_true rfl) dT_wallCount_4 ⟨by show 0 ≤ 0; omega, by show 0 ≤ 0; omega⟩ ?_
  exact W.iret hx hb hr (fun t ht9 hW => ⟨_, rfl, rfl, ht9⟩) (fun q h => by cases h) dT_wallCount_7
set_option maxHeartbeats 4000000 in
set_option maxRecDepth 100000 in
theorem cT_wallAt (l : Launch) (g : CX) (ad q cp : Nat → Nat) (f : Nat → Nat → Int32) (Rw : Nat → List Int32) (sl : Nat → Option Nat) (cnt h st : Int32) (LW : List Nat) (wv : Nat → WV) (hz : rowsT cp f Rw) (hsl : slOK sl LW) (i : Int32) : Met l yT_wallAt (wm yT_wallAt kT_wallAt 2 (some (.object "NodeMaker$Wall"))) ({ frames := 1, cells := 0, slots := 0, locals := 21 }) (ro g [.ref (ad 0), .int i] (va_P g.1 vwCl (TW g ad q cp f Rw sl cnt h st LW wv))) (va_Sq (fun r => r.map wv = wAt (wOf sl wv) i ∧ ∀ x, r = some x → x ∈ LW)) 0 0 (fun _ => False) := by
  refine Met.ofW (cc := kT_wallAt) (maxL := 2) (ret := (some (.object "NodeMaker$Wall"))) (by decide) rfl ?_
  intro p e s m args below meth c s₁ B hml hv
  obtain ⟨rfl, hK, hP⟩ := hv
  have hx := B.exec
  have hb := B.bytes
  have hr := B.returns
  have ht : ∀ w ∈ wT, w.before _ s = true := fun w h => atoms_spec (ws := wm yT_wallAt kT_wallAt 2 (some (.object "NodeMaker$Wall"))) B.pre w (List.mem_cons_of_mem _ h)
  have hown : s.vm.findClass "NodeMaker$Tree" = some m.cls := findClass_of_methodNamed B.named
  have hlocks := B.notSynchronized
  have hl := lv_entry ([.ref (ad 0), .int i]) (n := 2) (Nat.le_of_ble_eq_true rfl)
  rw [lg_entry_eq]
  generalize (lg_sl ([.ref (ad 0), .int i]) ++ List.replicate (2 - (lg_sl ([.ref (ad 0), .int i])).length) Slot.unset).toArray = ls at hl ⊢
  have hl : lv_has ls 2 [(0, .ref (ad 0)), (1, .int i)] := hl
  refine lv_aload_n hx hb dT_wallAt_0 rfl (lv_at hl 0 rfl) ?_
  refine va_get (D := g.1) (ci := 4) (v := .ref (ad 1)) (C := "NodeMaker$Tree") (T := Fd_T) (N := 16) hx hb ht i_T hown hK.1 hP 0 rfl rfl 0 (by decide) (ht _ q_105) (fun _ h9 => h9) rfl dT_wallAt_1 ?_
  refine lv_iload_n hx hb dT_wallAt_4 rfl (lv_at hl 1 rfl) ?_
  have hPc := pl_P (cx := wsX g (ad 1) (ad 2) sl cnt) hP [1, 2] rfl
  refine ro_Vq (As := [.int i]) (rest := []) ⟨hx, hb, hml, hown, ht⟩ (cS_at l g (ad 1) (ad 2) sl cnt LW wv hsl i) (cwV 1 ht (g_V q_284 q_248 q_249 q_36 q_250) rfl rfl rfl hd_S_at ⟨Nat.le_of_ble_eq_true rfl, Nat.le_of_ble_eq_true rfl⟩) hK hPc (va_recv hK.1 hPc (ci := 3) (q0 := 0) rfl rfl) rfl hl.1 rfl (Nat.le_of_ble_eq_true rfl) dT_wallAt_5 ⟨by show 0 ≤ 0; omega, by show 0 ≤ 0; omega⟩ (fun hq => ?_) (fun x_1 hq => ?_)
  · skip
    have hwx_1 : wAt (wOf sl wv) i = none := hq.1.symm
    exact W.aret hx hb hr (Or.inl ⟨_, rfl⟩) (Or.inl rfl) (fun t ht9 hW => ⟨none, rfl, hq, ht9⟩) (fun q h => by cases h) dT_wallAt_8
  · skip
    have hwx_1 : wAt (wOf sl wv) i = some (wv x_1) := hq.1.symm
    have hxx_1 : x_1 ∈ LW := hq.2 _ rfl
    exact W.aret hx hb hr (Or.inl ⟨_, rfl⟩) (Or.inr ⟨_, rfl⟩) (fun t ht9 hW => ⟨some x_1, rfl, hq, ht9⟩) (fun q h => by cases h) dT_wallAt_8
def sT_sideOf (x : Int64) : Int32 :=
  if x ≤ 0 then
    if 0 ≤ x then
      0
    else
      2
  else
    1
set_option maxHeartbeats 4000000 in
set_option maxRecDepth 100000 in
theorem cT_sideOf (l : Launch) (g : CX) (x : Int64) : Met l yT_sideOf (wm yT_sideOf kT_sideOf 2 (some .int)) ({ frames := 0, cells := 0, slots := 0, locals := 0 }) (ro g [.long x] (fun _ => True)) (vp_Si (fun r => r = sT_sideOf x)) 0 0 (fun _ => False) := by
  refine Met.ofW (cc := kT_sideOf) (maxL := 2) (ret := (some .int)) (by decide) rfl ?_
  intro p e s m args below meth c s₁ B hml hv
  obtain ⟨rfl, hK, hP⟩ := hv
  have hx := B.exec
  have hb := B.bytes
  have hr := B.returns
  have ht : ∀ w ∈ wT, w.before _ s = true := fun w h => atoms_spec (ws := wm yT_sideOf kT_sideOf 2 (some .int)) B.pre w (List.mem_cons_of_mem _ h)
  have hown : s.vm.findClass "NodeMaker$Tree" = some m.cls := findClass_of_methodNamed B.named
  have hlocks := B.notSynchronized
  have hl := lv_entry ([.long x]) (n := 2) (Nat.le_of_ble_eq_true rfl)
  rw [lg_entry_eq]
  generalize (lg_sl ([.long x]) ++ List.replicate (2 - (lg_sl ([.long x])).length) Slot.unset).toArray = ls at hl ⊢
  have hl : lv_has ls 2 [(0, .long x)] := hl
  refine lv_lload_n hx hb dT_sideOf_0 rfl (lv_at hl 0 rfl) ?_
  refine lv_lconst (v := 0) hx hb dT_sideOf_1 (by decide) ?_
  refine W.lcmp hx hb dT_sideOf_2 ?_
  refine lv_if_le (tgt := 10) hx hb dT_sideOf_3 (by decide) (fun c_2 => ?_) (fun c_2 => ?_)
  · skip
    rw [lg_cmp_le] at c_2
    refine lv_lload_n hx hb dT_sideOf_10 rfl (lv_at hl 0 rfl) ?_
    refine lv_lconst (v := 0) hx hb dT_sideOf_11 (by decide) ?_
    refine W.lcmp hx hb dT_sideOf_12 ?_
    refine lv_if_ge (tgt := 20) hx hb dT_sideOf_13 (by decide) (fun c_3 => ?_) (fun c_3 => ?_)
    · skip
      rw [lg_cmp_ge] at c_3
      refine lv_iconst (v := 0) hx hb dT_sideOf_20 (by decide) ?_
      exact W.iret hx hb hr (fun t ht9 hW => ⟨_, rfl, by rw [sT_sideOf, if_pos c_2, if_pos c_3], ht9⟩) (fun q h => by cases h) dT_sideOf_21
    · skip
      rw [lg_cmp_ge] at c_3
      refine lv_iconst (v := 2) hx hb dT_sideOf_16 (by decide) ?_
      refine lv_goto (tgt := 21) hx hb dT_sideOf_17 (by decide) ?_
      exact W.iret hx hb hr (fun t ht9 hW => ⟨_, rfl, by rw [sT_sideOf, if_pos c_2, if_neg c_3], ht9⟩) (fun q h => by cases h) dT_sideOf_21
  · skip
    rw [lg_cmp_le] at c_2
    refine lv_iconst (v := 1) hx hb dT_sideOf_6 (by decide) ?_
    refine lv_goto (tgt := 21) hx hb dT_sideOf_7 (by decide) ?_
    exact W.iret hx hb hr (fun t ht9 hW => ⟨_, rfl, by rw [sT_sideOf, if_neg c_2], ht9⟩) (fun q h => by cases h) dT_sideOf_21
def sT_sideBetween (x : Int64) (y : Int64) (u : Int64) (v : Int64) : Int32 :=
  if x < 0 then
    if 0 < x then
      if (((if 0 < x then x else -x) * v) ^^^ (-9223372036854775808)) = (((if 0 < y then y else -y) * u) ^^^ (-9223372036854775808)) then
        0
      else
        if x ≤ 0 then
          if (((if 0 < x then x else -x) * v) ^^^ (-9223372036854775808)) ≤ (((if 0 < y then y else -y) * u) ^^^ (-9223372036854775808)) then
            1
          else
            2
        else
          if (((if 0 < x then x else -x) * v) ^^^ (-9223372036854775808)) ≤ (((if 0 < y then y else -y) * u) ^^^ (-9223372036854775808)) then
            2
          else
            1
    else
      if 0 < y then
        if (((if 0 < x then x else -x) * v) ^^^ (-9223372036854775808)) = (((if 0 < y then y else -y) * u) ^^^ (-9223372036854775808)) then
          0
        else
          if x ≤ 0 then
            if (((if 0 < x then x else -x) * v) ^^^ (-9223372036854775808)) ≤ (((if 0 < y then y else -y) * u) ^^^ (-9223372036854775808)) then
              1
            else
              2
          else
            if (((if 0 < x then x else -x) * v) ^^^ (-9223372036854775808)) ≤ (((if 0 < y then y else -y) * u) ^^^ (-9223372036854775808)) then
              2
            else
              1
      else
        2
  else
    if y < 0 then
      if 0 < x then
        if (((if 0 < x then x else -x) * v) ^^^ (-9223372036854775808)) = (((if 0 < y then y else -y) * u) ^^^ (-9223372036854775808)) then
          0
        else
          if x ≤ 0 then
            if (((if 0 < x then x else -x) * v) ^^^ (-9223372036854775808)) ≤ (((if 0 < y then y else -y) * u) ^^^ (-9223372036854775808)) then
              1
            else
              2
          else
            if (((if 0 < x then x else -x) * v) ^^^ (-9223372036854775808)) ≤ (((if 0 < y then y else -y) * u) ^^^ (-9223372036854775808)) then
              2
            else
              1
      else
        if 0 < y then
          if (((if 0 < x then x else -x) * v) ^^^ (-9223372036854775808)) = (((if 0 < y then y else -y) * u) ^^^ (-9223372036854775808)) then
            0
          else
            if x ≤ 0 then
              if (((if 0 < x then x else -x) * v) ^^^ (-9223372036854775808)) ≤ (((if 0 < y then y else -y) * u) ^^^ (-9223372036854775808)) then
                1
              else
                2
            else
              if (((if 0 < x then x else -x) * v) ^^^ (-9223372036854775808)) ≤ (((if 0 < y then y else -y) * u) ^^^ (-9223372036854775808)) then
                2
              else
                1
        else
          2
    else
      if 0 < x then
        1
      else
        if y ≤ 0 then
          0
        else
          1
set_option maxHeartbeats 4000000 in
set_option maxRecDepth 100000 in
theorem cT_sideBetween (l : Launch) (g : CX) (x : Int64) (y : Int64) (u : Int64) (v : Int64) : Met l yT_sideBetween (wm yT_sideBetween kT_sideBetween 14 (some .int)) ({ frames := 1, cells := 0, slots := 0, locals := 24 }) (ro g [.long x, .long y, .long u, .long v] (fun _ => True)) (vp_Si (fun r => r = sT_sideBetween x y u v)) 0 0 (fun _ => False) := by
  refine Met.ofW (cc := kT_sideBetween) (maxL := 14) (ret := (some .int)) (by decide) rfl ?_
  intro p e s m args below meth c s₁ B hml hv
  obtain ⟨rfl, hK, hP⟩ := hv
  have hx := B.exec
  have hb := B.bytes
  have hr := B.returns
  have ht : ∀ w ∈ wT, w.before _ s = true := fun w h => atoms_spec (ws := wm yT_sideBetween kT_sideBetween 14 (some .int)) B.pre w (List.mem_cons_of_mem _ h)
  have hown : s.vm.findClass "NodeMaker$Tree" = some m.cls := findClass_of_methodNamed B.named
  have hlocks := B.notSynchronized
  have hl := lv_entry ([.long x, .long y, .long u, .long v]) (n := 14) (Nat.le_of_ble_eq_true rfl)
  rw [lg_entry_eq]
  generalize (lg_sl ([.long x, .long y, .long u, .long v]) ++ List.replicate (14 - (lg_sl ([.long x, .long y, .long u, .long v])).length) Slot.unset).toArray = ls at hl ⊢
  have hl : lv_has ls 14 [(0, .long x), (2, .long y), (4, .long u), (6, .long v)] := hl
  refine lv_lload_n hx hb dT_sideBetween_0 rfl (lv_at hl 0 rfl) ?_
  refine lv_lconst (v := 0) hx hb dT_sideBetween_1 (by decide) ?_
  refine W.lcmp hx hb dT_sideBetween_2 ?_
  refine lv_if_lt (tgt := 30) hx hb dT_sideBetween_3 (by decide) (fun c_4 => ?_) (fun c_4 => ?_)
  · skip
    rw [lg_cmp_lt] at c_4
    refine lv_lload_n hx hb dT_sideBetween_30 rfl (lv_at hl 0 rfl) ?_
    refine lv_lconst (v := 0) hx hb dT_sideBetween_31 (by decide) ?_
    refine W.lcmp hx hb dT_sideBetween_32 ?_
    refine lv_if_gt (tgt := 44) hx hb dT_sideBetween_33 (by decide) (fun c_5 => ?_) (fun c_5 => ?_)
    · skip
      rw [lg_cmp_gt] at c_5
      refine lv_ldc2 (v := (-9223372036854775808)) hx hb hown (ht _ q_368) dT_sideBetween_44 ?_
      refine lv_lstore (lv' := [(8, .long (-9223372036854775808)), (0, .long x), (2, .long y), (4, .long u), (6, .long v)]) hx hb dT_sideBetween_47 hl (by decide) rfl (fun ls hl => ?_)
      refine lv_lload_n hx hb dT_sideBetween_49 rfl (lv_at hl 1 rfl) ?_
      refine va_mabs_long hx hb (by rw [hml]; exact hl.1.symm) hown (ht _ q_362) (ht _ q_363) (ht _ q_41) (ht _ q_364) (Nat.le_of_ble_eq_true rfl) (Nat.le_of_ble_eq_true rfl) (by show 0 ≤ 0; omega) (by show 0 ≤ 0; omega) dT_sideBetween_50 ?_
      refine lv_lload hx hb dT_sideBetween_53 (lv_at hl 4 rfl) ?_
      refine lv_lmul hx hb dT_sideBetween_55 ?_
      refine lv_lload hx hb dT_sideBetween_56 (lv_at hl 0 rfl) ?_
      refine lv_lxor hx hb dT_sideBetween_58 ?_
      refine lv_lstore (lv' := [(10, .long (((if 0 < x then x else -x) * v) ^^^ (-9223372036854775808))), (8, .long (-9223372036854775808)), (0, .long x), (2, .long y), (4, .long u), (6, .long v)]) hx hb dT_sideBetween_59 hl (by decide) rfl (fun ls hl => ?_)
      refine lv_lload_n hx hb dT_sideBetween_61 rfl (lv_at hl 3 rfl) ?_
      refine va_mabs_long hx hb (by rw [hml]; exact hl.1.symm) hown (ht _ q_362) (ht _ q_363) (ht _ q_41) (ht _ q_364) (Nat.le_of_ble_eq_true rfl) (Nat.le_of_ble_eq_true rfl) (by show 0 ≤ 0; omega) (by show 0 ≤ 0; omega) dT_sideBetween_62 ?_
      refine lv_lload hx hb dT_sideBetween_65 (lv_at hl 4 rfl) ?_
      refine lv_lmul hx hb dT_sideBetween_67 ?_
      refine lv_lload hx hb dT_sideBetween_68 (lv_at hl 1 rfl) ?_
      refine lv_lxor hx hb dT_sideBetween_70 ?_
      refine lv_lstore (lv' := [(12, .long (((if 0 < y then y else -y) * u) ^^^ (-9223372036854775808))), (10, .long (((if 0 < x then x else -x) * v) ^^^ (-9223372036854775808))), (8, .long (-9223372036854775808)), (0, .long x), (2, .long y), (4, .long u), (6, .long v)]) hx hb dT_sideBetween_71 hl (by decide) rfl (fun ls hl => ?_)
      refine lv_lload hx hb dT_sideBetween_73 (lv_at hl 1 rfl) ?_
      refine lv_lload hx hb dT_sideBetween_75 (lv_at hl 0 rfl) ?_
      refine W.lcmp hx hb dT_sideBetween_77 ?_
      refine lv_if_ne (tgt := 83) hx hb dT_sideBetween_78 (by decide) (fun c_6 => ?_) (fun c_6 => ?_)
      · skip
        rw [lg_cmp_eq] at c_6
        refine lv_lload_n hx hb dT_sideBetween_83 rfl (lv_at hl 3 rfl) ?_
        refine lv_lconst (v := 0) hx hb dT_sideBetween_84 (by decide) ?_
        refine W.lcmp hx hb dT_sideBetween_85 ?_
        refine lv_if_le (tgt := 93) hx hb dT_sideBetween_86 (by decide) (fun c_7 => ?_) (fun c_7 => ?_)
        · skip
          rw [lg_cmp_le] at c_7
          refine lv_iconst (v := 0) hx hb dT_sideBetween_93 (by decide) ?_
          refine lv_lload hx hb dT_sideBetween_94 (lv_at hl 1 rfl) ?_
          refine lv_lload hx hb dT_sideBetween_96 (lv_at hl 0 rfl) ?_
          refine W.lcmp hx hb dT_sideBetween_98 ?_
          refine lv_if_le (tgt := 106) hx hb dT_sideBetween_99 (by decide) (fun c_8 => ?_) (fun c_8 => ?_)
          · skip
            rw [lg_cmp_le] at c_8
            refine lv_iconst (v := 0) hx hb dT_sideBetween_106 (by decide) ?_
            refine lv_icmp_ne (tgt := 114) hx hb dT_sideBetween_107 (by decide) (fun c_9 => ?_) (fun c_9 => ?_)
            · skip
              exact absurd (by decide) c_9
            · skip
              refine lv_iconst (v := 1) hx hb dT_sideBetween_110 (by decide) ?_
              refine lv_goto (tgt := 115) hx hb dT_sideBetween_111 (by decide) ?_
              exact W.iret hx hb hr (fun t ht9 hW => ⟨_, rfl, by rw [sT_sideBetween, if_pos c_4, if_pos c_5, if_neg c_6, if_pos c_7, if_pos c_8], ht9⟩) (fun q h => by cases h) dT_sideBetween_115
          · skip
            rw [lg_cmp_le] at c_8
            refine lv_iconst (v := 1) hx hb dT_sideBetween_102 (by decide) ?_
            refine lv_goto (tgt := 107) hx hb dT_sideBetween_103 (by decide) ?_
            refine lv_icmp_ne (tgt := 114) hx hb dT_sideBetween_107 (by decide) (fun c_10 => ?_) (fun c_10 => ?_)
            · skip
              refine lv_iconst (v := 2) hx hb dT_sideBetween_114 (by decide) ?_
              exact W.iret hx hb hr (fun t ht9 hW => ⟨_, rfl, by rw [sT_sideBetween, if_pos c_4, if_pos c_5, if_neg c_6, if_pos c_7, if_neg c_8], ht9⟩) (fun q h => by cases h) dT_sideBetween_115
            · skip
              exact absurd c_10 (by decide)
        · skip
          rw [lg_cmp_le] at c_7
          refine lv_iconst (v := 1) hx hb dT_sideBetween_89 (by decide) ?_
          refine lv_goto (tgt := 94) hx hb dT_sideBetween_90 (by decide) ?_
          refine lv_lload hx hb dT_sideBetween_94 (lv_at hl 1 rfl) ?_
          refine lv_lload hx hb dT_sideBetween_96 (lv_at hl 0 rfl) ?_
          refine W.lcmp hx hb dT_sideBetween_98 ?_
          refine lv_if_le (tgt := 106) hx hb dT_sideBetween_99 (by decide) (fun c_11 => ?_) (fun c_11 => ?_)
          · skip
            rw [lg_cmp_le] at c_11
            refine lv_iconst (v := 0) hx hb dT_sideBetween_106 (by decide) ?_
            refine lv_icmp_ne (tgt := 114) hx hb dT_sideBetween_107 (by decide) (fun c_12 => ?_) (fun c_12 => ?_)
            · skip
              refine lv_iconst (v := 2) hx hb dT_sideBetween_114 (by decide) ?_
              exact W.iret hx hb hr (fun t ht9 hW => ⟨_, rfl, by rw [sT_sideBetween, if_pos c_4, if_pos c_5, if_neg c_6, if_neg c_7, if_pos c_11], ht9⟩) (fun q h => by cases h) dT_sideBetween_115
            · skip
              exact absurd c_12 (by decide)
          · skip
            rw [lg_cmp_le] at c_11
            refine lv_iconst (v := 1) hx hb dT_sideBetween_102 (by decide) ?_
            refine lv_goto (tgt := 107) hx hb dT_sideBetween_103 (by decide) ?_
            refine lv_icmp_ne (tgt := 114) hx hb dT_sideBetween_107 (by decide) (fun c_13 => ?_) (fun c_13 => ?_)
            · skip
              exact absurd (by decide) c_13
            · skip
              refine lv_iconst (v := 1) hx hb dT_sideBetween_110 (by decide) ?_
              refine lv_goto (tgt := 115) hx hb dT_sideBetween_111 (by decide) ?_
              exact W.iret hx hb hr (fun t ht9 hW => ⟨_, rfl, by rw [sT_sideBetween, if_pos c_4, if_pos c_5, if_neg c_6, if_neg c_7, if_neg c_11], ht9⟩) (fun q h => by cases h) dT_sideBetween_115
      · skip
        rw [lg_cmp_eq] at c_6
        refine lv_iconst (v := 0) hx hb dT_sideBetween_81 (by decide) ?_
        exact W.iret hx hb hr (fun t ht9 hW => ⟨_, rfl, by rw [sT_sideBetween, if_pos c_4, if_pos c_5, if_pos c_6], ht9⟩) (fun q h => by cases h) dT_sideBetween_82
    · skip
      rw [lg_cmp_gt] at c_5
      refine lv_lload_n hx hb dT_sideBetween_36 rfl (lv_at hl 1 rfl) ?_
      refine lv_lconst (v := 0) hx hb dT_sideBetween_37 (by decide) ?_
      refine W.lcmp hx hb dT_sideBetween_38 ?_
      refine lv_if_gt (tgt := 44) hx hb dT_sideBetween_39 (by decide) (fun c_14 => ?_) (fun c_14 => ?_)
      · skip
        rw [lg_cmp_gt] at c_14
        refine lv_ldc2 (v := (-9223372036854775808)) hx hb hown (ht _ q_368) dT_sideBetween_44 ?_
        refine lv_lstore (lv' := [(8, .long (-9223372036854775808)), (0, .long x), (2, .long y), (4, .long u), (6, .long v)]) hx hb dT_sideBetween_47 hl (by decide) rfl (fun ls hl => ?_)
        refine lv_lload_n hx hb dT_sideBetween_49 rfl (lv_at hl 1 rfl) ?_
        refine va_mabs_long hx hb (by rw [hml]; exact hl.1.symm) hown (ht _ q_362) (ht _ q_363) (ht _ q_41) (ht _ q_364) (Nat.le_of_ble_eq_true rfl) (Nat.le_of_ble_eq_true rfl) (by show 0 ≤ 0; omega) (by show 0 ≤ 0; omega) dT_sideBetween_50 ?_
        refine lv_lload hx hb dT_sideBetween_53 (lv_at hl 4 rfl) ?_
        refine lv_lmul hx hb dT_sideBetween_55 ?_
        refine lv_lload hx hb dT_sideBetween_56 (lv_at hl 0 rfl) ?_
        refine lv_lxor hx hb dT_sideBetween_58 ?_
        refine lv_lstore (lv' := [(10, .long (((if 0 < x then x else -x) * v) ^^^ (-9223372036854775808))), (8, .long (-9223372036854775808)), (0, .long x), (2, .long y), (4, .long u), (6, .long v)]) hx hb dT_sideBetween_59 hl (by decide) rfl (fun ls hl => ?_)
        refine lv_lload_n hx hb dT_sideBetween_61 rfl (lv_at hl 3 rfl) ?_
        refine va_mabs_long hx hb (by rw [hml]; exact hl.1.symm) hown (ht _ q_362) (ht _ q_363) (ht _ q_41) (ht _ q_364) (Nat.le_of_ble_eq_true rfl) (Nat.le_of_ble_eq_true rfl) (by show 0 ≤ 0; omega) (by show 0 ≤ 0; omega) dT_sideBetween_62 ?_
        refine lv_lload hx hb dT_sideBetween_65 (lv_at hl 4 rfl) ?_
        refine lv_lmul hx hb dT_sideBetween_67 ?_
        refine lv_lload hx hb dT_sideBetween_68 (lv_at hl 1 rfl) ?_
        refine lv_lxor hx hb dT_sideBetween_70 ?_
        refine lv_lstore (lv' := [(12, .long (((if 0 < y then y else -y) * u) ^^^ (-9223372036854775808))), (10, .long (((if 0 < x then x else -x) * v) ^^^ (-9223372036854775808))), (8, .long (-9223372036854775808)), (0, .long x), (2, .long y), (4, .long u), (6, .long v)]) hx hb dT_sideBetween_71 hl (by decide) rfl (fun ls hl => ?_)
        refine lv_lload hx hb dT_sideBetween_73 (lv_at hl 1 rfl) ?_
        refine lv_lload hx hb dT_sideBetween_75 (lv_at hl 0 rfl) ?_
        refine W.lcmp hx hb dT_sideBetween_77 ?_
        refine lv_if_ne (tgt := 83) hx hb dT_sideBetween_78 (by decide) (fun c_15 => ?_) (fun c_15 => ?_)
        · skip
          rw [lg_cmp_eq] at c_15
          refine lv_lload_n hx hb dT_sideBetween_83 rfl (lv_at hl 3 rfl) ?_
          refine lv_lconst (v := 0) hx hb dT_sideBetween_84 (by decide) ?_
          refine W.lcmp hx hb dT_sideBetween_85 ?_
          refine lv_if_le (tgt := 93) hx hb dT_sideBetween_86 (by decide) (fun c_16 => ?_) (fun c_16 => ?_)
          · skip
            rw [lg_cmp_le] at c_16
            refine lv_iconst (v := 0) hx hb dT_sideBetween_93 (by decide) ?_
            refine lv_lload hx hb dT_sideBetween_94 (lv_at hl 1 rfl) ?_
            refine lv_lload hx hb dT_sideBetween_96 (lv_at hl 0 rfl) ?_
            refine W.lcmp hx hb dT_sideBetween_98 ?_
            refine lv_if_le (tgt := 106) hx hb dT_sideBetween_99 (by decide) (fun c_17 => ?_) (fun c_17 => ?_)
            · skip
              rw [lg_cmp_le] at c_17
              refine lv_iconst (v := 0) hx hb dT_sideBetween_106 (by decide) ?_
              refine lv_icmp_ne (tgt := 114) hx hb dT_sideBetween_107 (by decide) (fun c_18 => ?_) (fun c_18 => ?_)
              · skip
                exact absurd (by decide) c_18
              · skip
                refine lv_iconst (v := 1) hx hb dT_sideBetween_110 (by decide) ?_
                refine lv_goto (tgt := 115) hx hb dT_sideBetween_111 (by decide) ?_
                exact W.iret hx hb hr (fun t ht9 hW => ⟨_, rfl, by rw [sT_sideBetween, if_pos c_4, if_neg c_5, if_pos c_14, if_neg c_15, if_pos c_16, if_pos c_17], ht9⟩) (fun q h => by cases h) dT_sideBetween_115
            · skip
              rw [lg_cmp_le] at c_17
              refine lv_iconst (v := 1) hx hb dT_sideBetween_102 (by decide) ?_
              refine lv_goto (tgt := 107) hx hb dT_sideBetween_103 (by decide) ?_
              refine lv_icmp_ne (tgt := 114) hx hb dT_sideBetween_107 (by decide) (fun c_19 => ?_) (fun c_19 => ?_)
              · skip
                refine lv_iconst (v := 2) hx hb dT_sideBetween_114 (by decide) ?_
                exact W.iret hx hb hr (fun t ht9 hW => ⟨_, rfl, by rw [sT_sideBetween, if_pos c_4, if_neg c_5, if_pos c_14, if_neg c_15, if_pos c_16, if_neg c_17], ht9⟩) (fun q h => by cases h) dT_sideBetween_115
              · skip
                exact absurd c_19 (by decide)
          · skip
            rw [lg_cmp_le] at c_16
            refine lv_iconst (v := 1) hx hb dT_sideBetween_89 (by decide) ?_
            refine lv_goto (tgt := 94) hx hb dT_sideBetween_90 (by decide) ?_
            refine lv_lload hx hb dT_sideBetween_94 (lv_at hl 1 rfl) ?_
            refine lv_lload hx hb dT_sideBetween_96 (lv_at hl 0 rfl) ?_
            refine W.lcmp hx hb dT_sideBetween_98 ?_
            refine lv_if_le (tgt := 106) hx hb dT_sideBetween_99 (by decide) (fun c_20 => ?_) (fun c_20 => ?_)
            · skip
              rw [lg_cmp_le] at c_20
              refine lv_iconst (v := 0) hx hb dT_sideBetween_106 (by decide) ?_
              refine lv_icmp_ne (tgt := 114) hx hb dT_sideBetween_107 (by decide) (fun c_21 => ?_) (fun c_21 => ?_)
              · skip
                refine lv_iconst (v := 2) hx hb dT_sideBetween_114 (by decide) ?_
                exact W.iret hx hb hr (fun t ht9 hW => ⟨_, rfl, by rw [sT_sideBetween, if_pos c_4, if_neg c_5, if_pos c_14, if_neg c_15, if_neg c_16, if_pos c_20], ht9⟩) (fun q h => by cases h) dT_sideBetween_115
              · skip
                exact absurd c_21 (by decide)
            · skip
              rw [lg_cmp_le] at c_20
              refine lv_iconst (v := 1) hx hb dT_sideBetween_102 (by decide) ?_
              refine lv_goto (tgt := 107) hx hb dT_sideBetween_103 (by decide) ?_
              refine lv_icmp_ne (tgt := 114) hx hb dT_sideBetween_107 (by decide) (fun c_22 => ?_) (fun c_22 => ?_)
              · skip
                exact absurd (by decide) c_22
              · skip
                refine lv_iconst (v := 1) hx hb dT_sideBetween_110 (by decide) ?_
                refine lv_goto (tgt := 115) hx hb dT_sideBetween_111 (by decide) ?_
                exact W.iret hx hb hr (fun t ht9 hW => ⟨_, rfl, by rw [sT_sideBetween, if_pos c_4, if_neg c_5, if_pos c_14, if_neg c_15, if_neg c_16, if_neg c_20], ht9⟩) (fun q h => by cases h) dT_sideBetween_115
        · skip
          rw [lg_cmp_eq] at c_15
          refine lv_iconst (v := 0) hx hb dT_sideBetween_81 (by decide) ?_
          exact W.iret hx hb hr (fun t ht9 hW => ⟨_, rfl, by rw [sT_sideBetween, if_pos c_4, if_neg c_5, if_pos c_14, if_pos c_15], ht9⟩) (fun q h => by cases h) dT_sideBetween_82
      · skip
        rw [lg_cmp_gt] at c_14
        refine lv_iconst (v := 2) hx hb dT_sideBetween_42 (by decide) ?_
        exact W.iret hx hb hr (fun t ht9 hW => ⟨_, rfl, by rw [sT_sideBetween, if_pos c_4, if_neg c_5, if_neg c_14], ht9⟩) (fun q h => by cases h) dT_sideBetween_43
  · skip
    rw [lg_cmp_lt] at c_4
    refine lv_lload_n hx hb dT_sideBetween_6 rfl (lv_at hl 1 rfl) ?_
    refine lv_lconst (v := 0) hx hb dT_sideBetween_7 (by decide) ?_
    refine W.lcmp hx hb dT_sideBetween_8 ?_
    refine lv_if_lt (tgt := 30) hx hb dT_sideBetween_9 (by decide) (fun c_23 => ?_) (fun c_23 => ?_)
    · skip
      rw [lg_cmp_lt] at c_23
      refine lv_lload_n hx hb dT_sideBetween_30 rfl (lv_at hl 0 rfl) ?_
      refine lv_lconst (v := 0) hx hb dT_sideBetween_31 (by decide) ?_
      refine W.lcmp hx hb dT_sideBetween_32 ?_
      refine lv_if_gt (tgt := 44) hx hb dT_sideBetween_33 (by decide) (fun c_24 => ?_) (fun c_24 => ?_)
      · skip
        rw [lg_cmp_gt] at c_24
        refine lv_ldc2 (v := (-9223372036854775808)) hx hb hown (ht _ q_368) dT_sideBetween_44 ?_
        refine lv_lstore (lv' := [(8, .long (-9223372036854775808)), (0, .long x), (2, .long y), (4, .long u), (6, .long v)]) hx hb dT_sideBetween_47 hl (by decide) rfl (fun ls hl => ?_)
        refine lv_lload_n hx hb dT_sideBetween_49 rfl (lv_at hl 1 rfl) ?_
        refine va_mabs_long hx hb (by rw [hml]; exact hl.1.symm) hown (ht _ q_362) (ht _ q_363) (ht _ q_41) (ht _ q_364) (Nat.le_of_ble_eq_true rfl) (Nat.le_of_ble_eq_true rfl) (by show 0 ≤ 0; omega) (by show 0 ≤ 0; omega) dT_sideBetween_50 ?_
        refine lv_lload hx hb dT_sideBetween_53 (lv_at hl 4 rfl) ?_
        refine lv_lmul hx hb dT_sideBetween_55 ?_
        refine lv_lload hx hb dT_sideBetween_56 (lv_at hl 0 rfl) ?_
        refine lv_lxor hx hb dT_sideBetween_58 ?_
        refine lv_lstore (lv' := [(10, .long (((if 0 < x then x else -x) * v) ^^^ (-9223372036854775808))), (8, .long (-9223372036854775808)), (0, .long x), (2, .long y), (4, .long u), (6, .long v)]) hx hb dT_sideBetween_59 hl (by decide) rfl (fun ls hl => ?_)
        refine lv_lload_n hx hb dT_sideBetween_61 rfl (lv_at hl 3 rfl) ?_
        refine va_mabs_long hx hb (by rw [hml]; exact hl.1.symm) hown (ht _ q_362) (ht _ q_363) (ht _ q_41) (ht _ q_364) (Nat.le_of_ble_eq_true rfl) (Nat.le_of_ble_eq_true rfl) (by show 0 ≤ 0; omega) (by show 0 ≤ 0; omega) dT_sideBetween_62 ?_
        refine lv_lload hx hb dT_sideBetween_65 (lv_at hl 4 rfl) ?_
        refine lv_lmul hx hb dT_sideBetween_67 ?_
        refine lv_lload hx hb dT_sideBetween_68 (lv_at hl 1 rfl) ?_
        refine lv_lxor hx hb dT_sideBetween_70 ?_
        refine lv_lstore (lv' := [(12, .long (((if 0 < y then y else -y) * u) ^^^ (-9223372036854775808))), (10, .long (((if 0 < x then x else -x) * v) ^^^ (-9223372036854775808))), (8, .long (-9223372036854775808)), (0, .long x), (2, .long y), (4, .long u), (6, .long v)]) hx hb dT_sideBetween_71 hl (by decide) rfl (fun ls hl => ?_)
        refine lv_lload hx hb dT_sideBetween_73 (lv_at hl 1 rfl) ?_
        refine lv_lload hx hb dT_sideBetween_75 (lv_at hl 0 rfl) ?_
        refine W.lcmp hx hb dT_sideBetween_77 ?_
        refine lv_if_ne (tgt := 83) hx hb dT_sideBetween_78 (by decide) (fun c_25 => ?_) (fun c_25 => ?_)
        · skip
          rw [lg_cmp_eq] at c_25
          refine lv_lload_n hx hb dT_sideBetween_83 rfl (lv_at hl 3 rfl) ?_
          refine lv_lconst (v := 0) hx hb dT_sideBetween_84 (by decide) ?_
          refine W.lcmp hx hb dT_sideBetween_85 ?_
          refine lv_if_le (tgt := 93) hx hb dT_sideBetween_86 (by decide) (fun c_26 => ?_) (fun c_26 => ?_)
          · skip
            rw [lg_cmp_le] at c_26
            refine lv_iconst (v := 0) hx hb dT_sideBetween_93 (by decide) ?_
            refine lv_lload hx hb dT_sideBetween_94 (lv_at hl 1 rfl) ?_
            refine lv_lload hx hb dT_sideBetween_96 (lv_at hl 0 rfl) ?_
            refine W.lcmp hx hb dT_sideBetween_98 ?_
            refine lv_if_le (tgt := 106) hx hb dT_sideBetween_99 (by decide) (fun c_27 => ?_) (fun c_27 => ?_)
            · skip
              rw [lg_cmp_le] at c_27
              refine lv_iconst (v := 0) hx hb dT_sideBetween_106 (by decide) ?_
              refine lv_icmp_ne (tgt := 114) hx hb dT_sideBetween_107 (by decide) (fun c_28 => ?_) (fun c_28 => ?_)
              · skip
                exact absurd (by decide) c_28
              · skip
                refine lv_iconst (v := 1) hx hb dT_sideBetween_110 (by decide) ?_
                refine lv_goto (tgt := 115) hx hb dT_sideBetween_111 (by decide) ?_
                exact W.iret hx hb hr (fun t ht9 hW => ⟨_, rfl, by rw [sT_sideBetween, if_neg c_4, if_pos c_23, if_pos c_24, if_neg c_25, if_pos c_26, if_pos c_27], ht9⟩) (fun q h => by cases h) dT_sideBetween_115
            · skip
              rw [lg_cmp_le] at c_27
              refine lv_iconst (v := 1) hx hb dT_sideBetween_102 (by decide) ?_
              refine lv_goto (tgt := 107) hx hb dT_sideBetween_103 (by decide) ?_
              refine lv_icmp_ne (tgt := 114) hx hb dT_sideBetween_107 (by decide) (fun c_29 => ?_) (fun c_29 => ?_)
              · skip
                refine lv_iconst (v := 2) hx hb dT_sideBetween_114 (by decide) ?_
                exact W.iret hx hb hr (fun t ht9 hW => ⟨_, rfl, by rw [sT_sideBetween, if_neg c_4, if_pos c_23, if_pos c_24, if_neg c_25, if_pos c_26, if_neg c_27], ht9⟩) (fun q h => by cases h) dT_sideBetween_115
              · skip
                exact absurd c_29 (by decide)
          · skip
            rw [lg_cmp_le] at c_26
            refine lv_iconst (v := 1) hx hb dT_sideBetween_89 (by decide) ?_
            refine lv_goto (tgt := 94) hx hb dT_sideBetween_90 (by decide) ?_
            refine lv_lload hx hb dT_sideBetween_94 (lv_at hl 1 rfl) ?_
            refine lv_lload hx hb dT_sideBetween_96 (lv_at hl 0 rfl) ?_
            refine W.lcmp hx hb dT_sideBetween_98 ?_
            refine lv_if_le (tgt := 106) hx hb dT_sideBetween_99 (by decide) (fun c_30 => ?_) (fun c_30 => ?_)
            · skip
              rw [lg_cmp_le] at c_30
              refine lv_iconst (v := 0) hx hb dT_sideBetween_106 (by decide) ?_
              refine lv_icmp_ne (tgt := 114) hx hb dT_sideBetween_107 (by decide) (fun c_31 => ?_) (fun c_31 => ?_)
              · skip
                refine lv_iconst (v := 2) hx hb dT_sideBetween_114 (by decide) ?_
                exact W.iret hx hb hr (fun t ht9 hW => ⟨_, rfl, by rw [sT_sideBetween, if_neg c_4, if_pos c_23, if_pos c_24, if_neg c_25, if_neg c_26, if_pos c_30], ht9⟩) (fun q h => by cases h) dT_sideBetween_115
              · skip
                exact absurd c_31 (by decide)
            · skip
              rw [lg_cmp_le] at c_30
              refine lv_iconst (v := 1) hx hb dT_sideBetween_102 (by decide) ?_
              refine lv_goto (tgt := 107) hx hb dT_sideBetween_103 (by decide) ?_
              refine lv_icmp_ne (tgt := 114) hx hb dT_sideBetween_107 (by decide) (fun c_32 => ?_) (fun c_32 => ?_)
              · skip
                exact absurd (by decide) c_32
              · skip
                refine lv_iconst (v := 1) hx hb dT_sideBetween_110 (by decide) ?_
                refine lv_goto (tgt := 115) hx hb dT_sideBetween_111 (by decide) ?_
                exact W.iret hx hb hr (fun t ht9 hW => ⟨_, rfl, by rw [sT_sideBetween, if_neg c_4, if_pos c_23, if_pos c_24, if_neg c_25, if_neg c_26, if_neg c_30], ht9⟩) (fun q h => by cases h) dT_sideBetween_115
        · skip
          rw [lg_cmp_eq] at c_25
          refine lv_iconst (v := 0) hx hb dT_sideBetween_81 (by decide) ?_
          exact W.iret hx hb hr (fun t ht9 hW => ⟨_, rfl, by rw [sT_sideBetween, if_neg c_4, if_pos c_23, if_pos c_24, if_pos c_25], ht9⟩) (fun q h => by cases h) dT_sideBetween_82
      · skip
        rw [lg_cmp_gt] at c_24
        refine lv_lload_n hx hb dT_sideBetween_36 rfl (lv_at hl 1 rfl) ?_
        refine lv_lconst (v := 0) hx hb dT_sideBetween_37 (by decide) ?_
        refine W.lcmp hx hb dT_sideBetween_38 ?_
        refine lv_if_gt (tgt := 44) hx hb dT_sideBetween_39 (by decide) (fun c_33 => ?_) (fun c_33 => ?_)
        · skip
          rw [lg_cmp_gt] at c_33
          refine lv_ldc2 (v := (-9223372036854775808)) hx hb hown (ht _ q_368) dT_sideBetween_44 ?_
          refine lv_lstore (lv' := [(8, .long (-9223372036854775808)), (0, .long x), (2, .long y), (4, .long u), (6, .long v)]) hx hb dT_sideBetween_47 hl (by decide) rfl (fun ls hl => ?_)
          refine lv_lload_n hx hb dT_sideBetween_49 rfl (lv_at hl 1 rfl) ?_
          refine va_mabs_long hx hb (by rw [hml]; exact hl.1.symm) hown (ht _ q_362) (ht _ q_363) (ht _ q_41) (ht _ q_364) (Nat.le_of_ble_eq_true rfl) (Nat.le_of_ble_eq_true rfl) (by show 0 ≤ 0; omega) (by show 0 ≤ 0; omega) dT_sideBetween_50 ?_
          refine lv_lload hx hb dT_sideBetween_53 (lv_at hl 4 rfl) ?_
          refine lv_lmul hx hb dT_sideBetween_55 ?_
          refine lv_lload hx hb dT_sideBetween_56 (lv_at hl 0 rfl) ?_
          refine lv_lxor hx hb dT_sideBetween_58 ?_
          refine lv_lstore (lv' := [(10, .long (((if 0 < x then x else -x) * v) ^^^ (-9223372036854775808))), (8, .long (-9223372036854775808)), (0, .long x), (2, .long y), (4, .long u), (6, .long v)]) hx hb dT_sideBetween_59 hl (by decide) rfl (fun ls hl => ?_)
          refine lv_lload_n hx hb dT_sideBetween_61 rfl (lv_at hl 3 rfl) ?_
          refine va_mabs_long hx hb (by rw [hml]; exact hl.1.symm) hown (ht _ q_362) (ht _ q_363) (ht _ q_41) (ht _ q_364) (Nat.le_of_ble_eq_true rfl) (Nat.le_of_ble_eq_true rfl) (by show 0 ≤ 0; omega) (by show 0 ≤ 0; omega) dT_sideBetween_62 ?_
          refine lv_lload hx hb dT_sideBetween_65 (lv_at hl 4 rfl) ?_
          refine lv_lmul hx hb dT_sideBetween_67 ?_
          refine lv_lload hx hb dT_sideBetween_68 (lv_at hl 1 rfl) ?_
          refine lv_lxor hx hb dT_sideBetween_70 ?_
          refine lv_lstore (lv' := [(12, .long (((if 0 < y then y else -y) * u) ^^^ (-9223372036854775808))), (10, .long (((if 0 < x then x else -x) * v) ^^^ (-9223372036854775808))), (8, .long (-9223372036854775808)), (0, .long x), (2, .long y), (4, .long u), (6, .long v)]) hx hb dT_sideBetween_71 hl (by decide) rfl (fun ls hl => ?_)
          refine lv_lload hx hb dT_sideBetween_73 (lv_at hl 1 rfl) ?_
          refine lv_lload hx hb dT_sideBetween_75 (lv_at hl 0 rfl) ?_
          refine W.lcmp hx hb dT_sideBetween_77 ?_
          refine lv_if_ne (tgt := 83) hx hb dT_sideBetween_78 (by decide) (fun c_34 => ?_) (fun c_34 => ?_)
          · skip
            rw [lg_cmp_eq] at c_34
            refine lv_lload_n hx hb dT_sideBetween_83 rfl (lv_at hl 3 rfl) ?_
            refine lv_lconst (v := 0) hx hb dT_sideBetween_84 (by decide) ?_
            refine W.lcmp hx hb dT_sideBetween_85 ?_
            refine lv_if_le (tgt := 93) hx hb dT_sideBetween_86 (by decide) (fun c_35 => ?_) (fun c_35 => ?_)
            · skip
              rw [lg_cmp_le] at c_35
              refine lv_iconst (v := 0) hx hb dT_sideBetween_93 (by decide) ?_
              refine lv_lload hx hb dT_sideBetween_94 (lv_at hl 1 rfl) ?_
              refine lv_lload hx hb dT_sideBetween_96 (lv_at hl 0 rfl) ?_
              refine W.lcmp hx hb dT_sideBetween_98 ?_
              refine lv_if_le (tgt := 106) hx hb dT_sideBetween_99 (by decide) (fun c_36 => ?_) (fun c_36 => ?_)
              · skip
                rw [lg_cmp_le] at c_36
                refine lv_iconst (v := 0) hx hb dT_sideBetween_106 (by decide) ?_
                refine lv_icmp_ne (tgt := 114) hx hb dT_sideBetween_107 (by decide) (fun c_37 => ?_) (fun c_37 => ?_)
                · skip
                  exact absurd (by decide) c_37
                · skip
                  refine lv_iconst (v := 1) hx hb dT_sideBetween_110 (by decide) ?_
                  refine lv_goto (tgt := 115) hx hb dT_sideBetween_111 (by decide) ?_
                  exact W.iret hx hb hr (fun t ht9 hW => ⟨_, rfl, by rw [sT_sideBetween, if_neg c_4, if_pos c_23, if_neg c_24, if_pos c_33, if_neg c_34, if_pos c_35, if_pos c_36], ht9⟩) (fun q h => by cases h) dT_sideBetween_115
              · skip
                rw [lg_cmp_le] at c_36
                refine lv_iconst (v := 1) hx hb dT_sideBetween_102 (by decide) ?_
                refine lv_goto (tgt := 107) hx hb dT_sideBetween_103 (by decide) ?_
                refine lv_icmp_ne (tgt := 114) hx hb dT_sideBetween_107 (by decide) (fun c_38 => ?_) (fun c_38 => ?_)
                · skip
                  refine lv_iconst (v := 2) hx hb dT_sideBetween_114 (by decide) ?_
                  exact W.iret hx hb hr (fun t ht9 hW => ⟨_, rfl, by rw [sT_sideBetween, if_neg c_4, if_pos c_23, if_neg c_24, if_pos c_33, if_neg c_34, if_pos c_35, if_neg c_36], ht9⟩) (fun q h => by cases h) dT_sideBetween_115
                · skip
                  exact absurd c_38 (by decide)
            · skip
              rw [lg_cmp_le] at c_35
              refine lv_iconst (v := 1) hx hb dT_sideBetween_89 (by decide) ?_
              refine lv_goto (tgt := 94) hx hb dT_sideBetween_90 (by decide) ?_
              refine lv_lload hx hb dT_sideBetween_94 (lv_at hl 1 rfl) ?_
              refine lv_lload hx hb dT_sideBetween_96 (lv_at hl 0 rfl) ?_
              refine W.lcmp hx hb dT_sideBetween_98 ?_
              refine lv_if_le (tgt := 106) hx hb dT_sideBetween_99 (by decide) (fun c_39 => ?_) (fun c_39 => ?_)
              · skip
                rw [lg_cmp_le] at c_39
                refine lv_iconst (v := 0) hx hb dT_sideBetween_106 (by decide) ?_
                refine lv_icmp_ne (tgt := 114) hx hb dT_sideBetween_107 (by decide) (fun c_40 => ?_) (fun c_40 => ?_)
                · skip
                  refine lv_iconst (v := 2) hx hb dT_sideBetween_114 (by decide) ?_
                  exact W.iret hx hb hr (fun t ht9 hW => ⟨_, rfl, by rw [sT_sideBetween, if_neg c_4, if_pos c_23, if_neg c_24, if_pos c_33, if_neg c_34, if_neg c_35, if_pos c_39], ht9⟩) (fun q h => by cases h) dT_sideBetween_115
                · skip
                  exact absurd c_40 (by decide)
              · skip
                rw [lg_cmp_le] at c_39
                refine lv_iconst (v := 1) hx hb dT_sideBetween_102 (by decide) ?_
                refine lv_goto (tgt := 107) hx hb dT_sideBetween_103 (by decide) ?_
                refine lv_icmp_ne (tgt := 114) hx hb dT_sideBetween_107 (by decide) (fun c_41 => ?_) (fun c_41 => ?_)
                · skip
                  exact absurd (by decide) c_41
                · skip
                  refine lv_iconst (v := 1) hx hb dT_sideBetween_110 (by decide) ?_
                  refine lv_goto (tgt := 115) hx hb dT_sideBetween_111 (by decide) ?_
                  exact W.iret hx hb hr (fun t ht9 hW => ⟨_, rfl, by rw [sT_sideBetween, if_neg c_4, if_pos c_23, if_neg c_24, if_pos c_33, if_neg c_34, if_neg c_35, if_neg c_39], ht9⟩) (fun q h => by cases h) dT_sideBetween_115
          · skip
            rw [lg_cmp_eq] at c_34
            refine lv_iconst (v := 0) hx hb dT_sideBetween_81 (by decide) ?_
            exact W.iret hx hb hr (fun t ht9 hW => ⟨_, rfl, by rw [sT_sideBetween, if_neg c_4, if_pos c_23, if_neg c_24, if_pos c_33, if_pos c_34], ht9⟩) (fun q h => by cases h) dT_sideBetween_82
        · skip
          rw [lg_cmp_gt] at c_33
          refine lv_iconst (v := 2) hx hb dT_sideBetween_42 (by decide) ?_
          exact W.iret hx hb hr (fun t ht9 hW => ⟨_, rfl, by rw [sT_sideBetween, if_neg c_4, if_pos c_23, if_neg c_24, if_neg c_33], ht9⟩) (fun q h => by cases h) dT_sideBetween_43
    · skip
      rw [lg_cmp_lt] at c_23
      refine lv_lload_n hx hb dT_sideBetween_12 rfl (lv_at hl 0 rfl) ?_
      refine lv_lconst (v := 0) hx hb dT_sideBetween_13 (by decide) ?_
      refine W.lcmp hx hb dT_sideBetween_14 ?_
      refine lv_if_gt (tgt := 24) hx hb dT_sideBetween_15 (by decide) (fun c_42 => ?_) (fun c_42 => ?_)
      · skip
        rw [lg_cmp_gt] at c_42
        refine lv_iconst (v := 1) hx hb dT_sideBetween_24 (by decide) ?_
        refine lv_goto (tgt := 29) hx hb dT_sideBetween_25 (by decide) ?_
        exact W.iret hx hb hr (fun t ht9 hW => ⟨_, rfl, by rw [sT_sideBetween, if_neg c_4, if_neg c_23, if_pos c_42], ht9⟩) (fun q h => by cases h) dT_sideBetween_29
      · skip
        rw [lg_cmp_gt] at c_42
        refine lv_lload_n hx hb dT_sideBetween_18 rfl (lv_at hl 1 rfl) ?_
        refine lv_lconst (v := 0) hx hb dT_sideBetween_19 (by decide) ?_
        refine W.lcmp hx hb dT_sideBetween_20 ?_
        refine lv_if_le (tgt := 28) hx hb dT_sideBetween_21 (by decide) (fun c_43 => ?_) (fun c_43 => ?_)
        · skip
          rw [lg_cmp_le] at c_43
          refine lv_iconst (v := 0) hx hb dT_sideBetween_28 (by decide) ?_
          exact W.iret hx hb hr (fun t ht9 hW => ⟨_, rfl, by rw [sT_sideBetween, if_neg c_4, if_neg c_23, if_neg c_42, if_pos c_43], ht9⟩) (fun q h => by cases h) dT_sideBetween_29
        · skip
          rw [lg_cmp_le] at c_43
          refine lv_iconst (v := 1) hx hb dT_sideBetween_24 (by decide) ?_
          refine lv_goto (tgt := 29) hx hb dT_sideBetween_25 (by decide) ?_
          exact W.iret hx hb hr (fun t ht9 hW => ⟨_, rfl, by rw [sT_sideBetween, if_neg c_4, if_neg c_23, if_neg c_42, if_neg c_43], ht9⟩) (fun q h => by cases h) dT_sideBetween_29
def sT_liesLeft (Rw : Nat → List Int32) (Wl : Nat → Option WV) (k : Int32) (x : Int32) (y : Int32) : Int32 :=
  (match wAt Wl (rAt (Rw 0) k) with
  | none => 0
  | some vx_44 => if (sW_side vx_44 x y) ≤ 0 then
      0
    else
      1)
set_option maxHeartbeats 4000000 in
set_option maxRecDepth 100000 in
theorem cT_liesLeft (l : Launch) (g : CX) (ad q cp : Nat → Nat) (f : Nat → Nat → Int32) (Rw : Nat → List Int32) (sl : Nat → Option Nat) (cnt h st : Int32) (LW : List Nat) (wv : Nat → WV) (hz : rowsT cp f Rw) (hsl : slOK sl LW) (k : Int32) (x : Int32) (y : Int32) : Met l yT_liesLeft (wm yT_liesLeft kT_liesLeft 5 (some .boolean)) ({ frames := 1, cells := 0, slots := 0, locals := 22 }) (ro g [.ref (ad 0), .int k, .int x, .int y] (va_P g.1 vwCl (TW g ad q cp f Rw sl cnt h st LW wv))) (vp_Si (fun r => r = sT_liesLeft Rw (wOf sl wv) k x y)) 0 0 (fun _ => False) := by
  refine Met.ofW (cc := kT_liesLeft) (maxL := 5) (ret := (some .boolean)) (by decide) rfl ?_
  intro p e s m args below meth c s₁ B hml hv
  obtain ⟨rfl, hK, hP⟩ := hv
  have hx := B.exec
  have hb := B.bytes
  have hr := B.returns
  have ht : ∀ w ∈ wT, w.before _ s = true := fun w h => atoms_spec (ws := wm yT_liesLeft kT_liesLeft 5 (some .boolean)) B.pre w (List.mem_cons_of_mem _ h)
  have hown : s.vm.findClass "NodeMaker$Tree" = some m.cls := findClass_of_methodNamed B.named
  have hlocks := B.notSynchronized
  have hl := lv_entry ([.ref (ad 0), .int k, .int x, .int y]) (n := 5) (Nat.le_of_ble_eq_true rfl)
  rw [lg_entry_eq]
  generalize (lg_sl ([.ref (ad 0), .int k, .int x, .int y]) ++ List.replicate (5 - (lg_sl ([.ref (ad 0), .int k, .int x, .int y])).length) Slot.unset).toArray = ls at hl ⊢
  have hl : lv_has ls 5 [(0, .ref (ad 0)), (1, .int k), (2, .int x), (3, .int y)] := hl
  refine lv_aload_n hx hb dT_liesLeft_0 rfl (lv_at hl 0 rfl) ?_
  refine va_get (D := g.1) (ci := 4) (v := .ref (ad 1)) (C := "NodeMaker$Tree") (T := Fd_T) (N := 16) hx hb ht i_T hown hK.1 hP 0 rfl rfl 0 (by decide) (ht _ q_105) (fun _ h9 => h9) rfl dT_liesLeft_1 ?_
  refine lv_aload_n hx hb dT_liesLeft_4 rfl (lv_at hl 0 rfl) ?_
  refine va_get (D := g.1) (ci := 4) (v := .ref (ad 6)) (C := "NodeMaker$Tree") (T := Fd_T) (N := 16) hx hb ht i_T hown hK.1 hP 0 rfl rfl 1 (by decide) (ht _ q_106) (fun _ h9 => h9) rfl dT_liesLeft_5 ?_
  refine lv_iload_n hx hb dT_liesLeft_8 rfl (lv_at hl 1 rfl) ?_
  have hPc := hP.sub (ws' := rowW g (ad 6) (q 0) (cp 0) (f 0) (Rw 0).length) [6, 7] rfl
  refine ro_Vi (v := rAt (Rw 0) k) (As := [.int k]) (rest := [.ref (ad 1)]) ⟨hx, hb, hml, hown, ht⟩ (cR_at l g (ad 6) (q 0) (cp 0) (f 0) (Rw 0) (hz 0 (by decide)) k) (cwV 1 ht (g_V q_325 q_326 q_327 q_37 q_328) rfl rfl rfl hd_R_at ⟨Nat.le_of_ble_eq_true rfl, Nat.le_of_ble_eq_true rfl⟩) hK (hPc) (va_recv hK.1 hPc (ci := 0) (q0 := 0) rfl rfl) rfl hl.1 rfl (Nat.le_of_ble_eq_true rfl) dT_liesLeft_9 ⟨by show 0 ≤ 0; omega, by show 0 ≤ 0; omega⟩ ?_
  have hPc := pl_P (cx := wsX g (ad 1) (ad 2) sl cnt) hP [1, 2] rfl
  refine ro_Vq (As := [.int (rAt (Rw 0) k)]) (rest := []) ⟨hx, hb, hml, hown, ht⟩ (cS_at l g (ad 1) (ad 2) sl cnt LW wv hsl (rAt (Rw 0) k)) (cwV 1 ht (g_V q_284 q_248 q_249 q_36 q_250) rfl rfl rfl hd_S_at ⟨Nat.le_of_ble_eq_true rfl, Nat.le_of_ble_eq_true rfl⟩) hK hPc (va_recv hK.1 hPc (ci := 3) (q0 := 0) rfl rfl) rfl hl.1 rfl (Nat.le_of_ble_eq_true rfl) dT_liesLeft_12 ⟨by show 0 ≤ 0; omega, by show 0 ≤ 0; omega⟩ (fun hq => ?_) (fun x_44 hq => ?_)
  · skip
    have hwx_44 : wAt (wOf sl wv) (rAt (Rw 0) k) = none := hq.1.symm
    refine lv_astoreN (lv' := [(4, .null), (0, .ref (ad 0)), (1, .int k), (2, .int x), (3, .int y)]) hx hb dT_liesLeft_15 hl (by decide) rfl (fun ls hl => ?_)
    refine lv_aloadN hx hb dT_liesLeft_17 (lv_at hl 0 rfl) ?_
    refine lv_ifnullN (tgt := 38) hx hb dT_liesLeft_19 (by decide) ?_
    refine lv_iconst (v := 0) hx hb dT_liesLeft_38 (by decide) ?_
    exact W.zret hx hb hr rfl (fun t ht9 hW => ⟨_, rfl, by simp only [sT_liesLeft, hwx_44], ht9⟩) (fun q h => by cases h) dT_liesLeft_39
  · skip
    have hwx_44 : wAt (wOf sl wv) (rAt (Rw 0) k) = some (wv x_44) := hq.1.symm
    have hxx_44 : x_44 ∈ LW := hq.2 _ rfl
    refine lv_astore (lv' := [(4, .ref x_44), (0, .ref (ad 0)), (1, .int k), (2, .int x), (3, .int y)]) hx hb dT_liesLeft_15 hl (by decide) rfl (fun ls hl => ?_)
    refine lv_aload hx hb dT_liesLeft_17 (lv_at hl 0 rfl) ?_
    refine lv_ifnull hx hb dT_liesLeft_19 ?_
    refine lv_aload hx hb dT_liesLeft_22 (lv_at hl 0 rfl) ?_
    refine lv_iload_n hx hb dT_liesLeft_24 rfl (lv_at hl 3 rfl) ?_
    refine lv_iload_n hx hb dT_liesLeft_25 rfl (lv_at hl 4 rfl) ?_
    have hPx := pl_one hP hxx_44
    refine ro_Vl (v := sW_side (wv x_44) x y) (As := [.int x, .int y]) (rest := []) ⟨hx, hb, hml, hown, ht⟩ (cW_side l g x_44 (wv x_44) x y) (cwV 2 ht (g_V q_358 q_222 q_223 q_40 q_224) rfl rfl rfl hd_W_side ⟨Nat.le_of_ble_eq_true rfl, Nat.le_of_ble_eq_true rfl⟩) hK (hPx) (va_recv hK.1 hPx (ci := 2) (q0 := 0) rfl rfl) rfl hl.1 rfl (Nat.le_of_ble_eq_true rfl) dT_liesLeft_26 ⟨by show 0 ≤ 0; omega, by show 0 ≤ 0; omega⟩ ?_
    refine lv_lconst (v := 0) hx hb dT_liesLeft_29 (by decide) ?_
    refine W.lcmp hx hb dT_liesLeft_30 ?_
    refine lv_if_le (tgt := 38) hx hb dT_liesLeft_31 (by decide) (fun c_45 => ?_) (fun c_45 => ?_)
    · skip
      rw [lg_cmp_le] at c_45
      refine lv_iconst (v := 0) hx hb dT_liesLeft_38 (by decide) ?_
      exact W.zret hx hb hr rfl (fun t ht9 hW => ⟨_, rfl, by simp only [sT_liesLeft, hwx_44, if_pos c_45], ht9⟩) (fun q h => by cases h) dT_liesLeft_39
    · skip
      rw [lg_cmp_le] at c_45
      refine lv_iconst (v := 1) hx hb dT_liesLeft_34 (by decide) ?_
      refine lv_goto (tgt := 39) hx hb dT_liesLeft_35 (by decide) ?_
      exact W.zret hx hb hr rfl (fun t ht9 hW => ⟨_, rfl, by simp only [sT_liesLeft, hwx_44, if_neg c_45], ht9⟩) (fun q h => by cases h) dT_liesLeft_39
def sT_sideOfEnd (Rw : Nat → List Int32) (Wl : Nat → Option WV) (i : Int32) (j : Int32) (k : Int32) (b : Int32) : Int32 :=
  (match wAt Wl i with
  | none => (match wAt Wl j with
    | none => 0
    | some vx_47 => 0)
  | some vx_46 => (match wAt Wl j with
    | none => 0
    | some vx_48 => (match wAt Wl k with
      | none => if b = 0 then
          (sT_sideOf (sW_side vx_46 (vx_48.1) (vx_48.2.1)))
        else
          (sT_sideOf (sW_side vx_46 (vx_48.2.2.1) (vx_48.2.2.2)))
      | some vx_49 => (sT_sideBetween (sW_side vx_46 (vx_48.1) (vx_48.2.1)) (sW_side vx_46 (vx_48.2.2.1) (vx_48.2.2.2)) (if 0 < (sW_side vx_49 (vx_48.1) (vx_48.2.1)) then (sW_side vx_49 (vx_48.1) (vx_48.2.1)) else -(sW_side vx_49 (vx_48.1) (vx_48.2.1))) (if 0 < (sW_side vx_49 (vx_48.2.2.1) (vx_48.2.2.2)) then (sW_side vx_49 (vx_48.2.2.1) (vx_48.2.2.2)) else -(sW_side vx_49 (vx_48.2.2.1) (vx_48.2.2.2)))))))
set_option maxHeartbeats 4000000 in
set_option maxRecDepth 100000 in
theorem cT_sideOfEnd (l : Launch) (g : CX) (ad q cp : Nat → Nat) (f : Nat → Nat → Int32) (Rw : Nat → List Int32) (sl : Nat → Option Nat) (cnt h st : Int32) (LW : List Nat) (wv : Nat → WV) (hz : rowsT cp f Rw) (hsl : slOK sl LW) (i : Int32) (j : Int32) (k : Int32) (b : Int32) : Met l yT_sideOfEnd (wm yT_sideOfEnd kT_sideOfEnd 12 (some .int)) ({ frames := 2, cells := 0, slots := 0, locals := 57 }) (ro g [.ref (ad 0), .int i, .int j, .int k, .int b] (va_P g.1 vwCl (TW g ad q cp f Rw sl cnt h st LW wv))) (vp_Si (fun r => r = sT_sideOfEnd Rw (wOf sl wv) i j k b)) 0 0 (fun _ => False) := by
  refine Met.ofW (cc := kT_sideOfEnd) (maxL := 12) (ret := (some .int)) (by decide) rfl ?_
  intro p e s m args below meth c s₁ B hml hv
  obtain ⟨rfl, hK, hP⟩ := hv
  have hx := B.exec
  have hb := B.bytes
  have hr := B.returns
  have ht : ∀ w ∈ wT, w.before _ s = true := fun w h => atoms_spec (ws := wm yT_sideOfEnd kT_sideOfEnd 12 (some .int)) B.pre w (List.mem_cons_of_mem _ h)
  have hown : s.vm.findClass "NodeMaker$Tree" = some m.cls := findClass_of_methodNamed B.named
  have hlocks := B.notSynchronized
  have hl := lv_entry ([.ref (ad 0), .int i, .int j, .int k, .int b]) (n := 12) (Nat.le_of_ble_eq_true rfl)
  rw [lg_entry_eq]
  generalize (lg_sl ([.ref (ad 0), .int i, .int j, .int k, .int b]) ++ List.replicate (12 - (lg_sl ([.ref (ad 0), .int i, .int j, .int k, .int b])).length) Slot.unset).toArray = ls at hl ⊢
  have hl : lv_has ls 12 [(0, .ref (ad 0)), (1, .int i), (2, .int j), (3, .int k), (4, .int b)] := hl
  refine lv_aload_n hx hb dT_sideOfEnd_0 rfl (lv_at hl 0 rfl) ?_
  refine va_get (D := g.1) (ci := 4) (v := .ref (ad 1)) (C := "NodeMaker$Tree") (T := Fd_T) (N := 16) hx hb ht i_T hown hK.1 hP 0 rfl rfl 0 (by decide) (ht _ q_105) (fun _ h9 => h9) rfl dT_sideOfEnd_1 ?_
  refine lv_iload_n hx hb dT_sideOfEnd_4 rfl (lv_at hl 1 rfl) ?_
  have hPc := pl_P (cx := wsX g (ad 1) (ad 2) sl cnt) hP [1, 2] rfl
  refine ro_Vq (As := [.int i]) (rest := []) ⟨hx, hb, hml, hown, ht⟩ (cS_at l g (ad 1) (ad 2) sl cnt LW wv hsl i) (cwV 1 ht (g_V q_284 q_248 q_249 q_36 q_250) rfl rfl rfl hd_S_at ⟨Nat.le_of_ble_eq_true rfl, Nat.le_of_ble_eq_true rfl⟩) hK hPc (va_recv hK.1 hPc (ci := 3) (q0 := 0) rfl rfl) rfl hl.1 rfl (Nat.le_of_ble_eq_true rfl) dT_sideOfEnd_5 ⟨by show 0 ≤ 0; omega, by show 0 ≤ 0; omega⟩ (fun hq => ?_) (fun x_46 hq => ?_)
  · skip
    have hwx_46 : wAt (wOf sl wv) i = none := hq.1.symm
    refine lv_astoreN (lv' := [(5, .null), (0, .ref (ad 0)), (1, .int i), (2, .int j), (3, .int k), (4, .int b)]) hx hb dT_sideOfEnd_8 hl (by decide) rfl (fun ls hl => ?_)
    refine lv_aload_n hx hb dT_sideOfEnd_10 rfl (lv_at hl 1 rfl) ?_
    refine va_get (D := g.1) (ci := 4) (v := .ref (ad 1)) (C := "NodeMaker$Tree") (T := Fd_T) (N := 16) hx hb ht i_T hown hK.1 hP 0 rfl rfl 0 (by decide) (ht _ q_105) (fun _ h9 => h9) rfl dT_sideOfEnd_11 ?_
    refine lv_iload_n hx hb dT_sideOfEnd_14 rfl (lv_at hl 3 rfl) ?_
    have hPc := pl_P (cx := wsX g (ad 1) (ad 2) sl cnt) hP [1, 2] rfl
    refine ro_Vq (As := [.int j]) (rest := []) ⟨hx, hb, hml, hown, ht⟩ (cS_at l g (ad 1) (ad 2) sl cnt LW wv hsl j) (cwV 1 ht (g_V q_284 q_248 q_249 q_36 q_250) rfl rfl rfl hd_S_at ⟨Nat.le_of_ble_eq_true rfl, Nat.le_of_ble_eq_true rfl⟩) hK hPc (va_recv hK.1 hPc (ci := 3) (q0 := 0) rfl rfl) rfl hl.1 rfl (Nat.le_of_ble_eq_true rfl) dT_sideOfEnd_15 ⟨by show 0 ≤ 0; omega, by show 0 ≤ 0; omega⟩ (fun hq => ?_) (fun x_47 hq => ?_)
    · skip
      have hwx_47 : wAt (wOf sl wv) j = none := hq.1.symm
      refine lv_astoreN (lv' := [(6, .null), (5, .null), (0, .ref (ad 0)), (1, .int i), (2, .int j), (3, .int k), (4, .int b)]) hx hb dT_sideOfEnd_18 hl (by decide) rfl (fun ls hl => ?_)
      refine lv_aloadN hx hb dT_sideOfEnd_20 (lv_at hl 1 rfl) ?_
      refine lv_ifnullN (tgt := 30) hx hb dT_sideOfEnd_22 (by decide) ?_
      refine lv_iconst (v := 0) hx hb dT_sideOfEnd_30 (by decide) ?_
      exact W.iret hx hb hr (fun t ht9 hW => ⟨_, rfl, by simp only [sT_sideOfEnd, hwx_46, hwx_47], ht9⟩) (fun q h => by cases h) dT_sideOfEnd_31
    · skip
      have hwx_47 : wAt (wOf sl wv) j = some (wv x_47) := hq.1.symm
      have hxx_47 : x_47 ∈ LW := hq.2 _ rfl
      refine lv_astore (lv' := [(6, .ref x_47), (5, .null), (0, .ref (ad 0)), (1, .int i), (2, .int j), (3, .int k), (4, .int b)]) hx hb dT_sideOfEnd_18 hl (by decide) rfl (fun ls hl => ?_)
      refine lv_aloadN hx hb dT_sideOfEnd_20 (lv_at hl 1 rfl) ?_
      refine lv_ifnullN (tgt := 30) hx hb dT_sideOfEnd_22 (by decide) ?_
      refine lv_iconst (v := 0) hx hb dT_sideOfEnd_30 (by decide) ?_
      exact W.iret hx hb hr (fun t ht9 hW => ⟨_, rfl, by simp only [sT_sideOfEnd, hwx_46, hwx_47], ht9⟩) (fun q h => by cases h) dT_sideOfEnd_31
  · skip
    have hwx_46 : wAt (wOf sl wv) i = some (wv x_46) := hq.1.symm
    have hxx_46 : x_46 ∈ LW := hq.2 _ rfl
    refine lv_astore (lv' := [(5, .ref x_46), (0, .ref (ad 0)), (1, .int i), (2, .int j), (3, .int k), (4, .int b)]) hx hb dT_sideOfEnd_8 hl (by decide) rfl (fun ls hl => ?_)
    refine lv_aload_n hx hb dT_sideOfEnd_10 rfl (lv_at hl 1 rfl) ?_
    refine va_get (D := g.1) (ci := 4) (v := .ref (ad 1)) (C := "NodeMaker$Tree") (T := Fd_T) (N := 16) hx hb ht i_T hown hK.1 hP 0 rfl rfl 0 (by decide) (ht _ q_105) (fun _ h9 => h9) rfl dT_sideOfEnd_11 ?_
    refine lv_iload_n hx hb dT_sideOfEnd_14 rfl (lv_at hl 3 rfl) ?_
    have hPc := pl_P (cx := wsX g (ad 1) (ad 2) sl cnt) hP [1, 2] rfl
    refine ro_Vq (As := [.int j]) (rest := []) ⟨hx, hb, hml, hown, ht⟩ (cS_at l g (ad 1) (ad 2) sl cnt LW wv hsl j) (cwV 1 ht (g_V q_284 q_248 q_249 q_36 q_250) rfl rfl rfl hd_S_at ⟨Nat.le_of_ble_eq_true rfl, Nat.le_of_ble_eq_true rfl⟩) hK hPc (va_recv hK.1 hPc (ci := 3) (q0 := 0) rfl rfl) rfl hl.1 rfl (Nat.le_of_ble_eq_true rfl) dT_sideOfEnd_15 ⟨by show 0 ≤ 0; omega, by show 0 ≤ 0; omega⟩ (fun hq => ?_) (fun x_48 hq => ?_)
    · skip
      have hwx_48 : wAt (wOf sl wv) j = none := hq.1.symm
      refine lv_astoreN (lv' := [(6, .null), (5, .ref x_46), (0, .ref (ad 0)), (1, .int i), (2, .int j), (3, .int k), (4, .int b)]) hx hb dT_sideOfEnd_18 hl (by decide) rfl (fun ls hl => ?_)
      refine lv_aload hx hb dT_sideOfEnd_20 (lv_at hl 1 rfl) ?_
      refine lv_ifnull hx hb dT_sideOfEnd_22 ?_
      refine lv_aloadN hx hb dT_sideOfEnd_25 (lv_at hl 0 rfl) ?_
      refine lv_ifnonnullN hx hb dT_sideOfEnd_27 ?_
      refine lv_iconst (v := 0) hx hb dT_sideOfEnd_30 (by decide) ?_
      exact W.iret hx hb hr (fun t ht9 hW => ⟨_, rfl, by simp only [sT_sideOfEnd, hwx_46, hwx_48], ht9⟩) (fun q h => by cases h) dT_sideOfEnd_31
    · skip
      have hwx_48 : wAt (wOf sl wv) j = some (wv x_48) := hq.1.symm
      have hxx_48 : x_48 ∈ LW := hq.2 _ rfl
      refine lv_astore (lv' := [(6, .ref x_48), (5, .ref x_46), (0, .ref (ad 0)), (1, .int i), (2, .int j), (3, .int k), (4, .int b)]) hx hb dT_sideOfEnd_18 hl (by decide) rfl (fun ls hl => ?_)
      refine lv_aload hx hb dT_sideOfEnd_20 (lv_at hl 1 rfl) ?_
      refine lv_ifnull hx hb dT_sideOfEnd_22 ?_
      refine lv_aload hx hb dT_sideOfEnd_25 (lv_at hl 0 rfl) ?_
      refine lv_ifnonnull (tgt := 32) hx hb dT_sideOfEnd_27 (by decide) ?_
      refine lv_aload hx hb dT_sideOfEnd_32 (lv_at hl 1 rfl) ?_
      refine lv_aload hx hb dT_sideOfEnd_34 (lv_at hl 0 rfl) ?_
      have hPx := pl_one hP hxx_48
      refine va_getN (D := g.1) (ci := 2) (v := .int (wv x_48).1) (C := "NodeMaker$Wall") (T := Fd_W) (N := 4) hx hb ht i_W hown hK.1 hPx 0 rfl rfl 0 (by decide) (va_Nw.use rfl (nw_10 hK.2)) (fun _ h9 => h9) rfl dT_sideOfEnd_36 ?_
      refine lv_aload hx hb dT_sideOfEnd_39 (lv_at hl 0 rfl) ?_
      have hPx := pl_one hP hxx_48
      refine va_getN (D := g.1) (ci := 2) (v := .int (wv x_48).2.1) (C := "NodeMaker$Wall") (T := Fd_W) (N := 4) hx hb ht i_W hown hK.1 hPx 0 rfl rfl 1 (by decide) (va_Nw.use rfl (nw_11 hK.2)) (fun _ h9 => h9) rfl dT_sideOfEnd_41 ?_
      have hPx := pl_one hP hxx_46
      refine ro_Vl (v := sW_side (wv x_46) ((wv x_48).1) ((wv x_48).2.1)) (As := [.int (wv x_48).1, .int (wv x_48).2.1]) (rest := []) ⟨hx, hb, hml, hown, ht⟩ (cW_side l g x_46 (wv x_46) ((wv x_48).1) ((wv x_48).2.1)) (cwV 2 ht (g_V q_358 q_222 q_223 q_40 q_224) rfl rfl rfl hd_W_side ⟨Nat.le_of_ble_eq_true rfl, Nat.le_of_ble_eq_true rfl⟩) hK (hPx) (va_recv hK.1 hPx (ci := 2) (q0 := 0) rfl rfl) rfl hl.1 rfl (Nat.le_of_ble_eq_true rfl) dT_sideOfEnd_44 ⟨by show 0 ≤ 0; omega, by show 0 ≤ 0; omega⟩ ?_
      refine lv_lstore (lv' := [(7, .long (sW_side (wv x_46) ((wv x_48).1) ((wv x_48).2.1))), (6, .ref x_48), (5, .ref x_46), (0, .ref (ad 0)), (1, .int i), (2, .int j), (3, .int k), (4, .int b)]) hx hb dT_sideOfEnd_47 hl (by decide) rfl (fun ls hl => ?_)
      refine lv_aload hx hb dT_sideOfEnd_49 (lv_at hl 2 rfl) ?_
      refine lv_aload hx hb dT_sideOfEnd_51 (lv_at hl 1 rfl) ?_
      have hPx := pl_one hP hxx_48
      refine va_getN (D := g.1) (ci := 2) (v := .int (wv x_48).2.2.1) (C := "NodeMaker$Wall") (T := Fd_W) (N := 4) hx hb ht i_W hown hK.1 hPx 0 rfl rfl 2 (by decide) (va_Nw.use rfl (nw_12 hK.2)) (fun _ h9 => h9) rfl dT_sideOfEnd_53 ?_
      refine lv_aload hx hb dT_sideOfEnd_56 (lv_at hl 1 rfl) ?_
      have hPx := pl_one hP hxx_48
      refine va_getN (D := g.1) (ci := 2) (v := .int (wv x_48).2.2.2) (C := "NodeMaker$Wall") (T := Fd_W) (N := 4) hx hb ht i_W hown hK.1 hPx 0 rfl rfl 3 (by decide) (va_Nw.use rfl (nw_13 hK.2)) (fun _ h9 => h9) rfl dT_sideOfEnd_58 ?_
      have hPx := pl_one hP hxx_46
      refine ro_Vl (v := sW_side (wv x_46) ((wv x_48).2.2.1) ((wv x_48).2.2.2)) (As := [.int (wv x_48).2.2.1, .int (wv x_48).2.2.2]) (rest := []) ⟨hx, hb, hml, hown, ht⟩ (cW_side l g x_46 (wv x_46) ((wv x_48).2.2.1) ((wv x_48).2.2.2)) (cwV 2 ht (g_V q_358 q_222 q_223 q_40 q_224) rfl rfl rfl hd_W_side ⟨Nat.le_of_ble_eq_true rfl, Nat.le_of_ble_eq_true rfl⟩) hK (hPx) (va_recv hK.1 hPx (ci := 2) (q0 := 0) rfl rfl) rfl hl.1 rfl (Nat.le_of_ble_eq_true rfl) dT_sideOfEnd_61 ⟨by show 0 ≤ 0; omega, by show 0 ≤ 0; omega⟩ ?_
      refine lv_lstore (lv' := [(9, .long (sW_side (wv x_46) ((wv x_48).2.2.1) ((wv x_48).2.2.2))), (7, .long (sW_side (wv x_46) ((wv x_48).1) ((wv x_48).2.1))), (6, .ref x_48), (5, .ref x_46), (0, .ref (ad 0)), (1, .int i), (2, .int j), (3, .int k), (4, .int b)]) hx hb dT_sideOfEnd_64 hl (by decide) rfl (fun ls hl => ?_)
      refine lv_aload_n hx hb dT_sideOfEnd_66 rfl (lv_at hl 4 rfl) ?_
      refine va_get (D := g.1) (ci := 4) (v := .ref (ad 1)) (C := "NodeMaker$Tree") (T := Fd_T) (N := 16) hx hb ht i_T hown hK.1 hP 0 rfl rfl 0 (by decide) (ht _ q_105) (fun _ h9 => h9) rfl dT_sideOfEnd_67 ?_
      refine lv_iload_n hx hb dT_sideOfEnd_70 rfl (lv_at hl 7 rfl) ?_
      have hPc := pl_P (cx := wsX g (ad 1) (ad 2) sl cnt) hP [1, 2] rfl
      refine ro_Vq (As := [.int k]) (rest := []) ⟨hx, hb, hml, hown, ht⟩ (cS_at l g (ad 1) (ad 2) sl cnt LW wv hsl k) (cwV 1 ht (g_V q_284 q_248 q_249 q_36 q_250) rfl rfl rfl hd_S_at ⟨Nat.le_of_ble_eq_true rfl, Nat.le_of_ble_eq_true rfl⟩) hK hPc (va_recv hK.1 hPc (ci := 3) (q0 := 0) rfl rfl) rfl hl.1 rfl (Nat.le_of_ble_eq_true rfl) dT_sideOfEnd_71 ⟨by show 0 ≤ 0; omega, by show 0 ≤ 0; omega⟩ (fun hq => ?_) (fun x_49 hq => ?_)
      · skip
        have hwx_49 : wAt (wOf sl wv) k = none := hq.1.symm
        refine lv_astoreN (lv' := [(11, .null), (9, .long (sW_side (wv x_46) ((wv x_48).2.2.1) ((wv x_48).2.2.2))), (7, .long (sW_side (wv x_46) ((wv x_48).1) ((wv x_48).2.1))), (6, .ref x_48), (5, .ref x_46), (0, .ref (ad 0)), (1, .int i), (2, .int j), (3, .int k), (4, .int b)]) hx hb dT_sideOfEnd_74 hl (by decide) rfl (fun ls hl => ?_)
        refine lv_aloadN hx hb dT_sideOfEnd_76 (lv_at hl 0 rfl) ?_
        refine lv_ifnonnullN hx hb dT_sideOfEnd_78 ?_
        refine lv_iload hx hb dT_sideOfEnd_81 (lv_at hl 9 rfl) ?_
        refine lv_if_eq (tgt := 91) hx hb dT_sideOfEnd_83 (by decide) (fun c_50 => ?_) (fun c_50 => ?_)
        · skip
          refine lv_lload hx hb dT_sideOfEnd_91 (lv_at hl 2 rfl) ?_
          refine ro_Si (v := sT_sideOf (sW_side (wv x_46) ((wv x_48).1) ((wv x_48).2.1))) (As := [.long (sW_side (wv x_46) ((wv x_48).1) ((wv x_48).2.1))]) (rest := []) ⟨hx, hb, hml, hown, ht⟩ (cT_sideOf l g (sW_side (wv x_46) ((wv x_48).1) ((wv x_48).2.1))) (cwS 1 ht (g_S q_359 q_360 q_35 q_361) rfl rfl rfl hd_T_sideOf ⟨Nat.le_of_ble_eq_true rfl, Nat.le_of_ble_eq_true rfl⟩) hK (trivial) rfl hl.1 rfl (Nat.le_of_ble_eq_true rfl) dT_sideOfEnd_93 ⟨by show 0 ≤ 0; omega, by show 0 ≤ 0; omega⟩ ?_
          exact W.iret hx hb hr (fun t ht9 hW => ⟨_, rfl, by simp only [sT_sideOfEnd, hwx_46, hwx_48, hwx_49, if_pos c_50], ht9⟩) (fun q h => by cases h) dT_sideOfEnd_96
        · skip
          refine lv_lload hx hb dT_sideOfEnd_86 (lv_at hl 1 rfl) ?_
          refine lv_goto (tgt := 93) hx hb dT_sideOfEnd_88 (by decide) ?_
          refine ro_Si (v := sT_sideOf (sW_side (wv x_46) ((wv x_48).2.2.1) ((wv x_48).2.2.2))) (As := [.long (sW_side (wv x_46) ((wv x_48).2.2.1) ((wv x_48).2.2.2))]) (rest := []) ⟨hx, hb, hml, hown, ht⟩ (cT_sideOf l g (sW_side (wv x_46) ((wv x_48).2.2.1) ((wv x_48).2.2.2))) (cwS 1 ht (g_S q_359 q_360 q_35 q_361) rfl rfl rfl hd_T_sideOf ⟨Nat.le_of_ble_eq_true rfl, Nat.le_of_ble_eq_true rfl⟩) hK (trivial) rfl hl.1 rfl (Nat.le_of_ble_eq_true rfl) dT_sideOfEnd_93 ⟨by show 0 ≤ 0; omega, by show 0 ≤ 0; omega⟩ ?_
          exact W.iret hx hb hr (fun t ht9 hW => ⟨_, rfl, by simp only [sT_sideOfEnd, hwx_46, hwx_48, hwx_49, if_neg c_50], ht9⟩) (fun q h => by cases h) dT_sideOfEnd_96
      · skip
        have hwx_49 : wAt (wOf sl wv) k = some (wv x_49) := hq.1.symm
        have hxx_49 : x_49 ∈ LW := hq.2 _ rfl
        refine lv_astore (lv' := [(11, .ref x_49), (9, .long (sW_side (wv x_46) ((wv x_48).2.2.1) ((wv x_48).2.2.2))), (7, .long (sW_side (wv x_46) ((wv x_48).1) ((wv x_48).2.1))), (6, .ref x_48), (5, .ref x_46), (0, .ref (ad 0)), (1, .int i), (2, .int j), (3, .int k), (4, .int b)]) hx hb dT_sideOfEnd_74 hl (by decide) rfl (fun ls hl => ?_)
        refine lv_aload hx hb dT_sideOfEnd_76 (lv_at hl 0 rfl) ?_
        refine lv_ifnonnull (tgt := 97) hx hb dT_sideOfEnd_78 (by decide) ?_
        refine lv_lload hx hb dT_sideOfEnd_97 (lv_at hl 2 rfl) ?_
        refine lv_lload hx hb dT_sideOfEnd_99 (lv_at hl 1 rfl) ?_
        refine lv_aload hx hb dT_sideOfEnd_101 (lv_at hl 0 rfl) ?_
        refine lv_aload hx hb dT_sideOfEnd_103 (lv_at hl 3 rfl) ?_
        have hPx := pl_one hP hxx_48
        refine va_getN (D := g.1) (ci := 2) (v := .int (wv x_48).1) (C := "NodeMaker$Wall") (T := Fd_W) (N := 4) hx hb ht i_W hown hK.1 hPx 0 rfl rfl 0 (by decide) (va_Nw.use rfl (nw_10 hK.2)) (fun _ h9 => h9) rfl dT_sideOfEnd_105 ?_
        refine lv_aload hx hb dT_sideOfEnd_108 (lv_at hl 3 rfl) ?_
        have hPx := pl_one hP hxx_48
        refine va_getN (D := g.1) (ci := 2) (v := .int (wv x_48).2.1) (C := "NodeMaker$Wall") (T := Fd_W) (N := 4) hx hb ht i_W hown hK.1 hPx 0 rfl rfl 1 (by decide) (va_Nw.use rfl (nw_11 hK.2)) (fun _ h9 => h9) rfl dT_sideOfEnd_110 ?_
        have hPx := pl_one hP hxx_49
        refine ro_Vl (v := sW_side (wv x_49) ((wv x_48).1) ((wv x_48).2.1)) (As := [.int (wv x_48).1, .int (wv x_48).2.1]) (rest := [.long (sW_side (wv x_46) ((wv x_48).2.2.1) ((wv x_48).2.2.2)), .long (sW_side (wv x_46) ((wv x_48).1) ((wv x_48).2.1))]) ⟨hx, hb, hml, hown, ht⟩ (cW_side l g x_49 (wv x_49) ((wv x_48).1) ((wv x_48).2.1)) (cwV 2 ht (g_V q_358 q_222 q_223 q_40 q_224) rfl rfl rfl hd_W_side ⟨Nat.le_of_ble_eq_true rfl, Nat.le_of_ble_eq_true rfl⟩) hK (hPx) (va_recv hK.1 hPx (ci := 2) (q0 := 0) rfl rfl) rfl hl.1 rfl (Nat.le_of_ble_eq_true rfl) dT_sideOfEnd_113 ⟨by show 0 ≤ 0; omega, by show 0 ≤ 0; omega⟩ ?_
        refine va_mabs_long hx hb (by rw [hml]; exact hl.1.symm) hown (ht _ q_362) (ht _ q_363) (ht _ q_41) (ht _ q_364) (Nat.le_of_ble_eq_true rfl) (Nat.le_of_ble_eq_true rfl) (by show 0 ≤ 0; omega) (by show 0 ≤ 0; omega) dT_sideOfEnd_116 ?_
        refine lv_aload hx hb dT_sideOfEnd_119 (lv_at hl 0 rfl) ?_
        refine lv_aload hx hb dT_sideOfEnd_121 (lv_at hl 3 rfl) ?_
        have hPx := pl_one hP hxx_48
        refine va_getN (D := g.1) (ci := 2) (v := .int (wv x_48).2.2.1) (C := "NodeMaker$Wall") (T := Fd_W) (N := 4) hx hb ht i_W hown hK.1 hPx 0 rfl rfl 2 (by decide) (va_Nw.use rfl (nw_12 hK.2)) (fun _ h9 => h9) rfl dT_sideOfEnd_123 ?_
        refine lv_aload hx hb dT_sideOfEnd_126 (lv_at hl 3 rfl) ?_
        have hPx := pl_one hP hxx_48
        refine va_getN (D := g.1) (ci := 2) (v := .int (wv x_48).2.2.2) (C := "NodeMaker$Wall") (T := Fd_W) (N := 4) hx hb ht i_W hown hK.1 hPx 0 rfl rfl 3 (by decide) (va_Nw.use rfl (nw_13 hK.2)) (fun _ h9 => h9) rfl dT_sideOfEnd_128 ?_
        have hPx := pl_one hP hxx_49
        refine ro_Vl (v := sW_side (wv x_49) ((wv x_48).2.2.1) ((wv x_48).2.2.2)) (As := [.int (wv x_48).2.2.1, .int (wv x_48).2.2.2]) (rest := [.long (if 0 < (sW_side (wv x_49) ((wv x_48).1) ((wv x_48).2.1)) then (sW_side (wv x_49) ((wv x_48).1) ((wv x_48).2.1)) else -(sW_side (wv x_49) ((wv x_48).1) ((wv x_48).2.1))), .long (sW_side (wv x_46) ((wv x_48).2.2.1) ((wv x_48).2.2.2)), .long (sW_side (wv x_46) ((wv x_48).1) ((wv x_48).2.1))]) ⟨hx, hb, hml, hown, ht⟩ (cW_side l g x_49 (wv x_49) ((wv x_48).2.2.1) ((wv x_48).2.2.2)) (cwV 2 ht (g_V q_358 q_222 q_223 q_40 q_224) rfl rfl rfl hd_W_side ⟨Nat.le_of_ble_eq_true rfl, Nat.le_of_ble_eq_true rfl⟩) hK (hPx) (va_recv hK.1 hPx (ci := 2) (q0 := 0) rfl rfl) rfl hl.1 rfl (Nat.le_of_ble_eq_true rfl) dT_sideOfEnd_131 ⟨by show 0 ≤ 0; omega, by show 0 ≤ 0; omega⟩ ?_
        refine va_mabs_long hx hb (by rw [hml]; exact hl.1.symm) hown (ht _ q_362) (ht _ q_363) (ht _ q_41) (ht _ q_364) (Nat.le_of_ble_eq_true rfl) (Nat.le_of_ble_eq_true rfl) (by show 0 ≤ 0; omega) (by show 0 ≤ 0; omega) dT_sideOfEnd_134 ?_
        refine ro_Si (v := sT_sideBetween (sW_side (wv x_46) ((wv x_48).1) ((wv x_48).2.1)) (sW_side (wv x_46) ((wv x_48).2.2.1) ((wv x_48).2.2.2)) (if 0 < (sW_side (wv x_49) ((wv x_48).1) ((wv x_48).2.1)) then (sW_side (wv x_49) ((wv x_48).1) ((wv x_48).2.1)) else -(sW_side (wv x_49) ((wv x_48).1) ((wv x_48).2.1))) (if 0 < (sW_side (wv x_49) ((wv x_48).2.2.1) ((wv x_48).2.2.2)) then (sW_side (wv x_49) ((wv x_48).2.2.1) ((wv x_48).2.2.2)) else -(sW_side (wv x_49) ((wv x_48).2.2.1) ((wv x_48).2.2.2)))) (As := [.long (sW_side (wv x_46) ((wv x_48).1) ((wv x_48).2.1)), .long (sW_side (wv x_46) ((wv x_48).2.2.1) ((wv x_48).2.2.2)), .long (if 0 < (sW_side (wv x_49) ((wv x_48).1) ((wv x_48).2.1)) then (sW_side (wv x_49) ((wv x_48).1) ((wv x_48).2.1)) else -(sW_side (wv x_49) ((wv x_48).1) ((wv x_48).2.1))), .long (if 0 < (sW_side (wv x_49) ((wv x_48).2.2.1) ((wv x_48).2.2.2)) then (sW_side (wv x_49) ((wv x_48).2.2.1) ((wv x_48).2.2.2)) else -(sW_side (wv x_49) ((wv x_48).2.2.1) ((wv x_48).2.2.2)))]) (rest := []) ⟨hx, hb, hml, hown, ht⟩ (cT_sideBetween l g (sW_side (wv x_46) ((wv x_48).1) ((wv x_48).2.1)) (sW_side (wv x_46) ((wv x_48).2.2.1) ((wv x_48).2.2.2)) (if 0 < (sW_side (wv x_49) ((wv x_48).1) ((wv x_48).2.1)) then (sW_side (wv x_49) ((wv x_48).1) ((wv x_48).2.1)) else -(sW_side (wv x_49) ((wv x_48).1) ((wv x_48).2.1))) (if 0 < (sW_side (wv x_49) ((wv x_48).2.2.1) ((wv x_48).2.2.2)) then (sW_side (wv x_49) ((wv x_48).2.2.1) ((wv x_48).2.2.2)) else -(sW_side (wv x_49) ((wv x_48).2.2.1) ((wv x_48).2.2.2)))) (cwS 4 ht (g_S q_365 q_366 q_35 q_367) rfl rfl rfl hd_T_sideBetween ⟨Nat.le_of_ble_eq_true rfl, Nat.le_of_ble_eq_true rfl⟩) hK (trivial) rfl hl.1 rfl (Nat.le_of_ble_eq_true rfl) dT_sideOfEnd_137 ⟨by show 0 ≤ 0; omega, by show 0 ≤ 0; omega⟩ ?_
        exact W.iret hx hb hr (fun t ht9 hW => ⟨_, rfl, by simp only [sT_sideOfEnd, hwx_46, hwx_48, hwx_49], ht9⟩) (fun q h => by cases h) dT_sideOfEnd_140
def sT_whereLies (Rw : Nat → List Int32) (Wl : Nat → Option WV) (i : Int32) (j : Int32) : Int32 :=
  ((sT_sideOfEnd Rw Wl i (rAt (Rw 10) j) (rAt (Rw 11) j) 0) ||| (sT_sideOfEnd Rw Wl i (rAt (Rw 10) j) (rAt (Rw 12) j) 1))
set_option maxHeartbeats 4000000 in
set_option maxRecDepth 100000 in
theorem cT_whereLies (l : Launch) (g : CX) (ad q cp : Nat → Nat) (f : Nat → Nat → Int32) (Rw : Nat → List Int32) (sl : Nat → Option Nat) (cnt h st : Int32) (LW : List Nat) (wv : Nat → WV) (hz : rowsT cp f Rw) (hsl : slOK sl LW) (i : Int32) (j : Int32) : Met l yT_whereLies (wm yT_whereLies kT_whereLies 4 (some .int)) ({ frames := 3, cells := 0, slots := 0, locals := 88 }) (ro g [.ref (ad 0), .int i, .int j] (va_P g.1 vwCl (TW g ad q cp f Rw sl cnt h st LW wv))) (vp_Si (fun r => r = sT_whereLies Rw (wOf sl wv) i j)) 0 0 (fun _ => False) := by
  refine Met.ofW (cc := kT_whereLies) (maxL := 4) (ret := (some .int)) (by decide) rfl ?_
  intro p e s m args below meth c s₁ B hml hv
  obtain ⟨rfl, hK, hP⟩ := hv
  have hx := B.exec
  have hb := B.bytes
  have hr := B.returns
  have ht : ∀ w ∈ wT, w.before _ s = true := fun w h => atoms_spec (ws := wm yT_whereLies kT_whereLies 4 (some .int)) B.pre w (List.mem_cons_of_mem _ h)
  have hown : s.vm.findClass "NodeMaker$Tree" = some m.cls := findClass_of_methodNamed B.named
  have hlocks := B.notSynchronized
  have hl := lv_entry ([.ref (ad 0), .int i, .int j]) (n := 4) (Nat.le_of_ble_eq_true rfl)
  rw [lg_entry_eq]
  generalize (lg_sl ([.ref (ad 0), .int i, .int j]) ++ List.replicate (4 - (lg_sl ([.ref (ad 0), .int i, .int j])).length) Slot.unset).toArray = ls at hl ⊢
  have hl : lv_has ls 4 [(0, .ref (ad 0)), (1, .int i), (2, .int j)] := hl
  refine lv_aload_n hx hb dT_whereLies_0 rfl (lv_at hl 0 rfl) ?_
  refine va_get (D := g.1) (ci := 4) (v := .ref (ad 4)) (C := "NodeMaker$Tree") (T := Fd_T) (N := 16) hx hb ht i_T hown hK.1 hP 0 rfl rfl 9 (by decide) (ht _ q_114) (fun _ h9 => h9) rfl dT_whereLies_1 ?_
  refine lv_iload_n hx hb dT_whereLies_4 rfl (lv_at hl 2 rfl) ?_
  have hPc := hP.sub (ws' := (piW g (ad 4) (fun k => ad (16 + k)) (fun k => q (10 + k)) (fun k => cp (10 + k)) (fun k => f (10 + k)) (fun k => (Rw (10 + k)).length))) [4, 26, 27, 28, 29, 30, 31] rfl
  refine ro_Vi (v := rAt (Rw 10) j) (As := [.int j]) (rest := []) ⟨hx, hb, hml, hown, ht⟩ (cP_wallAt l g (ad 4) (fun k => ad (16 + k)) (fun k => q (10 + k)) (fun k => cp (10 + k)) (fun k => f (10 + k)) (fun k => Rw (10 + k)) (rows_3 10 (by decide) hz) j) (cwV 1 ht (g_V q_341 q_342 q_343 q_38 q_344) rfl rfl rfl hd_P_wallAt ⟨Nat.le_of_ble_eq_true rfl, Nat.le_of_ble_eq_true rfl⟩) hK (hPc) (va_recv hK.1 hPc (ci := 1) (q0 := 0) rfl rfl) rfl hl.1 rfl (Nat.le_of_ble_eq_true rfl) dT_whereLies_5 ⟨by show 0 ≤ 0; omega, by show 0 ≤ 0; omega⟩ ?_
  refine lv_istore_n (lv' := [(3, .int (rAt (Rw 10) j)), (0, .ref (ad 0)), (1, .int i), (2, .int j)]) hx hb dT_whereLies_8 rfl hl (by decide) rfl (fun ls hl => ?_)
  refine lv_aload_n hx hb dT_whereLies_9 rfl (lv_at hl 1 rfl) ?_
  refine lv_iload_n hx hb dT_whereLies_10 rfl (lv_at hl 2 rfl) ?_
  refine lv_iload_n hx hb dT_whereLies_11 rfl (lv_at hl 0 rfl) ?_
  refine lv_aload_n hx hb dT_whereLies_12 rfl (lv_at hl 1 rfl) ?_
  refine va_get (D := g.1) (ci := 4) (v := .ref (ad 4)) (C := "NodeMaker$Tree") (T := Fd_T) (N := 16) hx hb ht i_T hown hK.1 hP 0 rfl rfl 9 (by decide) (ht _ q_114) (fun _ h9 => h9) rfl dT_whereLies_13 ?_
  refine lv_iload_n hx hb dT_whereLies_16 rfl (lv_at hl 3 rfl) ?_
  have hPc := hP.sub (ws' := (piW g (ad 4) (fun k => ad (16 + k)) (fun k => q (10 + k)) (fun k => cp (10 + k)) (fun k => f (10 + k)) (fun k => (Rw (10 + k)).length))) [4, 26, 27, 28, 29, 30, 31] rfl
  refine ro_Vi (v := rAt (Rw 11) j) (As := [.int j]) (rest := [.int (rAt (Rw 10) j), .int i, .ref (ad 0)]) ⟨hx, hb, hml, hown, ht⟩ (cP_firstAt l g (ad 4) (fun k => ad (16 + k)) (fun k => q (10 + k)) (fun k => cp (10 + k)) (fun k => f (10 + k)) (fun k => Rw (10 + k)) (rows_3 10 (by decide) hz) j) (cwV 1 ht (g_V q_350 q_351 q_352 q_38 q_353) rfl rfl rfl hd_P_firstAt ⟨Nat.le_of_ble_eq_true rfl, Nat.le_of_ble_eq_true rfl⟩) hK (hPc) (va_recv hK.1 hPc (ci := 1) (q0 := 0) rfl rfl) rfl hl.1 rfl (Nat.le_of_ble_eq_true rfl) dT_whereLies_17 ⟨by show 0 ≤ 0; omega, by show 0 ≤ 0; omega⟩ ?_
  refine lv_iconst (v := 0) hx hb dT_whereLies_20 (by decide) ?_
  refine ro_Vi (v := sT_sideOfEnd Rw (wOf sl wv) i (rAt (Rw 10) j) (rAt (Rw 11) j) 0) (As := [.int i, .int (rAt (Rw 10) j), .int (rAt (Rw 11) j), .int 0]) (rest := []) ⟨hx, hb, hml, hown, ht⟩ (cT_sideOfEnd l g ad q cp f Rw sl cnt h st LW wv hz hsl i (rAt (Rw 10) j) (rAt (Rw 11) j) 0) (cwV 4 ht (g_V q_354 q_356 q_5 q_35 q_357) rfl rfl rfl hd_T_sideOfEnd ⟨Nat.le_of_ble_eq_true rfl, Nat.le_of_ble_eq_true rfl⟩) hK (hP) (va_recv hK.1 hP (ci := 4) (q0 := 0) rfl rfl) rfl hl.1 rfl (Nat.le_of_ble_eq_true rfl) dT_whereLies_21 ⟨by show 0 ≤ 0; omega, by show 0 ≤ 0; omega⟩ ?_
  refine lv_aload_n hx hb dT_whereLies_24 rfl (lv_at hl 1 rfl) ?_
  refine lv_iload_n hx hb dT_whereLies_25 rfl (lv_at hl 2 rfl) ?_
  refine lv_iload_n hx hb dT_whereLies_26 rfl (lv_at hl 0 rfl) ?_
  refine lv_aload_n hx hb dT_whereLies_27 rfl (lv_at hl 1 rfl) ?_
  refine va_get (D := g.1) (ci := 4) (v := .ref (ad 4)) (C := "NodeMaker$Tree") (T := Fd_T) (N := 16) hx hb ht i_T hown hK.1 hP 0 rfl rfl 9 (by decide) (ht _ q_114) (fun _ h9 => h9) rfl dT_whereLies_28 ?_
  refine lv_iload_n hx hb dT_whereLies_31 rfl (lv_at hl 3 rfl) ?_
  have hPc := hP.sub (ws' := (piW g (ad 4) (fun k => ad (16 + k)) (fun k => q (10 + k)) (fun k => cp (10 + k)) (fun k => f (10 + k)) (fun k => (Rw (10 + k)).length))) [4, 26, 27, 28, 29, 30, 31] rfl
  refine ro_Vi (v := rAt (Rw 12) j) (As := [.int j]) (rest := [.int (rAt (Rw 10) j), .int i, .ref (ad 0), .int (sT_sideOfEnd Rw (wOf sl wv) i (rAt (Rw 10) j) (rAt (Rw 11) j) 0)]) ⟨hx, hb, hml, hown, ht⟩ (cP_lastAt l g (ad 4) (fun k => ad (16 + k)) (fun k => q (10 + k)) (fun k => cp (10 + k)) (fun k => f (10 + k)) (fun k => Rw (10 + k)) (rows_3 10 (by decide) hz) j) (cwV 1 ht (g_V q_369 q_370 q_371 q_38 q_372) rfl rfl rfl hd_P_lastAt ⟨Nat.le_of_ble_eq_true rfl, Nat.le_of_ble_eq_true rfl⟩) hK (hPc) (va_recv hK.1 hPc (ci := 1) (q0 := 0) rfl rfl) rfl hl.1 rfl (Nat.le_of_ble_eq_true rfl) dT_whereLies_32 ⟨by show 0 ≤ 0; omega, by show 0 ≤ 0; omega⟩ ?_
  refine lv_iconst (v := 1) hx hb dT_whereLies_35 (by decide) ?_
  refine ro_Vi (v := sT_sideOfEnd Rw (wOf sl wv) i (rAt (Rw 10) j) (rAt (Rw 12) j) 1) (As := [.int i, .int (rAt (Rw 10) j), .int (rAt (Rw 12) j), .int 1]) (rest := [.int (sT_sideOfEnd Rw (wOf sl wv) i (rAt (Rw 10) j) (rAt (Rw 11) j) 0)]) ⟨hx, hb, hml, hown, ht⟩ (cT_sideOfEnd l g ad q cp f Rw sl cnt h st LW wv hz hsl i (rAt (Rw 10) j) (rAt (Rw 12) j) 1) (cwV 4 ht (g_V q_354 q_356 q_5 q_35 q_357) rfl rfl rfl hd_T_sideOfEnd ⟨Nat.le_of_ble_eq_true rfl, Nat.le_of_ble_eq_true rfl⟩) hK (hP) (va_recv hK.1 hP (ci := 4) (q0 := 0) rfl rfl) rfl hl.1 rfl (Nat.le_of_ble_eq_true rfl) dT_whereLies_36 ⟨by show 0 ≤ 0; omega, by show 0 ≤ 0; omega⟩ ?_
  refine lv_ior hx hb dT_whereLies_39 ?_
  exact W.iret hx hb hr (fun t ht9 hW => ⟨_, rfl, rfl, ht9⟩) (fun q h => by cases h) dT_whereLies_40
