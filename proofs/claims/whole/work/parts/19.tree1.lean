theorem hd_T_addWall : yT_addWall.cls = "NodeMaker$Tree" ∧ yT_addWall.cls ≠ "java/lang/invoke/MethodHandle" ∧ yT_addWall.cls ≠ "java/lang/invoke/VarHandle" ∧ (parseMethodDescriptor yT_addWall.desc).map (fun d => d.parameters.length) = some 1 := by decide +kernel
theorem hd_T_dropWall : yT_dropWall.cls = "NodeMaker$Tree" ∧ yT_dropWall.cls ≠ "java/lang/invoke/MethodHandle" ∧ yT_dropWall.cls ≠ "java/lang/invoke/VarHandle" ∧ (parseMethodDescriptor yT_dropWall.desc).map (fun d => d.parameters.length) = some 1 := by decide +kernel
theorem hd_T_dropAllWalls : yT_dropAllWalls.cls = "NodeMaker$Tree" ∧ yT_dropAllWalls.cls ≠ "java/lang/invoke/MethodHandle" ∧ yT_dropAllWalls.cls ≠ "java/lang/invoke/VarHandle" ∧ (parseMethodDescriptor yT_dropAllWalls.desc).map (fun d => d.parameters.length) = some 0 := by decide +kernel
theorem hd_T_grow : yT_grow.cls = "NodeMaker$Tree" ∧ yT_grow.cls ≠ "java/lang/invoke/MethodHandle" ∧ yT_grow.cls ≠ "java/lang/invoke/VarHandle" ∧ (parseMethodDescriptor yT_grow.desc).map (fun d => d.parameters.length) = some 0 := by decide +kernel
theorem hd_T_fell : yT_fell.cls = "NodeMaker$Tree" ∧ yT_fell.cls ≠ "java/lang/invoke/MethodHandle" ∧ yT_fell.cls ≠ "java/lang/invoke/VarHandle" ∧ (parseMethodDescriptor yT_fell.desc).map (fun d => d.parameters.length) = some 0 := by decide +kernel
theorem hd_T_await : yT_await.cls = "NodeMaker$Tree" ∧ yT_await.cls ≠ "java/lang/invoke/MethodHandle" ∧ yT_await.cls ≠ "java/lang/invoke/VarHandle" ∧ (parseMethodDescriptor yT_await.desc).map (fun d => d.parameters.length) = some 3 := by decide +kernel
theorem hd_T_plantNext : yT_plantNext.cls = "NodeMaker$Tree" ∧ yT_plantNext.cls ≠ "java/lang/invoke/MethodHandle" ∧ yT_plantNext.cls ≠ "java/lang/invoke/VarHandle" ∧ (parseMethodDescriptor yT_plantNext.desc).map (fun d => d.parameters.length) = some 0 := by decide +kernel
theorem hd_T_hasNode : yT_hasNode.cls = "NodeMaker$Tree" ∧ yT_hasNode.cls ≠ "java/lang/invoke/MethodHandle" ∧ yT_hasNode.cls ≠ "java/lang/invoke/VarHandle" ∧ (parseMethodDescriptor yT_hasNode.desc).map (fun d => d.parameters.length) = some 1 := by decide +kernel
theorem hd_T_bestLine : yT_bestLine.cls = "NodeMaker$Tree" ∧ yT_bestLine.cls ≠ "java/lang/invoke/MethodHandle" ∧ yT_bestLine.cls ≠ "java/lang/invoke/VarHandle" ∧ (parseMethodDescriptor yT_bestLine.desc).map (fun d => d.parameters.length) = some 1 := by decide +kernel
theorem hd_T_whereLies : yT_whereLies.cls = "NodeMaker$Tree" ∧ yT_whereLies.cls ≠ "java/lang/invoke/MethodHandle" ∧ yT_whereLies.cls ≠ "java/lang/invoke/VarHandle" ∧ (parseMethodDescriptor yT_whereLies.desc).map (fun d => d.parameters.length) = some 2 := by decide +kernel
theorem hd_T_sideOfEnd : yT_sideOfEnd.cls = "NodeMaker$Tree" ∧ yT_sideOfEnd.cls ≠ "java/lang/invoke/MethodHandle" ∧ yT_sideOfEnd.cls ≠ "java/lang/invoke/VarHandle" ∧ (parseMethodDescriptor yT_sideOfEnd.desc).map (fun d => d.parameters.length) = some 4 := by decide +kernel
theorem hd_T_sideOf : yT_sideOf.cls = "NodeMaker$Tree" ∧ yT_sideOf.cls ≠ "java/lang/invoke/MethodHandle" ∧ yT_sideOf.cls ≠ "java/lang/invoke/VarHandle" ∧ (parseMethodDescriptor yT_sideOf.desc).map (fun d => d.parameters.length) = some 1 := by decide +kernel
theorem hd_T_sideBetween : yT_sideBetween.cls = "NodeMaker$Tree" ∧ yT_sideBetween.cls ≠ "java/lang/invoke/MethodHandle" ∧ yT_sideBetween.cls ≠ "java/lang/invoke/VarHandle" ∧ (parseMethodDescriptor yT_sideBetween.desc).map (fun d => d.parameters.length) = some 4 := by decide +kernel
theorem hd_T_divide : yT_divide.cls = "NodeMaker$Tree" ∧ yT_divide.cls ≠ "java/lang/invoke/MethodHandle" ∧ yT_divide.cls ≠ "java/lang/invoke/VarHandle" ∧ (parseMethodDescriptor yT_divide.desc).map (fun d => d.parameters.length) = some 3 := by decide +kernel
theorem hd_T_countSizes : yT_countSizes.cls = "NodeMaker$Tree" ∧ yT_countSizes.cls ≠ "java/lang/invoke/MethodHandle" ∧ yT_countSizes.cls ≠ "java/lang/invoke/VarHandle" ∧ (parseMethodDescriptor yT_countSizes.desc).map (fun d => d.parameters.length) = some 0 := by decide +kernel
theorem hd_T_nodesIn : yT_nodesIn.cls = "NodeMaker$Tree" ∧ yT_nodesIn.cls ≠ "java/lang/invoke/MethodHandle" ∧ yT_nodesIn.cls ≠ "java/lang/invoke/VarHandle" ∧ (parseMethodDescriptor yT_nodesIn.desc).map (fun d => d.parameters.length) = some 1 := by decide +kernel
theorem hd_T_lineOf : yT_lineOf.cls = "NodeMaker$Tree" ∧ yT_lineOf.cls ≠ "java/lang/invoke/MethodHandle" ∧ yT_lineOf.cls ≠ "java/lang/invoke/VarHandle" ∧ (parseMethodDescriptor yT_lineOf.desc).map (fun d => d.parameters.length) = some 1 := by decide +kernel
theorem hd_T_leftOf : yT_leftOf.cls = "NodeMaker$Tree" ∧ yT_leftOf.cls ≠ "java/lang/invoke/MethodHandle" ∧ yT_leftOf.cls ≠ "java/lang/invoke/VarHandle" ∧ (parseMethodDescriptor yT_leftOf.desc).map (fun d => d.parameters.length) = some 1 := by decide +kernel
theorem hd_T_rightOf : yT_rightOf.cls = "NodeMaker$Tree" ∧ yT_rightOf.cls ≠ "java/lang/invoke/MethodHandle" ∧ yT_rightOf.cls ≠ "java/lang/invoke/VarHandle" ∧ (parseMethodDescriptor yT_rightOf.desc).map (fun d => d.parameters.length) = some 1 := by decide +kernel
theorem hd_T_ownPieces : yT_ownPieces.cls = "NodeMaker$Tree" ∧ yT_ownPieces.cls ≠ "java/lang/invoke/MethodHandle" ∧ yT_ownPieces.cls ≠ "java/lang/invoke/VarHandle" ∧ (parseMethodDescriptor yT_ownPieces.desc).map (fun d => d.parameters.length) = some 1 := by decide +kernel
theorem hd_T_firstPieceFrom : yT_firstPieceFrom.cls = "NodeMaker$Tree" ∧ yT_firstPieceFrom.cls ≠ "java/lang/invoke/MethodHandle" ∧ yT_firstPieceFrom.cls ≠ "java/lang/invoke/VarHandle" ∧ (parseMethodDescriptor yT_firstPieceFrom.desc).map (fun d => d.parameters.length) = some 1 := by decide +kernel
theorem hd_T_depthOf : yT_depthOf.cls = "NodeMaker$Tree" ∧ yT_depthOf.cls ≠ "java/lang/invoke/MethodHandle" ∧ yT_depthOf.cls ≠ "java/lang/invoke/VarHandle" ∧ (parseMethodDescriptor yT_depthOf.desc).map (fun d => d.parameters.length) = some 1 := by decide +kernel
theorem hd_T_pieceAt : yT_pieceAt.cls = "NodeMaker$Tree" ∧ yT_pieceAt.cls ≠ "java/lang/invoke/MethodHandle" ∧ yT_pieceAt.cls ≠ "java/lang/invoke/VarHandle" ∧ (parseMethodDescriptor yT_pieceAt.desc).map (fun d => d.parameters.length) = some 2 := by decide +kernel
theorem hd_T_wallOfPiece : yT_wallOfPiece.cls = "NodeMaker$Tree" ∧ yT_wallOfPiece.cls ≠ "java/lang/invoke/MethodHandle" ∧ yT_wallOfPiece.cls ≠ "java/lang/invoke/VarHandle" ∧ (parseMethodDescriptor yT_wallOfPiece.desc).map (fun d => d.parameters.length) = some 1 := by decide +kernel
theorem hd_T_quotientOf : yT_quotientOf.cls = "NodeMaker$Tree" ∧ yT_quotientOf.cls ≠ "java/lang/invoke/MethodHandle" ∧ yT_quotientOf.cls ≠ "java/lang/invoke/VarHandle" ∧ (parseMethodDescriptor yT_quotientOf.desc).map (fun d => d.parameters.length) = some 3 := by decide +kernel
theorem hd_T_commonDivisor : yT_commonDivisor.cls = "NodeMaker$Tree" ∧ yT_commonDivisor.cls ≠ "java/lang/invoke/MethodHandle" ∧ yT_commonDivisor.cls ≠ "java/lang/invoke/VarHandle" ∧ (parseMethodDescriptor yT_commonDivisor.desc).map (fun d => d.parameters.length) = some 2 := by decide +kernel
theorem hd_T_leafAround : yT_leafAround.cls = "NodeMaker$Tree" ∧ yT_leafAround.cls ≠ "java/lang/invoke/MethodHandle" ∧ yT_leafAround.cls ≠ "java/lang/invoke/VarHandle" ∧ (parseMethodDescriptor yT_leafAround.desc).map (fun d => d.parameters.length) = some 2 := by decide +kernel
theorem hd_T_liesLeft : yT_liesLeft.cls = "NodeMaker$Tree" ∧ yT_liesLeft.cls ≠ "java/lang/invoke/MethodHandle" ∧ yT_liesLeft.cls ≠ "java/lang/invoke/VarHandle" ∧ (parseMethodDescriptor yT_liesLeft.desc).map (fun d => d.parameters.length) = some 3 := by decide +kernel
theorem hd_T_pieceCount : yT_pieceCount.cls = "NodeMaker$Tree" ∧ yT_pieceCount.cls ≠ "java/lang/invoke/MethodHandle" ∧ yT_pieceCount.cls ≠ "java/lang/invoke/VarHandle" ∧ (parseMethodDescriptor yT_pieceCount.desc).map (fun d => d.parameters.length) = some 0 := by decide +kernel
theorem hd_T_pieceOnWay : yT_pieceOnWay.cls = "NodeMaker$Tree" ∧ yT_pieceOnWay.cls ≠ "java/lang/invoke/MethodHandle" ∧ yT_pieceOnWay.cls ≠ "java/lang/invoke/VarHandle" ∧ (parseMethodDescriptor yT_pieceOnWay.desc).map (fun d => d.parameters.length) = some 3 := by decide +kernel
theorem hd_T_piecesIn : yT_piecesIn.cls = "NodeMaker$Tree" ∧ yT_piecesIn.cls ≠ "java/lang/invoke/MethodHandle" ∧ yT_piecesIn.cls ≠ "java/lang/invoke/VarHandle" ∧ (parseMethodDescriptor yT_piecesIn.desc).map (fun d => d.parameters.length) = some 1 := by decide +kernel
theorem hd_T_nodeOfPiece : yT_nodeOfPiece.cls = "NodeMaker$Tree" ∧ yT_nodeOfPiece.cls ≠ "java/lang/invoke/MethodHandle" ∧ yT_nodeOfPiece.cls ≠ "java/lang/invoke/VarHandle" ∧ (parseMethodDescriptor yT_nodeOfPiece.desc).map (fun d => d.parameters.length) = some 1 := by decide +kernel
theorem hd_T_placeInNode : yT_placeInNode.cls = "NodeMaker$Tree" ∧ yT_placeInNode.cls ≠ "java/lang/invoke/MethodHandle" ∧ yT_placeInNode.cls ≠ "java/lang/invoke/VarHandle" ∧ (parseMethodDescriptor yT_placeInNode.desc).map (fun d => d.parameters.length) = some 1 := by decide +kernel
theorem hd_T_wallAt : yT_wallAt.cls = "NodeMaker$Tree" ∧ yT_wallAt.cls ≠ "java/lang/invoke/MethodHandle" ∧ yT_wallAt.cls ≠ "java/lang/invoke/VarHandle" ∧ (parseMethodDescriptor yT_wallAt.desc).map (fun d => d.parameters.length) = some 1 := by decide +kernel
theorem hd_T_piecesOfWall : yT_piecesOfWall.cls = "NodeMaker$Tree" ∧ yT_piecesOfWall.cls ≠ "java/lang/invoke/MethodHandle" ∧ yT_piecesOfWall.cls ≠ "java/lang/invoke/VarHandle" ∧ (parseMethodDescriptor yT_piecesOfWall.desc).map (fun d => d.parameters.length) = some 1 := by decide +kernel
theorem hd_T_wallCount : yT_wallCount.cls = "NodeMaker$Tree" ∧ yT_wallCount.cls ≠ "java/lang/invoke/MethodHandle" ∧ yT_wallCount.cls ≠ "java/lang/invoke/VarHandle" ∧ (parseMethodDescriptor yT_wallCount.desc).map (fun d => d.parameters.length) = some 0 := by decide +kernel
theorem hd_T_nodeCount : yT_nodeCount.cls = "NodeMaker$Tree" ∧ yT_nodeCount.cls ≠ "java/lang/invoke/MethodHandle" ∧ yT_nodeCount.cls ≠ "java/lang/invoke/VarHandle" ∧ (parseMethodDescriptor yT_nodeCount.desc).map (fun d => d.parameters.length) = some 0 := by decide +kernel
theorem hd_T_height : yT_height.cls = "NodeMaker$Tree" ∧ yT_height.cls ≠ "java/lang/invoke/MethodHandle" ∧ yT_height.cls ≠ "java/lang/invoke/VarHandle" ∧ (parseMethodDescriptor yT_height.desc).map (fun d => d.parameters.length) = some 0 := by decide +kernel
theorem hd_T_init : yT_init.cls ≠ "java/lang/invoke/MethodHandle" ∧ yT_init.cls ≠ "java/lang/invoke/VarHandle" ∧ (parseMethodDescriptor yT_init.desc).map (fun d => d.parameters.length) = some 0 := by decide +kernel
def sT_nodeCount (Rw : Nat → List Int32) (Wl : Nat → Option WV)  : Int32 :=
  (nI (Rw 0).length)
set_option maxHeartbeats 4000000 in
set_option maxRecDepth 100000 in
theorem cT_nodeCount (l : Launch) (g : CX) (ad q cp : Nat → Nat) (f : Nat → Nat → Int32) (Rw : Nat → List Int32) (sl : Nat → Option Nat) (cnt h st : Int32) (LW : List Nat) (wv : Nat → WV) (hz : rowsT cp f Rw) (hsl : slOK sl LW)  : Met l yT_nodeCount (wm yT_nodeCount kT_nodeCount 1 (some .int)) ({ frames := 1, cells := 0, slots := 0, locals := 20 }) (ro g [.ref (ad 0)] (va_P g.1 vwCl (TW g ad q cp f Rw sl cnt h st LW wv))) (vp_Si (fun r => r = sT_nodeCount Rw (wOf sl wv) )) 0 0 (fun _ => False) := by
  refine Met.ofW (cc := kT_nodeCount) (maxL := 1) (ret := (some .int)) (by decide) rfl ?_
  intro p e s m args below meth c s₁ B hml hv
  obtain ⟨rfl, hK, hP⟩ := hv
  have hx := B.exec
  have hb := B.bytes
  have hr := B.returns
  have ht : ∀ w ∈ wT, w.before _ s = true := fun w h => atoms_spec (ws := wm yT_nodeCount kT_nodeCount 1 (some .int)) B.pre w (List.mem_cons_of_mem _ h)
  have hown : s.vm.findClass "NodeMaker$Tree" = some m.cls := findClass_of_methodNamed B.named
  have hlocks := B.notSynchronized
  have hl := lv_entry ([.ref (ad 0)]) (n := 1) (Nat.le_of_ble_eq_true rfl)
  rw [lg_entry_eq]
  generalize (lg_sl ([.ref (ad 0)]) ++ List.replicate (1 - (lg_sl ([.ref (ad 0)])).length) Slot.unset).toArray = ls at hl ⊢
  have hl : lv_has ls 1 [(0, .ref (ad 0))] := hl
  refine lv_aload_n hx hb dT_nodeCount_0 rfl (lv_at hl 0 rfl) ?_
  refine va_get (D := g.1) (ci := 4) (v := .ref (ad 6)) (C := "NodeMaker$Tree") (T := Fd_T) (N := 16) hx hb ht i_T hown hK.1 hP 0 rfl rfl 1 (by decide) (ht _ q_106) (fun _ h9 => h9) rfl dT_nodeCount_1 ?_
  have hPc := hP.sub (ws' := rowW g (ad 6) (q 0) (cp 0) (f 0) (Rw 0).length) [6, 7] rfl
  refine ro_Vi (v := nI (Rw 0).length) (As := []) (rest := []) ⟨hx, hb, hml, hown, ht⟩ (cR_count l g (ad 6) (q 0) (cp 0) (f 0) (Rw 0)) (cwV 0 ht (g_V q_320 q_312 q_313 q_37 q_314) rfl rfl rfl hd_R_count ⟨Nat.le_of_ble_eq_true rfl, Nat.le_of_ble_eq_true rfl⟩) hK (hPc) (va_recv hK.1 hPc (ci := 0) (q0 := 0) rfl rfl) rfl hl.1 rfl (Nat.le_of_ble_eq_true rfl) dT_nodeCount_4 ⟨by show 0 ≤ 0; omega, by show 0 ≤ 0; omega⟩ ?_
  exact W.iret hx hb hr (fun t ht9 hW => ⟨_, rfl, rfl, ht9⟩) (fun q h => by cases h) dT_nodeCount_7
def sT_pieceCount (Rw : Nat → List Int32) (Wl : Nat → Option WV)  : Int32 :=
  (nI (Rw 6).length)
set_option maxHeartbeats 4000000 in
set_option maxRecDepth 100000 in
theorem cT_pieceCount (l : Launch) (g : CX) (ad q cp : Nat → Nat) (f : Nat → Nat → Int32) (Rw : Nat → List Int32) (sl : Nat → Option Nat) (cnt h st : Int32) (LW : List Nat) (wv : Nat → WV) (hz : rowsT cp f Rw) (hsl : slOK sl LW)  : Met l yT_pieceCount (wm yT_pieceCount kT_pieceCount 1 (some .int)) ({ frames := 2, cells := 0, slots := 0, locals := 40 }) (ro g [.ref (ad 0)] (va_P g.1 vwCl (TW g ad q cp f Rw sl cnt h st LW wv))) (vp_Si (fun r => r = sT_pieceCount Rw (wOf sl wv) )) 0 0 (fun _ => False) := by
  refine Met.ofW (cc := kT_pieceCount) (maxL := 1) (ret := (some .int)) (by decide) rfl ?_
  intro p e s m args below meth c s₁ B hml hv
  obtain ⟨rfl, hK, hP⟩ := hv
  have hx := B.exec
  have hb := B.bytes
  have hr := B.returns
  have ht : ∀ w ∈ wT, w.before _ s = true := fun w h => atoms_spec (ws := wm yT_pieceCount kT_pieceCount 1 (some .int)) B.pre w (List.mem_cons_of_mem _ h)
  have hown : s.vm.findClass "NodeMaker$Tree" = some m.cls := findClass_of_methodNamed B.named
  have hlocks := B.notSynchronized
  have hl := lv_entry ([.ref (ad 0)]) (n := 1) (Nat.le_of_ble_eq_true rfl)
  rw [lg_entry_eq]
  generalize (lg_sl ([.ref (ad 0)]) ++ List.replicate (1 - (lg_sl ([.ref (ad 0)])).length) Slot.unset).toArray = ls at hl ⊢
  have hl : lv_has ls 1 [(0, .ref (ad 0))] := hl
  refine lv_aload_n hx hb dT_pieceCount_0 rfl (lv_at hl 0 rfl) ?_
  refine va_get (D := g.1) (ci := 4) (v := .ref (ad 3)) (C := "NodeMaker$Tree") (T := Fd_T) (N := 16) hx hb ht i_T hown hK.1 hP 0 rfl rfl 7 (by decide) (ht _ q_112) (fun _ h9 => h9) rfl dT_pieceCount_1 ?_
  have hPc := hP.sub (ws' := (piW g (ad 3) (fun k => ad (12 + k)) (fun k => q (6 + k)) (fun k => cp (6 + k)) (fun k => f (6 + k)) (fun k => (Rw (6 + k)).length))) [3, 18, 19, 20, 21, 22, 23] rfl
  refine ro_Vi (v := nI (Rw 6).length) (As := []) (rest := []) ⟨hx, hb, hml, hown, ht⟩ (cP_count l g (ad 3) (fun k => ad (12 + k)) (fun k => q (6 + k)) (fun k => cp (6 + k)) (fun k => f (6 + k)) (fun k => Rw (6 + k)) (rows_3 6 (by decide) hz) ) (cwV 0 ht (g_V q_307 q_308 q_309 q_38 q_310) rfl rfl rfl hd_P_count ⟨Nat.le_of_ble_eq_true rfl, Nat.le_of_ble_eq_true rfl⟩) hK (hPc) (va_recv hK.1 hPc (ci := 1) (q0 := 0) rfl rfl) rfl hl.1 rfl (Nat.le_of_ble_eq_true rfl) dT_pieceCount_4 ⟨by show 0 ≤ 0; omega, by show 0 ≤ 0; omega⟩ ?_
  exact W.iret hx hb hr (fun t ht9 hW => ⟨_, rfl, rfl, ht9⟩) (fun q h => by cases h) dT_pieceCount_7
def sT_hasNode (Rw : Nat → List Int32) (Wl : Nat → Option WV) (k : Int32) : Int32 :=
  if k < 0 then
    0
  else
    if (nI (Rw 0).length) ≤ k then
      0
    else
      1
set_option maxHeartbeats 4000000 in
set_option maxRecDepth 100000 in
theorem cT_hasNode (l : Launch) (g : CX) (ad q cp : Nat → Nat) (f : Nat → Nat → Int32) (Rw : Nat → List Int32) (sl : Nat → Option Nat) (cnt h st : Int32) (LW : List Nat) (wv : Nat → WV) (hz : rowsT cp f Rw) (hsl : slOK sl LW) (k : Int32) : Met l yT_hasNode (wm yT_hasNode kT_hasNode 2 (some .boolean)) ({ frames := 1, cells := 0, slots := 0, locals := 20 }) (ro g [.ref (ad 0), .int k] (va_P g.1 vwCl (TW g ad q cp f Rw sl cnt h st LW wv))) (vp_Si (fun r => r = sT_hasNode Rw (wOf sl wv) k)) 0 0 (fun _ => False) := by
  refine Met.ofW (cc := kT_hasNode) (maxL := 2) (ret := (some .boolean)) (by decide) rfl ?_
  intro p e s m args below meth c s₁ B hml hv
  obtain ⟨rfl, hK, hP⟩ := hv
  have hx := B.exec
  have hb := B.bytes
  have hr := B.returns
  have ht : ∀ w ∈ wT, w.before _ s = true := fun w h => atoms_spec (ws := wm yT_hasNode kT_hasNode 2 (some .boolean)) B.pre w (List.mem_cons_of_mem _ h)
  have hown : s.vm.findClass "NodeMaker$Tree" = some m.cls := findClass_of_methodNamed B.named
  have hlocks := B.notSynchronized
  have hl := lv_entry ([.ref (ad 0), .int k]) (n := 2) (Nat.le_of_ble_eq_true rfl)
  rw [lg_entry_eq]
  generalize (lg_sl ([.ref (ad 0), .int k]) ++ List.replicate (2 - (lg_sl ([.ref (ad 0), .int k])).length) Slot.unset).toArray = ls at hl ⊢
  have hl : lv_has ls 2 [(0, .ref (ad 0)), (1, .int k)] := hl
  refine lv_iload_n hx hb dT_hasNode_0 rfl (lv_at hl 1 rfl) ?_
  refine lv_if_lt (tgt := 19) hx hb dT_hasNode_1 (by decide) (fun c_1 => ?_) (fun c_1 => ?_)
  · skip
    refine lv_iconst (v := 0) hx hb dT_hasNode_19 (by decide) ?_
    exact W.zret hx hb hr rfl (fun t ht9 hW => ⟨_, rfl, by rw [sT_hasNode, if_pos c_1], ht9⟩) (fun q h => by cases h) dT_hasNode_20
  · skip
    refine lv_iload_n hx hb dT_hasNode_4 rfl (lv_at hl 1 rfl) ?_
    refine lv_aload_n hx hb dT_hasNode_5 rfl (lv_at hl 0 rfl) ?_
    refine va_get (D := g.1) (ci := 4) (v := .ref (ad 6)) (C := "NodeMaker$Tree") (T := Fd_T) (N := 16) hx hb ht i_T hown hK.1 hP 0 rfl rfl 1 (by decide) (ht _ q_106) (fun _ h9 => h9) rfl dT_hasNode_6 ?_
    have hPc := hP.sub (ws' := rowW g (ad 6) (q 0) (cp 0) (f 0) (Rw 0).length) [6, 7] rfl
    refine ro_Vi (v := nI (Rw 0).length) (As := []) (rest := [.int k]) ⟨hx, hb, hml, hown, ht⟩ (cR_count l g (ad 6) (q 0) (cp 0) (f 0) (Rw 0)) (cwV 0 ht (g_V q_320 q_312 q_313 q_37 q_314) rfl rfl rfl hd_R_count ⟨Nat.le_of_ble_eq_true rfl, Nat.le_of_ble_eq_true rfl⟩) hK (hPc) (va_recv hK.1 hPc (ci := 0) (q0 := 0) rfl rfl) rfl hl.1 rfl (Nat.le_of_ble_eq_true rfl) dT_hasNode_9 ⟨by show 0 ≤ 0; omega, by show 0 ≤ 0; omega⟩ ?_
    refine lv_icmp_ge (tgt := 19) hx hb dT_hasNode_12 (by decide) (fun c_2 => ?_) (fun c_2 => ?_)
    · skip
      refine lv_iconst (v := 0) hx hb dT_hasNode_19 (by decide) ?_
      exact W.zret hx hb hr rfl (fun t ht9 hW => ⟨_, rfl, by rw [sT_hasNode, if_neg c_1, if_pos c_2], ht9⟩) (fun q h => by cases h) dT_hasNode_20
    · skip
      refine lv_iconst (v := 1) hx hb dT_hasNode_15 (by decide) ?_
      refine lv_goto (tgt := 20) hx hb dT_hasNode_16 (by decide) ?_
      exact W.zret hx hb hr rfl (fun t ht9 hW => ⟨_, rfl, by rw [sT_hasNode, if_neg c_1, if_neg c_2], ht9⟩) (fun q h => by cases h) dT_hasNode_20
def sT_lineOf (Rw : Nat → List Int32) (Wl : Nat → Option WV) (k : Int32) : Int32 :=
  (rAt (Rw 0) k)
set_option maxHeartbeats 4000000 in
set_option maxRecDepth 100000 in
theorem cT_lineOf (l : Launch) (g : CX) (ad q cp : Nat → Nat) (f : Nat → Nat → Int32) (Rw : Nat → List Int32) (sl : Nat → Option Nat) (cnt h st : Int32) (LW : List Nat) (wv : Nat → WV) (hz : rowsT cp f Rw) (hsl : slOK sl LW) (k : Int32) : Met l yT_lineOf (wm yT_lineOf kT_lineOf 2 (some .int)) ({ frames := 1, cells := 0, slots := 0, locals := 21 }) (ro g [.ref (ad 0), .int k] (va_P g.1 vwCl (TW g ad q cp f Rw sl cnt h st LW wv))) (vp_Si (fun r => r = sT_lineOf Rw (wOf sl wv) k)) 0 0 (fun _ => False) := by
  refine Met.ofW (cc := kT_lineOf) (maxL := 2) (ret := (some .int)) (by decide) rfl ?_
  intro p e s m args below meth c s₁ B hml hv
  obtain ⟨rfl, hK, hP⟩ := hv
  have hx := B.exec
  have hb := B.bytes
  have hr := B.returns
  have ht : ∀ w ∈ wT, w.before _ s = true := fun w h => atoms_spec (ws := wm yT_lineOf kT_lineOf 2 (some .int)) B.pre w (List.mem_cons_of_mem _ h)
  have hown : s.vm.findClass "NodeMaker$Tree" = some m.cls := findClass_of_methodNamed B.named
  have hlocks := B.notSynchronized
  have hl := lv_entry ([.ref (ad 0), .int k]) (n := 2) (Nat.le_of_ble_eq_true rfl)
  rw [lg_entry_eq]
  generalize (lg_sl ([.ref (ad 0), .int k]) ++ List.replicate (2 - (lg_sl ([.ref (ad 0), .int k])).length) Slot.unset).toArray = ls at hl ⊢
  have hl : lv_has ls 2 [(0, .ref (ad 0)), (1, .int k)] := hl
  refine lv_aload_n hx hb dT_lineOf_0 rfl (lv_at hl 0 rfl) ?_
  refine va_get (D := g.1) (ci := 4) (v := .ref (ad 6)) (C := "NodeMaker$Tree") (T := Fd_T) (N := 16) hx hb ht i_T hown hK.1 hP 0 rfl rfl 1 (by decide) (ht _ q_106) (fun _ h9 => h9) rfl dT_lineOf_1 ?_
  refine lv_iload_n hx hb dT_lineOf_4 rfl (lv_at hl 1 rfl) ?_
  have hPc := hP.sub (ws' := rowW g (ad 6) (q 0) (cp 0) (f 0) (Rw 0).length) [6, 7] rfl
  refine ro_Vi (v := rAt (Rw 0) k) (As := [.int k]) (rest := []) ⟨hx, hb, hml, hown, ht⟩ (cR_at l g (ad 6) (q 0) (cp 0) (f 0) (Rw 0) (hz 0 (by decide)) k) (cwV 1 ht (g_V q_325 q_326 q_327 q_37 q_328) rfl rfl rfl hd_R_at ⟨Nat.le_of_ble_eq_true rfl, Nat.le_of_ble_eq_true rfl⟩) hK (hPc) (va_recv hK.1 hPc (ci := 0) (q0 := 0) rfl rfl) rfl hl.1 rfl (Nat.le_of_ble_eq_true rfl) dT_lineOf_5 ⟨by show 0 ≤ 0; omega, by show 0 ≤ 0; omega⟩ ?_
  exact W.iret hx hb hr (fun t ht9 hW => ⟨_, rfl, rfl, ht9⟩) (fun q h => by cases h) dT_lineOf_8
def sT_leftOf (Rw : Nat → List Int32) (Wl : Nat → Option WV) (k : Int32) : Int32 :=
  (rAt (Rw 1) k)
set_option maxHeartbeats 4000000 in
set_option maxRecDepth 100000 in
theorem cT_leftOf (l : Launch) (g : CX) (ad q cp : Nat → Nat) (f : Nat → Nat → Int32) (Rw : Nat → List Int32) (sl : Nat → Option Nat) (cnt h st : Int32) (LW : List Nat) (wv : Nat → WV) (hz : rowsT cp f Rw) (hsl : slOK sl LW) (k : Int32) : Met l yT_leftOf (wm yT_leftOf kT_leftOf 2 (some .int)) ({ frames := 1, cells := 0, slots := 0, locals := 21 }) (ro g [.ref (ad 0), .int k] (va_P g.1 vwCl (TW g ad q cp f Rw sl cnt h st LW wv))) (vp_Si (fun r => r = sT_leftOf Rw (wOf sl wv) k)) 0 0 (fun _ => False) := by
  refine Met.ofW (cc := kT_leftOf) (maxL := 2) (ret := (some .int)) (by decide) rfl ?_
  intro p e s m args below meth c s₁ B hml hv
  obtain ⟨rfl, hK, hP⟩ := hv
  have hx := B.exec
  have hb := B.bytes
  have hr := B.returns
  have ht : ∀ w ∈ wT, w.before _ s = true := fun w h => atoms_spec (ws := wm yT_leftOf kT_leftOf 2 (some .int)) B.pre w (List.mem_cons_of_mem _ h)
  have hown : s.vm.findClass "NodeMaker$Tree" = some m.cls := findClass_of_methodNamed B.named
  have hlocks := B.notSynchronized
  have hl := lv_entry ([.ref (ad 0), .int k]) (n := 2) (Nat.le_of_ble_eq_true rfl)
  rw [lg_entry_eq]
  generalize (lg_sl ([.ref (ad 0), .int k]) ++ List.replicate (2 - (lg_sl ([.ref (ad 0), .int k])).length) Slot.unset).toArray = ls at hl ⊢
  have hl : lv_has ls 2 [(0, .ref (ad 0)), (1, .int k)] := hl
  refine lv_aload_n hx hb dT_leftOf_0 rfl (lv_at hl 0 rfl) ?_
  refine va_get (D := g.1) (ci := 4) (v := .ref (ad 7)) (C := "NodeMaker$Tree") (T := Fd_T) (N := 16) hx hb ht i_T hown hK.1 hP 0 rfl rfl 2 (by decide) (ht _ q_107) (fun _ h9 => h9) rfl dT_leftOf_1 ?_
  refine lv_iload_n hx hb dT_leftOf_4 rfl (lv_at hl 1 rfl) ?_
  have hPc := hP.sub (ws' := rowW g (ad 7) (q 1) (cp 1) (f 1) (Rw 1).length) [8, 9] rfl
  refine ro_Vi (v := rAt (Rw 1) k) (As := [.int k]) (rest := []) ⟨hx, hb, hml, hown, ht⟩ (cR_at l g (ad 7) (q 1) (cp 1) (f 1) (Rw 1) (hz 1 (by decide)) k) (cwV 1 ht (g_V q_325 q_326 q_327 q_37 q_328) rfl rfl rfl hd_R_at ⟨Nat.le_of_ble_eq_true rfl, Nat.le_of_ble_eq_true rfl⟩) hK (hPc) (va_recv hK.1 hPc (ci := 0) (q0 := 0) rfl rfl) rfl hl.1 rfl (Nat.le_of_ble_eq_true rfl) dT_leftOf_5 ⟨by show 0 ≤ 0; omega, by show 0 ≤ 0; omega⟩ ?_
  exact W.iret hx hb hr (fun t ht9 hW => ⟨_, rfl, rfl, ht9⟩) (fun q h => by cases h) dT_leftOf_8
def sT_rightOf (Rw : Nat → List Int32) (Wl : Nat → Option WV) (k : Int32) : Int32 :=
  (rAt (Rw 2) k)
set_option maxHeartbeats 4000000 in
set_option maxRecDepth 100000 in
theorem cT_rightOf (l : Launch) (g : CX) (ad q cp : Nat → Nat) (f : Nat → Nat → Int32) (Rw : Nat → List Int32) (sl : Nat → Option Nat) (cnt h st : Int32) (LW : List Nat) (wv : Nat → WV) (hz : rowsT cp f Rw) (hsl : slOK sl LW) (k : Int32) : Met l yT_rightOf (wm yT_rightOf kT_rightOf 2 (some .int)) ({ frames := 1, cells := 0, slots := 0, locals := 21 }) (ro g [.ref (ad 0), .int k] (va_P g.1 vwCl (TW g ad q cp f Rw sl cnt h st LW wv))) (vp_Si (fun r => r = sT_rightOf Rw (wOf sl wv) k)) 0 0 (fun _ => False) := by
  refine Met.ofW (cc := kT_rightOf) (maxL := 2) (ret := (some .int)) (by decide) rfl ?_
  intro p e s m args below meth c s₁ B hml hv
  obtain ⟨rfl, hK, hP⟩ := hv
  have hx := B.exec
  have hb := B.bytes
  have hr := B.returns
  have ht : ∀ w ∈ wT, w.before _ s = true := fun w h => atoms_spec (ws := wm yT_rightOf kT_rightOf 2 (some .int)) B.pre w (List.mem_cons_of_mem _ h)
  have hown : s.vm.findClass "NodeMaker$Tree" = some m.cls := findClass_of_methodNamed B.named
  have hlocks := B.notSynchronized
  have hl := lv_entry ([.ref (ad 0), .int k]) (n := 2) (Nat.le_of_ble_eq_true rfl)
  rw [lg_entry_eq]
  generalize (lg_sl ([.ref (ad 0), .int k]) ++ List.replicate (2 - (lg_sl ([.ref (ad 0), .int k])).length) Slot.unset).toArray = ls at hl ⊢
  have hl : lv_has ls 2 [(0, .ref (ad 0)), (1, .int k)] := hl
  refine lv_aload_n hx hb dT_rightOf_0 rfl (lv_at hl 0 rfl) ?_
  refine va_get (D := g.1) (ci := 4) (v := .ref (ad 8)) (C := "NodeMaker$Tree") (T := Fd_T) (N := 16) hx hb ht i_T hown hK.1 hP 0 rfl rfl 3 (by decide) (ht _ q_108) (fun _ h9 => h9) rfl dT_rightOf_1 ?_
  refine lv_iload_n hx hb dT_rightOf_4 rfl (lv_at hl 1 rfl) ?_
  have hPc := hP.sub (ws' := rowW g (ad 8) (q 2) (cp 2) (f 2) (Rw 2).length) [10, 11] rfl
  refine ro_Vi (v := rAt (Rw 2) k) (As := [.int k]) (rest := []) ⟨hx, hb, hml, hown, ht⟩ (cR_at l g (ad 8) (q 2) (cp 2) (f 2) (Rw 2) (hz 2 (by decide)) k) (cwV 1 ht (g_V q_325 q_326 q_327 q_37 q_328) rfl rfl rfl hd_R_at ⟨Nat.le_of_ble_eq_true rfl, Nat.le_of_ble_eq_true rfl⟩) hK (hPc) (va_recv hK.1 hPc (ci := 0) (q0 := 0) rfl rfl) rfl hl.1 rfl (Nat.le_of_ble_eq_true rfl) dT_rightOf_5 ⟨by show 0 ≤ 0; omega, by show 0 ≤ 0; omega⟩ ?_
  exact W.iret hx hb hr (fun t ht9 hW => ⟨_, rfl, rfl, ht9⟩) (fun q h => by cases h) dT_rightOf_8
def sT_depthOf (Rw : Nat → List Int32) (Wl : Nat → Option WV) (k : Int32) : Int32 :=
  (rAt (Rw 4) k)
set_option maxHeartbeats 4000000 in
set_option maxRecDepth 100000 in
theorem cT_depthOf (l : Launch) (g : CX) (ad q cp : Nat → Nat) (f : Nat → Nat → Int32) (Rw : Nat → List Int32) (sl : Nat → Option Nat) (cnt h st : Int32) (LW : List Nat) (wv : Nat → WV) (hz : rowsT cp f Rw) (hsl : slOK sl LW) (k : Int32) : Met l yT_depthOf (wm yT_depthOf kT_depthOf 2 (some .int)) ({ frames := 1, cells := 0, slots := 0, locals := 21 }) (ro g [.ref (ad 0), .int k] (va_P g.1 vwCl (TW g ad q cp f Rw sl cnt h st LW wv))) (vp_Si (fun r => r = sT_depthOf Rw (wOf sl wv) k)) 0 0 (fun _ => False) := by
  refine Met.ofW (cc := kT_depthOf) (maxL := 2) (ret := (some .int)) (by decide) rfl ?_
  intro p e s m args below meth c s₁ B hml hv
  obtain ⟨rfl, hK, hP⟩ := hv
  have hx := B.exec
  have hb := B.bytes
  have hr := B.returns
  have ht : ∀ w ∈ wT, w.before _ s = true := fun w h => atoms_spec (ws := wm yT_depthOf kT_depthOf 2 (some .int)) B.pre w (List.mem_cons_of_mem _ h)
  have hown : s.vm.findClass "NodeMaker$Tree" = some m.cls := findClass_of_methodNamed B.named
  have hlocks := B.notSynchronized
  have hl := lv_entry ([.ref (ad 0), .int k]) (n := 2) (Nat.le_of_ble_eq_true rfl)
  rw [lg_entry_eq]
  generalize (lg_sl ([.ref (ad 0), .int k]) ++ List.replicate (2 - (lg_sl ([.ref (ad 0), .int k])).length) Slot.unset).toArray = ls at hl ⊢
  have hl : lv_has ls 2 [(0, .ref (ad 0)), (1, .int k)] := hl
  refine lv_aload_n hx hb dT_depthOf_0 rfl (lv_at hl 0 rfl) ?_
  refine va_get (D := g.1) (ci := 4) (v := .ref (ad 10)) (C := "NodeMaker$Tree") (T := Fd_T) (N := 16) hx hb ht i_T hown hK.1 hP 0 rfl rfl 5 (by decide) (ht _ q_110) (fun _ h9 => h9) rfl dT_depthOf_1 ?_
  refine lv_iload_n hx hb dT_depthOf_4 rfl (lv_at hl 1 rfl) ?_
  have hPc := hP.sub (ws' := rowW g (ad 10) (q 4) (cp 4) (f 4) (Rw 4).length) [14, 15] rfl
  refine ro_Vi (v := rAt (Rw 4) k) (As := [.int k]) (rest := []) ⟨hx, hb, hml, hown, ht⟩ (cR_at l g (ad 10) (q 4) (cp 4) (f 4) (Rw 4) (hz 4 (by decide)) k) (cwV 1 ht (g_V q_325 q_326 q_327 q_37 q_328) rfl rfl rfl hd_R_at ⟨Nat.le_of_ble_eq_true rfl, Nat.le_of_ble_eq_true rfl⟩) hK (hPc) (va_recv hK.1 hPc (ci := 0) (q0 := 0) rfl rfl) rfl hl.1 rfl (Nat.le_of_ble_eq_true rfl) dT_depthOf_5 ⟨by show 0 ≤ 0; omega, by show 0 ≤ 0; omega⟩ ?_
  exact W.iret hx hb hr (fun t ht9 hW => ⟨_, rfl, rfl, ht9⟩) (fun q h => by cases h) dT_depthOf_8
def sT_nodesIn (Rw : Nat → List Int32) (Wl : Nat → Option WV) (k : Int32) : Int32 :=
  if (sT_hasNode Rw Wl k) = 0 then
    0
  else
    (rAt (Rw 3) k)
set_option maxHeartbeats 4000000 in
set_option maxRecDepth 100000 in
theorem cT_nodesIn (l : Launch) (g : CX) (ad q cp : Nat → Nat) (f : Nat → Nat → Int32) (Rw : Nat → List Int32) (sl : Nat → Option Nat) (cnt h st : Int32) (LW : List Nat) (wv : Nat → WV) (hz : rowsT cp f Rw) (hsl : slOK sl LW) (k : Int32) : Met l yT_nodesIn (wm yT_nodesIn kT_nodesIn 2 (some .int)) ({ frames := 2, cells := 0, slots := 0, locals := 41 }) (ro g [.ref (ad 0), .int k] (va_P g.1 vwCl (TW g ad q cp f Rw sl cnt h st LW wv))) (vp_Si (fun r => r = sT_nodesIn Rw (wOf sl wv) k)) 0 0 (fun _ => False) := by
  refine Met.ofW (cc := kT_nodesIn) (maxL := 2) (ret := (some .int)) (by decide) rfl ?_
  intro p e s m args below meth c s₁ B hml hv
  obtain ⟨rfl, hK, hP⟩ := hv
  have hx := B.exec
  have hb := B.bytes
  have hr := B.returns
  have ht : ∀ w ∈ wT, w.before _ s = true := fun w h => atoms_spec (ws := wm yT_nodesIn kT_nodesIn 2 (some .int)) B.pre w (List.mem_cons_of_mem _ h)
  have hown : s.vm.findClass "NodeMaker$Tree" = some m.cls := findClass_of_methodNamed B.named
  have hlocks := B.notSynchronized
  have hl := lv_entry ([.ref (ad 0), .int k]) (n := 2) (Nat.le_of_ble_eq_true rfl)
  rw [lg_entry_eq]
  generalize (lg_sl ([.ref (ad 0), .int k]) ++ List.replicate (2 - (lg_sl ([.ref (ad 0), .int k])).length) Slot.unset).toArray = ls at hl ⊢
  have hl : lv_has ls 2 [(0, .ref (ad 0)), (1, .int k)] := hl
  refine lv_aload_n hx hb dT_nodesIn_0 rfl (lv_at hl 0 rfl) ?_
  refine lv_iload_n hx hb dT_nodesIn_1 rfl (lv_at hl 1 rfl) ?_
  refine ro_Vi (v := sT_hasNode Rw (wOf sl wv) k) (As := [.int k]) (rest := []) ⟨hx, hb, hml, hown, ht⟩ (cT_hasNode l g ad q cp f Rw sl cnt h st LW wv hz hsl k) (cwV 1 ht (g_V q_333 q_334 q_335 q_35 q_336) rfl rfl rfl hd_T_hasNode ⟨Nat.le_of_ble_eq_true rfl, Nat.le_of_ble_eq_true rfl⟩) hK (hP) (va_recv hK.1 hP (ci := 4) (q0 := 0) rfl rfl) rfl hl.1 rfl (Nat.le_of_ble_eq_true rfl) dT_nodesIn_2 ⟨by show 0 ≤ 0; omega, by show 0 ≤ 0; omega⟩ ?_
  refine lv_if_eq (tgt := 19) hx hb dT_nodesIn_5 (by decide) (fun c_3 => ?_) (fun c_3 => ?_)
  · skip
    refine lv_iconst (v := 0) hx hb dT_nodesIn_19 (by decide) ?_
    exact W.iret hx hb hr (fun t ht9 hW => ⟨_, rfl, by rw [sT_nodesIn, if_pos c_3], ht9⟩) (fun q h => by cases h) dT_nodesIn_20
  · skip
    refine lv_aload_n hx hb dT_nodesIn_8 rfl (lv_at hl 0 rfl) ?_
    refine va_get (D := g.1) (ci := 4) (v := .ref (ad 9)) (C := "NodeMaker$Tree") (T := Fd_T) (N := 16) hx hb ht i_T hown hK.1 hP 0 rfl rfl 4 (by decide) (ht _ q_109) (fun _ h9 => h9) rfl dT_nodesIn_9 ?_
    refine lv_iload_n hx hb dT_nodesIn_12 rfl (lv_at hl 1 rfl) ?_
    have hPc := hP.sub (ws' := rowW g (ad 9) (q 3) (cp 3) (f 3) (Rw 3).length) [12, 13] rfl
    refine ro_Vi (v := rAt (Rw 3) k) (As := [.int k]) (rest := []) ⟨hx, hb, hml, hown, ht⟩ (cR_at l g (ad 9) (q 3) (cp 3) (f 3) (Rw 3) (hz 3 (by decide)) k) (cwV 1 ht (g_V q_325 q_326 q_327 q_37 q_328) rfl rfl rfl hd_R_at ⟨Nat.le_of_ble_eq_true rfl, Nat.le_of_ble_eq_true rfl⟩) hK (hPc) (va_recv hK.1 hPc (ci := 0) (q0 := 0) rfl rfl) rfl hl.1 rfl (Nat.le_of_ble_eq_true rfl) dT_nodesIn_13 ⟨by show 0 ≤ 0; omega, by show 0 ≤ 0; omega⟩ ?_
    refine lv_goto (tgt := 20) hx hb dT_nodesIn_16 (by decide) ?_
    exact W.iret hx hb hr (fun t ht9 hW => ⟨_, rfl, by rw [sT_nodesIn, if_neg c_3], ht9⟩) (fun q h => by cases h) dT_nodesIn_20
def sT_firstPieceFrom (Rw : Nat → List Int32) (Wl : Nat → Option WV) (k : Int32) : Int32 :=
  if (sT_hasNode Rw Wl k) = 0 then
    (nI (Rw 6).length)
  else
    (rAt (Rw 5) k)
set_option maxHeartbeats 4000000 in
set_option maxRecDepth 100000 in
theorem cT_firstPieceFrom (l : Launch) (g : CX) (ad q cp : Nat → Nat) (f : Nat → Nat → Int32) (Rw : Nat → List Int32) (sl : Nat → Option Nat) (cnt h st : Int32) (LW : List Nat) (wv : Nat → WV) (hz : rowsT cp f Rw) (hsl : slOK sl LW) (k : Int32) : Met l yT_firstPieceFrom (wm yT_firstPieceFrom kT_firstPieceFrom 2 (some .int)) ({ frames := 2, cells := 0, slots := 0, locals := 41 }) (ro g [.ref (ad 0), .int k] (va_P g.1 vwCl (TW g ad q cp f Rw sl cnt h st LW wv))) (vp_Si (fun r => r = sT_firstPieceFrom Rw (wOf sl wv) k)) 0 0 (fun _ => False) := by
  refine Met.ofW (cc := kT_firstPieceFrom) (maxL := 2) (ret := (some .int)) (by decide) rfl ?_
  intro p e s m args below meth c s₁ B hml hv
  obtain ⟨rfl, hK, hP⟩ := hv
  have hx := B.exec
  have hb := B.bytes
  have hr := B.returns
  have ht : ∀ w ∈ wT, w.before _ s = true := fun w h => atoms_spec (ws := wm yT_firstPieceFrom kT_firstPieceFrom 2 (some .int)) B.pre w (List.mem_cons_of_mem _ h)
  have hown : s.vm.findClass "NodeMaker$Tree" = some m.cls := findClass_of_methodNamed B.named
  have hlocks := B.notSynchronized
  have hl := lv_entry ([.ref (ad 0), .int k]) (n := 2) (Nat.le_of_ble_eq_true rfl)
  rw [lg_entry_eq]
  generalize (lg_sl ([.ref (ad 0), .int k]) ++ List.replicate (2 - (lg_sl ([.ref (ad 0), .int k])).length) Slot.unset).toArray = ls at hl ⊢
  have hl : lv_has ls 2 [(0, .ref (ad 0)), (1, .int k)] := hl
  refine lv_aload_n hx hb dT_firstPieceFrom_0 rfl (lv_at hl 0 rfl) ?_
  refine lv_iload_n hx hb dT_firstPieceFrom_1 rfl (lv_at hl 1 rfl) ?_
  refine ro_Vi (v := sT_hasNode Rw (wOf sl wv) k) (As := [.int k]) (rest := []) ⟨hx, hb, hml, hown, ht⟩ (cT_hasNode l g ad q cp f Rw sl cnt h st LW wv hz hsl k) (cwV 1 ht (g_V q_333 q_334 q_335 q_35 q_336) rfl rfl rfl hd_T_hasNode ⟨Nat.le_of_ble_eq_true rfl, Nat.le_of_ble_eq_true rfl⟩) hK (hP) (va_recv hK.1 hP (ci := 4) (q0 := 0) rfl rfl) rfl hl.1 rfl (Nat.le_of_ble_eq_true rfl) dT_firstPieceFrom_2 ⟨by show 0 ≤ 0; omega, by show 0 ≤ 0; omega⟩ ?_
  refine lv_if_eq (tgt := 19) hx hb dT_firstPieceFrom_5 (by decide) (fun c_4 => ?_) (fun c_4 => ?_)
  · skip
    refine lv_aload_n hx hb dT_firstPieceFrom_19 rfl (lv_at hl 0 rfl) ?_
    refine va_get (D := g.1) (ci := 4) (v := .ref (ad 3)) (C := "NodeMaker$Tree") (T := Fd_T) (N := 16) hx hb ht i_T hown hK.1 hP 0 rfl rfl 7 (by decide) (ht _ q_112) (fun _ h9 => h9) rfl dT_firstPieceFrom_20 ?_
    have hPc := hP.sub (ws' := (piW g (ad 3) (fun k => ad (12 + k)) (fun k => q (6 + k)) (fun k => cp (6 + k)) (fun k => f (6 + k)) (fun k => (Rw (6 + k)).length))) [3, 18, 19, 20, 21, 22, 23] rfl
    refine ro_Vi (v := nI (Rw 6).length) (As := []) (rest := []) ⟨hx, hb, hml, hown, ht⟩ (cP_count l g (ad 3) (fun k => ad (12 + k)) (fun k => q (6 + k)) (fun k => cp (6 + k)) (fun k => f (6 + k)) (fun k => Rw (6 + k)) (rows_3 6 (by decide) hz) ) (cwV 0 ht (g_V q_307 q_308 q_309 q_38 q_310) rfl rfl rfl hd_P_count ⟨Nat.le_of_ble_eq_true rfl, Nat.le_of_ble_eq_true rfl⟩) hK (hPc) (va_recv hK.1 hPc (ci := 1) (q0 := 0) rfl rfl) rfl hl.1 rfl (Nat.le_of_ble_eq_true rfl) dT_firstPieceFrom_23 ⟨by show 0 ≤ 0; omega, by show 0 ≤ 0; omega⟩ ?_
    exact W.iret hx hb hr (fun t ht9 hW => ⟨_, rfl, by rw [sT_firstPieceFrom, if_pos c_4], ht9⟩) (fun q h => by cases h) dT_firstPieceFrom_26
  · skip
    refine lv_aload_n hx hb dT_firstPieceFrom_8 rfl (lv_at hl 0 rfl) ?_
    refine va_get (D := g.1) (ci := 4) (v := .ref (ad 11)) (C := "NodeMaker$Tree") (T := Fd_T) (N := 16) hx hb ht i_T hown hK.1 hP 0 rfl rfl 6 (by decide) (ht _ q_111) (fun _ h9 => h9) rfl dT_firstPieceFrom_9 ?_
    refine lv_iload_n hx hb dT_firstPieceFrom_12 rfl (lv_at hl 1 rfl) ?_
    have hPc := hP.sub (ws' := rowW g (ad 11) (q 5) (cp 5) (f 5) (Rw 5).length) [16, 17] rfl
    refine ro_Vi (v := rAt (Rw 5) k) (As := [.int k]) (rest := []) ⟨hx, hb, hml, hown, ht⟩ (cR_at l g (ad 11) (q 5) (cp 5) (f 5) (Rw 5) (hz 5 (by decide)) k) (cwV 1 ht (g_V q_325 q_326 q_327 q_37 q_328) rfl rfl rfl hd_R_at ⟨Nat.le_of_ble_eq_true rfl, Nat.le_of_ble_eq_true rfl⟩) hK (hPc) (va_recv hK.1 hPc (ci := 0) (q0 := 0) rfl rfl) rfl hl.1 rfl (Nat.le_of_ble_eq_true rfl) dT_firstPieceFrom_13 ⟨by show 0 ≤ 0; omega, by show 0 ≤ 0; omega⟩ ?_
    refine lv_goto (tgt := 26) hx hb dT_firstPieceFrom_16 (by decide) ?_
    exact W.iret hx hb hr (fun t ht9 hW => ⟨_, rfl, by rw [sT_firstPieceFrom, if_neg c_4], ht9⟩) (fun q h => by cases h) dT_firstPieceFrom_26
def sT_ownPieces (Rw : Nat → List Int32) (Wl : Nat → Option WV) (k : Int32) : Int32 :=
  if (sT_hasNode Rw Wl k) = 0 then
    0
  else
    ((sT_firstPieceFrom Rw Wl (k + 1)) - (sT_firstPieceFrom Rw Wl k))
set_option maxHeartbeats 4000000 in
set_option maxRecDepth 100000 in
theorem cT_ownPieces (l : Launch) (g : CX) (ad q cp : Nat → Nat) (f : Nat → Nat → Int32) (Rw : Nat → List Int32) (sl : Nat → Option Nat) (cnt h st : Int32) (LW : List Nat) (wv : Nat → WV) (hz : rowsT cp f Rw) (hsl : slOK sl LW) (k : Int32) : Met l yT_ownPieces (wm yT_ownPieces kT_ownPieces 2 (some .int)) ({ frames := 3, cells := 0, slots := 0, locals := 62 }) (ro g [.ref (ad 0), .int k] (va_P g.1 vwCl (TW g ad q cp f Rw sl cnt h st LW wv))) (vp_Si (fun r => r = sT_ownPieces Rw (wOf sl wv) k)) 0 0 (fun _ => False) := by
  refine Met.ofW (cc := kT_ownPieces) (maxL := 2) (ret := (some .int)) (by decide) rfl ?_
  intro p e s m args below meth c s₁ B hml hv
  obtain ⟨rfl, hK, hP⟩ := hv
  have hx := B.exec
  have hb := B.bytes
  have hr := B.returns
  have ht : ∀ w ∈ wT, w.before _ s = true := fun w h => atoms_spec (ws := wm yT_ownPieces kT_ownPieces 2 (some .int)) B.pre w (List.mem_cons_of_mem _ h)
  have hown : s.vm.findClass "NodeMaker$Tree" = some m.cls := findClass_of_methodNamed B.named
  have hlocks := B.notSynchronized
  have hl := lv_entry ([.ref (ad 0), .int k]) (n := 2) (Nat.le_of_ble_eq_true rfl)
  rw [lg_entry_eq]
  generalize (lg_sl ([.ref (ad 0), .int k]) ++ List.replicate (2 - (lg_sl ([.ref (ad 0), .int k])).length) Slot.unset).toArray = ls at hl ⊢
  have hl : lv_has ls 2 [(0, .ref (ad 0)), (1, .int k)] := hl
  refine lv_aload_n hx hb dT_ownPieces_0 rfl (lv_at hl 0 rfl) ?_
  refine lv_iload_n hx hb dT_ownPieces_1 rfl (lv_at hl 1 rfl) ?_
  refine ro_Vi (v := sT_hasNode Rw (wOf sl wv) k) (As := [.int k]) (rest := []) ⟨hx, hb, hml, hown, ht⟩ (cT_hasNode l g ad q cp f Rw sl cnt h st LW wv hz hsl k) (cwV 1 ht (g_V q_333 q_334 q_335 q_35 q_336) rfl rfl rfl hd_T_hasNode ⟨Nat.le_of_ble_eq_true rfl, Nat.le_of_ble_eq_true rfl⟩) hK (hP) (va_recv hK.1 hP (ci := 4) (q0 := 0) rfl rfl) rfl hl.1 rfl (Nat.le_of_ble_eq_true rfl) dT_ownPieces_2 ⟨by show 0 ≤ 0; omega, by show 0 ≤ 0; omega⟩ ?_
  refine lv_if_eq (tgt := 24) hx hb dT_ownPieces_5 (by decide) (fun c_5 => ?_) (fun c_5 => ?_)
  · skip
    refine lv_iconst (v := 0) hx hb dT_ownPieces_24 (by decide) ?_
    exact W.iret hx hb hr (fun t ht9 hW => ⟨_, rfl, by rw [sT_ownPieces, if_pos c_5], ht9⟩) (fun q h => by cases h) dT_ownPieces_25
  · skip
    refine lv_aload_n hx hb dT_ownPieces_8 rfl (lv_at hl 0 rfl) ?_
    refine lv_iload_n hx hb dT_ownPieces_9 rfl (lv_at hl 1 rfl) ?_
    refine lv_iconst (v := 1) hx hb dT_ownPieces_10 (by decide) ?_
    refine lv_iadd hx hb dT_ownPieces_11 ?_
    refine ro_Vi (v := sT_firstPieceFrom Rw (wOf sl wv) (k + 1)) (As := [.int (k + 1)]) (rest := []) ⟨hx, hb, hml, hown, ht⟩ (cT_firstPieceFrom l g ad q cp f Rw sl cnt h st LW wv hz hsl (k + 1)) (cwV 1 ht (g_V q_411 q_413 q_8 q_35 q_414) rfl rfl rfl hd_T_firstPieceFrom ⟨Nat.le_of_ble_eq_true rfl, Nat.le_of_ble_eq_true rfl⟩) hK (hP) (va_recv hK.1 hP (ci := 4) (q0 := 0) rfl rfl) rfl hl.1 rfl (Nat.le_of_ble_eq_true rfl) dT_ownPieces_12 ⟨by show 0 ≤ 0; omega, by show 0 ≤ 0; omega⟩ ?_
    refine lv_aload_n hx hb dT_ownPieces_15 rfl (lv_at hl 0 rfl) ?_
    refine lv_iload_n hx hb dT_ownPieces_16 rfl (lv_at hl 1 rfl) ?_
    refine ro_Vi (v := sT_firstPieceFrom Rw (wOf sl wv) k) (As := [.int k]) (rest := [.int (sT_firstPieceFrom Rw (wOf sl wv) (k + 1))]) ⟨hx, hb, hml, hown, ht⟩ (cT_firstPieceFrom l g ad q cp f Rw sl cnt h st LW wv hz hsl k) (cwV 1 ht (g_V q_411 q_413 q_8 q_35 q_414) rfl rfl rfl hd_T_firstPieceFrom ⟨Nat.le_of_ble_eq_true rfl, Nat.le_of_ble_eq_true rfl⟩) hK (hP) (va_recv hK.1 hP (ci := 4) (q0 := 0) rfl rfl) rfl hl.1 rfl (Nat.le_of_ble_eq_true rfl) dT_ownPieces_17 ⟨by show 0 ≤ 0; omega, by show 0 ≤ 0; omega⟩ ?_
    refine lv_isub hx hb dT_ownPieces_20 ?_
    refine lv_goto (tgt := 25) hx hb dT_ownPieces_21 (by decide) ?_
    exact W.iret hx hb hr (fun t ht9 hW => ⟨_, rfl, by rw [sT_ownPieces, if_neg c_5], ht9⟩) (fun q h => by cases h) dT_ownPieces_25
def sT_piecesIn (Rw : Nat → List Int32) (Wl : Nat → Option WV) (k : Int32) : Int32 :=
  if (sT_hasNode Rw Wl k) = 0 then
    0
  else
    ((sT_firstPieceFrom Rw Wl (k + (rAt (Rw 3) k))) - (sT_firstPieceFrom Rw Wl k))
set_option maxHeartbeats 4000000 in
set_option maxRecDepth 100000 in
theorem cT_piecesIn (l : Launch) (g : CX) (ad q cp : Nat → Nat) (f : Nat → Nat → Int32) (Rw : Nat → List Int32) (sl : Nat → Option Nat) (cnt h st : Int32) (LW : List Nat) (wv : Nat → WV) (hz : rowsT cp f Rw) (hsl : slOK sl LW) (k : Int32) : Met l yT_piecesIn (wm yT_piecesIn kT_piecesIn 2 (some .int)) ({ frames := 3, cells := 0, slots := 0, locals := 62 }) (ro g [.ref (ad 0), .int k] (va_P g.1 vwCl (TW g ad q cp f Rw sl cnt h st LW wv))) (vp_Si (fun r => r = sT_piecesIn Rw (wOf sl wv) k)) 0 0 (fun _ => False) := by
  refine Met.ofW (cc := kT_piecesIn) (maxL := 2) (ret := (some .int)) (by decide) rfl ?_
  intro p e s m args below meth c s₁ B hml hv
  obtain ⟨rfl, hK, hP⟩ := hv
  have hx := B.exec
  have hb := B.bytes
  have hr := B.returns
  have ht : ∀ w ∈ wT, w.before _ s = true := fun w h => atoms_spec (ws := wm yT_piecesIn kT_piecesIn 2 (some .int)) B.pre w (List.mem_cons_of_mem _ h)
  have hown : s.vm.findClass "NodeMaker$Tree" = some m.cls := findClass_of_methodNamed B.named
  have hlocks := B.notSynchronized
  have hl := lv_entry ([.ref (ad 0), .int k]) (n := 2) (Nat.le_of_ble_eq_true rfl)
  rw [lg_entry_eq]
  generalize (lg_sl ([.ref (ad 0), .int k]) ++ List.replicate (2 - (lg_sl ([.ref (ad 0), .int k])).length) Slot.unset).toArray = ls at hl ⊢
  have hl : lv_has ls 2 [(0, .ref (ad 0)), (1, .int k)] := hl
  refine lv_aload_n hx hb dT_piecesIn_0 rfl (lv_at hl 0 rfl) ?_
  refine lv_iload_n hx hb dT_piecesIn_1 rfl (lv_at hl 1 rfl) ?_
  refine ro_Vi (v := sT_hasNode Rw (wOf sl wv) k) (As := [.int k]) (rest := []) ⟨hx, hb, hml, hown, ht⟩ (cT_hasNode l g ad q cp f Rw sl cnt h st LW wv hz hsl k) (cwV 1 ht (g_V q_333 q_334 q_335 q_35 q_336) rfl rfl rfl hd_T_hasNode ⟨Nat.le_of_ble_eq_true rfl, Nat.le_of_ble_eq_true rfl⟩) hK (hP) (va_recv hK.1 hP (ci := 4) (q0 := 0) rfl rfl) rfl hl.1 rfl (Nat.le_of_ble_eq_true rfl) dT_piecesIn_2 ⟨by show 0 ≤ 0; omega, by show 0 ≤ 0; omega⟩ ?_
  refine lv_if_eq (tgt := 31) hx hb dT_piecesIn_5 (by decide) (fun c_6 => ?_) (fun c_6 => ?_)
  · skip
    refine lv_iconst (v := 0) hx hb dT_piecesIn_31 (by decide) ?_
    exact W.iret hx hb hr (fun t ht9 hW => ⟨_, rfl, by rw [sT_piecesIn, if_pos c_6], ht9⟩) (fun q h => by cases h) dT_piecesIn_32
  · skip
    refine lv_aload_n hx hb dT_piecesIn_8 rfl (lv_at hl 0 rfl) ?_
    refine lv_iload_n hx hb dT_piecesIn_9 rfl (lv_at hl 1 rfl) ?_
    refine lv_aload_n hx hb dT_piecesIn_10 rfl (lv_at hl 0 rfl) ?_
    refine va_get (D := g.1) (ci := 4) (v := .ref (ad 9)) (C := "NodeMaker$Tree") (T := Fd_T) (N := 16) hx hb ht i_T hown hK.1 hP 0 rfl rfl 4 (by decide) (ht _ q_109) (fun _ h9 => h9) rfl dT_piecesIn_11 ?_
    refine lv_iload_n hx hb dT_piecesIn_14 rfl (lv_at hl 1 rfl) ?_
    have hPc := hP.sub (ws' := rowW g (ad 9) (q 3) (cp 3) (f 3) (Rw 3).length) [12, 13] rfl
    refine ro_Vi (v := rAt (Rw 3) k) (As := [.int k]) (rest := [.int k, .ref (ad 0)]) ⟨hx, hb, hml, hown, ht⟩ (cR_at l g (ad 9) (q 3) (cp 3) (f 3) (Rw 3) (hz 3 (by decide)) k) (cwV 1 ht (g_V q_325 q_326 q_327 q_37 q_328) rfl rfl rfl hd_R_at ⟨Nat.le_of_ble_eq_true rfl, Nat.le_of_ble_eq_true rfl⟩) hK (hPc) (va_recv hK.1 hPc (ci := 0) (q0 := 0) rfl rfl) rfl hl.1 rfl (Nat.le_of_ble_eq_true rfl) dT_piecesIn_15 ⟨by show 0 ≤ 0; omega, by show 0 ≤ 0; omega⟩ ?_
    refine lv_iadd hx hb dT_piecesIn_18 ?_
    refine ro_Vi (v := sT_firstPieceFrom Rw (wOf sl wv) (k + (rAt (Rw 3) k))) (As := [.int (k + (rAt (Rw 3) k))]) (rest := []) ⟨hx, hb, hml, hown, ht⟩ (cT_firstPieceFrom l g ad q cp f Rw sl cnt h st LW wv hz hsl (k + (rAt (Rw 3) k))) (cwV 1 ht (g_V q_411 q_413 q_8 q_35 q_414) rfl rfl rfl hd_T_firstPieceFrom ⟨Nat.le_of_ble_eq_true rfl, Nat.le_of_ble_eq_true rfl⟩) hK (hP) (va_recv hK.1 hP (ci := 4) (q0 := 0) rfl rfl) rfl hl.1 rfl (Nat.le_of_ble_eq_true rfl) dT_piecesIn_19 ⟨by show 0 ≤ 0; omega, by show 0 ≤ 0; omega⟩ ?_
    refine lv_aload_n hx hb dT_piecesIn_22 rfl (lv_at hl 0 rfl) ?_
    refine lv_iload_n hx hb dT_piecesIn_23 rfl (lv_at hl 1 rfl) ?_
    refine ro_Vi (v := sT_firstPieceFrom Rw (wOf sl wv) k) (As := [.int k]) (rest := [.int (sT_firstPieceFrom Rw (wOf sl wv) (k + (rAt (Rw 3) k)))]) ⟨hx, hb, hml, hown, ht⟩ (cT_firstPieceFrom l g ad q cp f Rw sl cnt h st LW wv hz hsl k) (cwV 1 ht (g_V q_411 q_413 q_8 q_35 q_414) rfl rfl rfl hd_T_firstPieceFrom ⟨Nat.le_of_ble_eq_true rfl, Nat.le_of_ble_eq_true rfl⟩) hK (hP) (va_recv hK.1 hP (ci := 4) (q0 := 0) rfl rfl) rfl hl.1 rfl (Nat.le_of_ble_eq_true rfl) dT_piecesIn_24 ⟨by show 0 ≤ 0; omega, by show 0 ≤ 0; omega⟩ ?_
    refine lv_isub hx hb dT_piecesIn_27 ?_
    refine lv_goto (tgt := 32) hx hb dT_piecesIn_28 (by decide) ?_
    exact W.iret hx hb hr (fun t ht9 hW => ⟨_, rfl, by rw [sT_piecesIn, if_neg c_6], ht9⟩) (fun q h => by cases h) dT_piecesIn_32
def sT_wallOfPiece (Rw : Nat → List Int32) (Wl : Nat → Option WV) (k : Int32) : Int32 :=
  (rAt (Rw 6) k)
set_option maxHeartbeats 4000000 in
set_option maxRecDepth 100000 in
theorem cT_wallOfPiece (l : Launch) (g : CX) (ad q cp : Nat → Nat) (f : Nat → Nat → Int32) (Rw : Nat → List Int32) (sl : Nat → Option Nat) (cnt h st : Int32) (LW : List Nat) (wv : Nat → WV) (hz : rowsT cp f Rw) (hsl : slOK sl LW) (k : Int32) : Met l yT_wallOfPiece (wm yT_wallOfPiece kT_wallOfPiece 2 (some .int)) ({ frames := 2, cells := 0, slots := 0, locals := 42 }) (ro g [.ref (ad 0), .int k] (va_P g.1 vwCl (TW g ad q cp f Rw sl cnt h st LW wv))) (vp_Si (fun r => r = sT_wallOfPiece Rw (wOf sl wv) k)) 0 0 (fun _ => False) := by
  refine Met.ofW (cc := kT_wallOfPiece) (maxL := 2) (ret := (some .int)) (by decide) rfl ?_
  intro p e s m args below meth c s₁ B hml hv
  obtain ⟨rfl, hK, hP⟩ := hv
  have hx := B.exec
  have hb := B.bytes
  have hr := B.returns
  have ht : ∀ w ∈ wT, w.before _ s = true := fun w h => atoms_spec (ws := wm yT_wallOfPiece kT_wallOfPiece 2 (some .int)) B.pre w (List.mem_cons_of_mem _ h)
  have hown : s.vm.findClass "NodeMaker$Tree" = some m.cls := findClass_of_methodNamed B.named
  have hlocks := B.notSynchronized
  have hl := lv_entry ([.ref (ad 0), .int k]) (n := 2) (Nat.le_of_ble_eq_true rfl)
  rw [lg_entry_eq]
  generalize (lg_sl ([.ref (ad 0), .int k]) ++ List.replicate (2 - (lg_sl ([.ref (ad 0), .int k])).length) Slot.unset).toArray = ls at hl ⊢
  have hl : lv_has ls 2 [(0, .ref (ad 0)), (1, .int k)] := hl
  refine lv_aload_n hx hb dT_wallOfPiece_0 rfl (lv_at hl 0 rfl) ?_
  refine va_get (D := g.1) (ci := 4) (v := .ref (ad 3)) (C := "NodeMaker$Tree") (T := Fd_T) (N := 16) hx hb ht i_T hown hK.1 hP 0 rfl rfl 7 (by decide) (ht _ q_112) (fun _ h9 => h9) rfl dT_wallOfPiece_1 ?_
  refine lv_iload_n hx hb dT_wallOfPiece_4 rfl (lv_at hl 1 rfl) ?_
  have hPc := hP.sub (ws' := (piW g (ad 3) (fun k => ad (12 + k)) (fun k => q (6 + k)) (fun k => cp (6 + k)) (fun k => f (6 + k)) (fun k => (Rw (6 + k)).length))) [3, 18, 19, 20, 21, 22, 23] rfl
  refine ro_Vi (v := rAt (Rw 6) k) (As := [.int k]) (rest := []) ⟨hx, hb, hml, hown, ht⟩ (cP_wallAt l g (ad 3) (fun k => ad (12 + k)) (fun k => q (6 + k)) (fun k => cp (6 + k)) (fun k => f (6 + k)) (fun k => Rw (6 + k)) (rows_3 6 (by decide) hz) k) (cwV 1 ht (g_V q_341 q_342 q_343 q_38 q_344) rfl rfl rfl hd_P_wallAt ⟨Nat.le_of_ble_eq_true rfl, Nat.le_of_ble_eq_true rfl⟩) hK (hPc) (va_recv hK.1 hPc (ci := 1) (q0 := 0) rfl rfl) rfl hl.1 rfl (Nat.le_of_ble_eq_true rfl) dT_wallOfPiece_5 ⟨by show 0 ≤ 0; omega, by show 0 ≤ 0; omega⟩ ?_
  exact W.iret hx hb hr (fun t ht9 hW => ⟨_, rfl, rfl, ht9⟩) (fun q h => by cases h) dT_wallOfPiece_8
def sT_nodeOfPiece (Rw : Nat → List Int32) (Wl : Nat → Option WV) (k : Int32) : Int32 :=
  (rAt (Rw 9) k)
set_option maxHeartbeats 4000000 in
set_option maxRecDepth 100000 in
theorem cT_nodeOfPiece (l : Launch) (g : CX) (ad q cp : Nat → Nat) (f : Nat → Nat → Int32) (Rw : Nat → List Int32) (sl : Nat → Option Nat) (cnt h st : Int32) (LW : List Nat) (wv : Nat → WV) (hz : rowsT cp f Rw) (hsl : slOK sl LW) (k : Int32) : Met l yT_nodeOfPiece (wm yT_nodeOfPiece kT_nodeOfPiece 2 (some .int)) ({ frames := 1, cells := 0, slots := 0, locals := 21 }) (ro g [.ref (ad 0), .int k] (va_P g.1 vwCl (TW g ad q cp f Rw sl cnt h st LW wv))) (vp_Si (fun r => r = sT_nodeOfPiece Rw (wOf sl wv) k)) 0 0 (fun _ => False) := by
  refine Met.ofW (cc := kT_nodeOfPiece) (maxL := 2) (ret := (some .int)) (by decide) rfl ?_
  intro p e s m args below meth c s₁ B hml hv
  obtain ⟨rfl, hK, hP⟩ := hv
  have hx := B.exec
  have hb := B.bytes
  have hr := B.returns
  have ht : ∀ w ∈ wT, w.before _ s = true := fun w h => atoms_spec (ws := wm yT_nodeOfPiece kT_nodeOfPiece 2 (some .int)) B.pre w (List.mem_cons_of_mem _ h)
  have hown : s.vm.findClass "NodeMaker$Tree" = some m.cls := findClass_of_methodNamed B.named
  have hlocks := B.notSynchronized
  have hl := lv_entry ([.ref (ad 0), .int k]) (n := 2) (Nat.le_of_ble_eq_true rfl)
  rw [lg_entry_eq]
  generalize (lg_sl ([.ref (ad 0), .int k]) ++ List.replicate (2 - (lg_sl ([.ref (ad 0), .int k])).length) Slot.unset).toArray = ls at hl ⊢
  have hl : lv_has ls 2 [(0, .ref (ad 0)), (1, .int k)] := hl
  refine lv_aload_n hx hb dT_nodeOfPiece_0 rfl (lv_at hl 0 rfl) ?_
  refine va_get (D := g.1) (ci := 4) (v := .ref (ad 15)) (C := "NodeMaker$Tree") (T := Fd_T) (N := 16) hx hb ht i_T hown hK.1 hP 0 rfl rfl 8 (by decide) (ht _ q_113) (fun _ h9 => h9) rfl dT_nodeOfPiece_1 ?_
  refine lv_iload_n hx hb dT_nodeOfPiece_4 rfl (lv_at hl 1 rfl) ?_
  have hPc := hP.sub (ws' := rowW g (ad 15) (q 9) (cp 9) (f 9) (Rw 9).length) [24, 25] rfl
  refine ro_Vi (v := rAt (Rw 9) k) (As := [.int k]) (rest := []) ⟨hx, hb, hml, hown, ht⟩ (cR_at l g (ad 15) (q 9) (cp 9) (f 9) (Rw 9) (hz 9 (by decide)) k) (cwV 1 ht (g_V q_325 q_326 q_327 q_37 q_328) rfl rfl rfl hd_R_at ⟨Nat.le_of_ble_eq_true rfl, Nat.le_of_ble_eq_true rfl⟩) hK (hPc) (va_recv hK.1 hPc (ci := 0) (q0 := 0) rfl rfl) rfl hl.1 rfl (Nat.le_of_ble_eq_true rfl) dT_nodeOfPiece_5 ⟨by show 0 ≤ 0; omega, by show 0 ≤ 0; omega⟩ ?_
  exact W.iret hx hb hr (fun t ht9 hW => ⟨_, rfl, rfl, ht9⟩) (fun q h => by cases h) dT_nodeOfPiece_8
def sT_placeInNode (Rw : Nat → List Int32) (Wl : Nat → Option WV) (k : Int32) : Int32 :=
  if k = (-1) then
    (-1)
  else
    (k - (sT_firstPieceFrom Rw Wl (rAt (Rw 9) k)))
set_option maxHeartbeats 4000000 in
set_option maxRecDepth 100000 in
theorem cT_placeInNode (l : Launch) (g : CX) (ad q cp : Nat → Nat) (f : Nat → Nat → Int32) (Rw : Nat → List Int32) (sl : Nat → Option Nat) (cnt h st : Int32) (LW : List Nat) (wv : Nat → WV) (hz : rowsT cp f Rw) (hsl : slOK sl LW) (k : Int32) : Met l yT_placeInNode (wm yT_placeInNode kT_placeInNode 2 (some .int)) ({ frames := 3, cells := 0, slots := 0, locals := 62 }) (ro g [.ref (ad 0), .int k] (va_P g.1 vwCl (TW g ad q cp f Rw sl cnt h st LW wv))) (vp_Si (fun r => r = sT_placeInNode Rw (wOf sl wv) k)) 0 0 (fun _ => False) := by
  refine Met.ofW (cc := kT_placeInNode) (maxL := 2) (ret := (some .int)) (by decide) rfl ?_
  intro p e s m args below meth c s₁ B hml hv
  obtain ⟨rfl, hK, hP⟩ := hv
  have hx := B.exec
  have hb := B.bytes
  have hr := B.returns
  have ht : ∀ w ∈ wT, w.before _ s = true := fun w h => atoms_spec (ws := wm yT_placeInNode kT_placeInNode 2 (some .int)) B.pre w (List.mem_cons_of_mem _ h)
  have hown : s.vm.findClass "NodeMaker$Tree" = some m.cls := findClass_of_methodNamed B.named
  have hlocks := B.notSynchronized
  have hl := lv_entry ([.ref (ad 0), .int k]) (n := 2) (Nat.le_of_ble_eq_true rfl)
  rw [lg_entry_eq]
  generalize (lg_sl ([.ref (ad 0), .int k]) ++ List.replicate (2 - (lg_sl ([.ref (ad 0), .int k])).length) Slot.unset).toArray = ls at hl ⊢
  have hl : lv_has ls 2 [(0, .ref (ad 0)), (1, .int k)] := hl
  refine lv_iload_n hx hb dT_placeInNode_0 rfl (lv_at hl 1 rfl) ?_
  refine lv_iconst (v := -1) hx hb dT_placeInNode_1 (by decide) ?_
  refine lv_icmp_ne (tgt := 9) hx hb dT_placeInNode_2 (by decide) (fun c_7 => ?_) (fun c_7 => ?_)
  · skip
    refine lv_iload_n hx hb dT_placeInNode_9 rfl (lv_at hl 1 rfl) ?_
    refine lv_aload_n hx hb dT_placeInNode_10 rfl (lv_at hl 0 rfl) ?_
    refine lv_aload_n hx hb dT_placeInNode_11 rfl (lv_at hl 0 rfl) ?_
    refine va_get (D := g.1) (ci := 4) (v := .ref (ad 15)) (C := "NodeMaker$Tree") (T := Fd_T) (N := 16) hx hb ht i_T hown hK.1 hP 0 rfl rfl 8 (by decide) (ht _ q_113) (fun _ h9 => h9) rfl dT_placeInNode_12 ?_
    refine lv_iload_n hx hb dT_placeInNode_15 rfl (lv_at hl 1 rfl) ?_
    have hPc := hP.sub (ws' := rowW g (ad 15) (q 9) (cp 9) (f 9) (Rw 9).length) [24, 25] rfl
    refine ro_Vi (v := rAt (Rw 9) k) (As := [.int k]) (rest := [.ref (ad 0), .int k]) ⟨hx, hb, hml, hown, ht⟩ (cR_at l g (ad 15) (q 9) (cp 9) (f 9) (Rw 9) (hz 9 (by decide)) k) (cwV 1 ht (g_V q_325 q_326 q_327 q_37 q_328) rfl rfl rfl hd_R_at ⟨Nat.le_of_ble_eq_true rfl, Nat.le_of_ble_eq_true rfl⟩) hK (hPc) (va_recv hK.1 hPc (ci := 0) (q0 := 0) rfl rfl) rfl hl.1 rfl (Nat.le_of_ble_eq_true rfl) dT_placeInNode_16 ⟨by show 0 ≤ 0; omega, by show 0 ≤ 0; omega⟩ ?_
    refine ro_Vi (v := sT_firstPieceFrom Rw (wOf sl wv) (rAt (Rw 9) k)) (As := [.int (rAt (Rw 9) k)]) (rest := [.int k]) ⟨hx, hb, hml, hown, ht⟩ (cT_firstPieceFrom l g ad q cp f Rw sl cnt h st LW wv hz hsl (rAt (Rw 9) k)) (cwV 1 ht (g_V q_411 q_413 q_8 q_35 q_414) rfl rfl rfl hd_T_firstPieceFrom ⟨Nat.le_of_ble_eq_true rfl, Nat.le_of_ble_eq_true rfl⟩) hK (hP) (va_recv hK.1 hP (ci := 4) (q0 := 0) rfl rfl) rfl hl.1 rfl (Nat.le_of_ble_eq_true rfl) dT_placeInNode_19 ⟨by show 0 ≤ 0; omega, by show 0 ≤ 0; omega⟩ ?_
    refine lv_isub hx hb dT_placeInNode_22 ?_
    exact W.iret hx hb hr (fun t ht9 hW => ⟨_, rfl, by rw [sT_placeInNode, if_neg c_7], ht9⟩) (fun q h => by cases h) dT_placeInNode_23
  · skip
    refine lv_iconst (v := -1) hx hb dT_placeInNode_5 (by decide) ?_
    refine lv_goto (tgt := 23) hx hb dT_placeInNode_6 (by decide) ?_
    exact W.iret hx hb hr (fun t ht9 hW => ⟨_, rfl, by rw [sT_placeInNode, if_pos c_7], ht9⟩) (fun q h => by cases h) dT_placeInNode_23
def sT_pieceAt (Rw : Nat → List Int32) (Wl : Nat → Option WV) (k : Int32) (i : Int32) : Int32 :=
  if i < 0 then
    (-1)
  else
    if (sT_ownPieces Rw Wl k) ≤ i then
      (-1)
    else
      ((sT_firstPieceFrom Rw Wl k) + i)
set_option maxHeartbeats 4000000 in
set_option maxRecDepth 100000 in
theorem cT_pieceAt (l : Launch) (g : CX) (ad q cp : Nat → Nat) (f : Nat → Nat → Int32) (Rw : Nat → List Int32) (sl : Nat → Option Nat) (cnt h st : Int32) (LW : List Nat) (wv : Nat → WV) (hz : rowsT cp f Rw) (hsl : slOK sl LW) (k : Int32) (i : Int32) : Met l yT_pieceAt (wm yT_pieceAt kT_pieceAt 3 (some .int)) ({ frames := 4, cells := 0, slots := 0, locals := 83 }) (ro g [.ref (ad 0), .int k, .int i] (va_P g.1 vwCl (TW g ad q cp f Rw sl cnt h st LW wv))) (vp_Si (fun r => r = sT_pieceAt Rw (wOf sl wv) k i)) 0 0 (fun _ => False) := by
  refine Met.ofW (cc := kT_pieceAt) (maxL := 3) (ret := (some .int)) (by decide) rfl ?_
  intro p e s m args below meth c s₁ B hml hv
  obtain ⟨rfl, hK, hP⟩ := hv
  have hx := B.exec
  have hb := B.bytes
  have hr := B.returns
  have ht : ∀ w ∈ wT, w.before _ s = true := fun w h => atoms_spec (ws := wm yT_pieceAt kT_pieceAt 3 (some .int)) B.pre w (List.mem_cons_of_mem _ h)
  have hown : s.vm.findClass "NodeMaker$Tree" = some m.cls := findClass_of_methodNamed B.named
  have hlocks := B.notSynchronized
  have hl := lv_entry ([.ref (ad 0), .int k, .int i]) (n := 3) (Nat.le_of_ble_eq_true rfl)
  rw [lg_entry_eq]
  generalize (lg_sl ([.ref (ad 0), .int k, .int i]) ++ List.replicate (3 - (lg_sl ([.ref (ad 0), .int k, .int i])).length) Slot.unset).toArray = ls at hl ⊢
  have hl : lv_has ls 3 [(0, .ref (ad 0)), (1, .int k), (2, .int i)] := hl
  refine lv_iload_n hx hb dT_pieceAt_0 rfl (lv_at hl 2 rfl) ?_
  refine lv_if_lt (tgt := 23) hx hb dT_pieceAt_1 (by decide) (fun c_8 => ?_) (fun c_8 => ?_)
  · skip
    refine lv_iconst (v := -1) hx hb dT_pieceAt_23 (by decide) ?_
    exact W.iret hx hb hr (fun t ht9 hW => ⟨_, rfl, by rw [sT_pieceAt, if_pos c_8], ht9⟩) (fun q h => by cases h) dT_pieceAt_24
  · skip
    refine lv_iload_n hx hb dT_pieceAt_4 rfl (lv_at hl 2 rfl) ?_
    refine lv_aload_n hx hb dT_pieceAt_5 rfl (lv_at hl 0 rfl) ?_
    refine lv_iload_n hx hb dT_pieceAt_6 rfl (lv_at hl 1 rfl) ?_
    refine ro_Vi (v := sT_ownPieces Rw (wOf sl wv) k) (As := [.int k]) (rest := [.int i]) ⟨hx, hb, hml, hown, ht⟩ (cT_ownPieces l g ad q cp f Rw sl cnt h st LW wv hz hsl k) (cwV 1 ht (g_V q_428 q_408 q_409 q_35 q_410) rfl rfl rfl hd_T_ownPieces ⟨Nat.le_of_ble_eq_true rfl, Nat.le_of_ble_eq_true rfl⟩) hK (hP) (va_recv hK.1 hP (ci := 4) (q0 := 0) rfl rfl) rfl hl.1 rfl (Nat.le_of_ble_eq_true rfl) dT_pieceAt_7 ⟨by show 0 ≤ 0; omega, by show 0 ≤ 0; omega⟩ ?_
    refine lv_icmp_ge (tgt := 23) hx hb dT_pieceAt_10 (by decide) (fun c_9 => ?_) (fun c_9 => ?_)
    · skip
      refine lv_iconst (v := -1) hx hb dT_pieceAt_23 (by decide) ?_
      exact W.iret hx hb hr (fun t ht9 hW => ⟨_, rfl, by rw [sT_pieceAt, if_neg c_8, if_pos c_9], ht9⟩) (fun q h => by cases h) dT_pieceAt_24
    · skip
      refine lv_aload_n hx hb dT_pieceAt_13 rfl (lv_at hl 0 rfl) ?_
      refine lv_iload_n hx hb dT_pieceAt_14 rfl (lv_at hl 1 rfl) ?_
      refine ro_Vi (v := sT_firstPieceFrom Rw (wOf sl wv) k) (As := [.int k]) (rest := []) ⟨hx, hb, hml, hown, ht⟩ (cT_firstPieceFrom l g ad q cp f Rw sl cnt h st LW wv hz hsl k) (cwV 1 ht (g_V q_411 q_413 q_8 q_35 q_414) rfl rfl rfl hd_T_firstPieceFrom ⟨Nat.le_of_ble_eq_true rfl, Nat.le_of_ble_eq_true rfl⟩) hK (hP) (va_recv hK.1 hP (ci := 4) (q0 := 0) rfl rfl) rfl hl.1 rfl (Nat.le_of_ble_eq_true rfl) dT_pieceAt_15 ⟨by show 0 ≤ 0; omega, by show 0 ≤ 0; omega⟩ ?_
      refine lv_iload_n hx hb dT_pieceAt_18 rfl (lv_at hl 2 rfl) ?_
      refine lv_iadd hx hb dT_pieceAt_19 ?_
      refine lv_goto (tgt := 24) hx hb dT_pieceAt_20 (by decide) ?_
      exact W.iret hx hb hr (fun t ht9 hW => ⟨_, rfl, by rw [sT_pieceAt, if_neg c_8, if_neg c_9], ht9⟩) (fun q h => by cases h) dT_pieceAt_24
