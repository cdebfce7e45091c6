theorem hd_M_init : yM_init.cls ≠ "java/lang/invoke/MethodHandle" ∧ yM_init.cls ≠ "java/lang/invoke/VarHandle" ∧ (parseMethodDescriptor yM_init.desc).map (fun d => d.parameters.length) = some 0 := by decide +kernel
theorem hd_M_put : yM_put.cls = "NodeMakerModel" ∧ yM_put.cls ≠ "java/lang/invoke/MethodHandle" ∧ yM_put.cls ≠ "java/lang/invoke/VarHandle" ∧ (parseMethodDescriptor yM_put.desc).map (fun d => d.parameters.length) = some 4 := by decide +kernel
theorem hd_M_free : yM_free.cls = "NodeMakerModel" ∧ yM_free.cls ≠ "java/lang/invoke/MethodHandle" ∧ yM_free.cls ≠ "java/lang/invoke/VarHandle" ∧ (parseMethodDescriptor yM_free.desc).map (fun d => d.parameters.length) = some 0 := by decide +kernel
theorem hd_M_isPlace : yM_isPlace.cls = "NodeMakerModel" ∧ yM_isPlace.cls ≠ "java/lang/invoke/MethodHandle" ∧ yM_isPlace.cls ≠ "java/lang/invoke/VarHandle" ∧ (parseMethodDescriptor yM_isPlace.desc).map (fun d => d.parameters.length) = some 1 := by decide +kernel
theorem hd_M_touch : yM_touch.cls = "NodeMakerModel" ∧ yM_touch.cls ≠ "java/lang/invoke/MethodHandle" ∧ yM_touch.cls ≠ "java/lang/invoke/VarHandle" ∧ (parseMethodDescriptor yM_touch.desc).map (fun d => d.parameters.length) = some 2 := by decide +kernel
theorem hd_M_isEnd : yM_isEnd.cls = "NodeMakerModel" ∧ yM_isEnd.cls ≠ "java/lang/invoke/MethodHandle" ∧ yM_isEnd.cls ≠ "java/lang/invoke/VarHandle" ∧ (parseMethodDescriptor yM_isEnd.desc).map (fun d => d.parameters.length) = some 3 := by decide +kernel
theorem hd_M_sideOf : yM_sideOf.cls = "NodeMakerModel" ∧ yM_sideOf.cls ≠ "java/lang/invoke/MethodHandle" ∧ yM_sideOf.cls ≠ "java/lang/invoke/VarHandle" ∧ (parseMethodDescriptor yM_sideOf.desc).map (fun d => d.parameters.length) = some 3 := by decide +kernel
theorem hd_M_cross : yM_cross.cls = "NodeMakerModel" ∧ yM_cross.cls ≠ "java/lang/invoke/MethodHandle" ∧ yM_cross.cls ≠ "java/lang/invoke/VarHandle" ∧ (parseMethodDescriptor yM_cross.desc).map (fun d => d.parameters.length) = some 4 := by decide +kernel
theorem hd_M_areOpposite : yM_areOpposite.cls = "NodeMakerModel" ∧ yM_areOpposite.cls ≠ "java/lang/invoke/MethodHandle" ∧ yM_areOpposite.cls ≠ "java/lang/invoke/VarHandle" ∧ (parseMethodDescriptor yM_areOpposite.desc).map (fun d => d.parameters.length) = some 2 := by decide +kernel
theorem hd_M_lies : yM_lies.cls = "NodeMakerModel" ∧ yM_lies.cls ≠ "java/lang/invoke/MethodHandle" ∧ yM_lies.cls ≠ "java/lang/invoke/VarHandle" ∧ (parseMethodDescriptor yM_lies.desc).map (fun d => d.parameters.length) = some 3 := by decide +kernel
theorem hd_M_take : yM_take.cls = "NodeMakerModel" ∧ yM_take.cls ≠ "java/lang/invoke/MethodHandle" ∧ yM_take.cls ≠ "java/lang/invoke/VarHandle" ∧ (parseMethodDescriptor yM_take.desc).map (fun d => d.parameters.length) = some 1 := by decide +kernel
theorem hd_M_isWall : yM_isWall.cls = "NodeMakerModel" ∧ yM_isWall.cls ≠ "java/lang/invoke/MethodHandle" ∧ yM_isWall.cls ≠ "java/lang/invoke/VarHandle" ∧ (parseMethodDescriptor yM_isWall.desc).map (fun d => d.parameters.length) = some 1 := by decide +kernel
theorem hd_M_clear : yM_clear.cls = "NodeMakerModel" ∧ yM_clear.cls ≠ "java/lang/invoke/MethodHandle" ∧ yM_clear.cls ≠ "java/lang/invoke/VarHandle" ∧ (parseMethodDescriptor yM_clear.desc).map (fun d => d.parameters.length) = some 0 := by decide +kernel
theorem hd_M_node : yM_node.cls = "NodeMakerModel" ∧ yM_node.cls ≠ "java/lang/invoke/MethodHandle" ∧ yM_node.cls ≠ "java/lang/invoke/VarHandle" ∧ (parseMethodDescriptor yM_node.desc).map (fun d => d.parameters.length) = some 2 := by decide +kernel
theorem hd_M_isNode : yM_isNode.cls = "NodeMakerModel" ∧ yM_isNode.cls ≠ "java/lang/invoke/MethodHandle" ∧ yM_isNode.cls ≠ "java/lang/invoke/VarHandle" ∧ (parseMethodDescriptor yM_isNode.desc).map (fun d => d.parameters.length) = some 1 := by decide +kernel
theorem hd_M_know : yM_know.cls = "NodeMakerModel" ∧ yM_know.cls ≠ "java/lang/invoke/MethodHandle" ∧ yM_know.cls ≠ "java/lang/invoke/VarHandle" ∧ (parseMethodDescriptor yM_know.desc).map (fun d => d.parameters.length) = some 0 := by decide +kernel
theorem hd_M_make : yM_make.cls = "NodeMakerModel" ∧ yM_make.cls ≠ "java/lang/invoke/MethodHandle" ∧ yM_make.cls ≠ "java/lang/invoke/VarHandle" ∧ (parseMethodDescriptor yM_make.desc).map (fun d => d.parameters.length) = some 0 := by decide +kernel
theorem hd_M_piece : yM_piece.cls = "NodeMakerModel" ∧ yM_piece.cls ≠ "java/lang/invoke/MethodHandle" ∧ yM_piece.cls ≠ "java/lang/invoke/VarHandle" ∧ (parseMethodDescriptor yM_piece.desc).map (fun d => d.parameters.length) = some 5 := by decide +kernel
theorem hd_M_push : yM_push.cls = "NodeMakerModel" ∧ yM_push.cls ≠ "java/lang/invoke/MethodHandle" ∧ yM_push.cls ≠ "java/lang/invoke/VarHandle" ∧ (parseMethodDescriptor yM_push.desc).map (fun d => d.parameters.length) = some 4 := by decide +kernel
theorem hd_M_divide : yM_divide.cls = "NodeMakerModel" ∧ yM_divide.cls ≠ "java/lang/invoke/MethodHandle" ∧ yM_divide.cls ≠ "java/lang/invoke/VarHandle" ∧ (parseMethodDescriptor yM_divide.desc).map (fun d => d.parameters.length) = some 4 := by decide +kernel
theorem hd_M_bestOf : yM_bestOf.cls = "NodeMakerModel" ∧ yM_bestOf.cls ≠ "java/lang/invoke/MethodHandle" ∧ yM_bestOf.cls ≠ "java/lang/invoke/VarHandle" ∧ (parseMethodDescriptor yM_bestOf.desc).map (fun d => d.parameters.length) = some 2 := by decide +kernel
theorem hd_M_lieOf : yM_lieOf.cls = "NodeMakerModel" ∧ yM_lieOf.cls ≠ "java/lang/invoke/MethodHandle" ∧ yM_lieOf.cls ≠ "java/lang/invoke/VarHandle" ∧ (parseMethodDescriptor yM_lieOf.desc).map (fun d => d.parameters.length) = some 2 := by decide +kernel
theorem hd_M_sideAt : yM_sideAt.cls = "NodeMakerModel" ∧ yM_sideAt.cls ≠ "java/lang/invoke/MethodHandle" ∧ yM_sideAt.cls ≠ "java/lang/invoke/VarHandle" ∧ (parseMethodDescriptor yM_sideAt.desc).map (fun d => d.parameters.length) = some 4 := by decide +kernel
theorem hd_M_order : yM_order.cls = "NodeMakerModel" ∧ yM_order.cls ≠ "java/lang/invoke/MethodHandle" ∧ yM_order.cls ≠ "java/lang/invoke/VarHandle" ∧ (parseMethodDescriptor yM_order.desc).map (fun d => d.parameters.length) = some 4 := by decide +kernel
theorem hd_M_collect : yM_collect.cls = "NodeMakerModel" ∧ yM_collect.cls ≠ "java/lang/invoke/MethodHandle" ∧ yM_collect.cls ≠ "java/lang/invoke/VarHandle" ∧ (parseMethodDescriptor yM_collect.desc).map (fun d => d.parameters.length) = some 5 := by decide +kernel
theorem hd_M_part : yM_part.cls = "NodeMakerModel" ∧ yM_part.cls ≠ "java/lang/invoke/MethodHandle" ∧ yM_part.cls ≠ "java/lang/invoke/VarHandle" ∧ (parseMethodDescriptor yM_part.desc).map (fun d => d.parameters.length) = some 3 := by decide +kernel
theorem hd_M_within : yM_within.cls = "NodeMakerModel" ∧ yM_within.cls ≠ "java/lang/invoke/MethodHandle" ∧ yM_within.cls ≠ "java/lang/invoke/VarHandle" ∧ (parseMethodDescriptor yM_within.desc).map (fun d => d.parameters.length) = some 1 := by decide +kernel
theorem hd_M_wall : yM_wall.cls = "NodeMakerModel" ∧ yM_wall.cls ≠ "java/lang/invoke/MethodHandle" ∧ yM_wall.cls ≠ "java/lang/invoke/VarHandle" ∧ (parseMethodDescriptor yM_wall.desc).map (fun d => d.parameters.length) = some 2 := by decide +kernel
theorem hd_M_isOn : yM_isOn.cls = "NodeMakerModel" ∧ yM_isOn.cls ≠ "java/lang/invoke/MethodHandle" ∧ yM_isOn.cls ≠ "java/lang/invoke/VarHandle" ∧ (parseMethodDescriptor yM_isOn.desc).map (fun d => d.parameters.length) = some 2 := by decide +kernel
theorem hd_M_quotient : yM_quotient.cls = "NodeMakerModel" ∧ yM_quotient.cls ≠ "java/lang/invoke/MethodHandle" ∧ yM_quotient.cls ≠ "java/lang/invoke/VarHandle" ∧ (parseMethodDescriptor yM_quotient.desc).map (fun d => d.parameters.length) = some 3 := by decide +kernel
theorem hd_M_common : yM_common.cls = "NodeMakerModel" ∧ yM_common.cls ≠ "java/lang/invoke/MethodHandle" ∧ yM_common.cls ≠ "java/lang/invoke/VarHandle" ∧ (parseMethodDescriptor yM_common.desc).map (fun d => d.parameters.length) = some 2 := by decide +kernel
theorem hd_M_leaf : yM_leaf.cls = "NodeMakerModel" ∧ yM_leaf.cls ≠ "java/lang/invoke/MethodHandle" ∧ yM_leaf.cls ≠ "java/lang/invoke/VarHandle" ∧ (parseMethodDescriptor yM_leaf.desc).map (fun d => d.parameters.length) = some 2 := by decide +kernel
theorem hd_M_isLeft : yM_isLeft.cls = "NodeMakerModel" ∧ yM_isLeft.cls ≠ "java/lang/invoke/MethodHandle" ∧ yM_isLeft.cls ≠ "java/lang/invoke/VarHandle" ∧ (parseMethodDescriptor yM_isLeft.desc).map (fun d => d.parameters.length) = some 3 := by decide +kernel
theorem hd_M_way : yM_way.cls = "NodeMakerModel" ∧ yM_way.cls ≠ "java/lang/invoke/MethodHandle" ∧ yM_way.cls ≠ "java/lang/invoke/VarHandle" ∧ (parseMethodDescriptor yM_way.desc).map (fun d => d.parameters.length) = some 2 := by decide +kernel
theorem hd_M_step : yM_step.cls = "NodeMakerModel" ∧ yM_step.cls ≠ "java/lang/invoke/MethodHandle" ∧ yM_step.cls ≠ "java/lang/invoke/VarHandle" ∧ (parseMethodDescriptor yM_step.desc).map (fun d => d.parameters.length) = some 2 := by decide +kernel
theorem hd_M_nodeOf : yM_nodeOf.cls = "NodeMakerModel" ∧ yM_nodeOf.cls ≠ "java/lang/invoke/MethodHandle" ∧ yM_nodeOf.cls ≠ "java/lang/invoke/VarHandle" ∧ (parseMethodDescriptor yM_nodeOf.desc).map (fun d => d.parameters.length) = some 1 := by decide +kernel
theorem hd_M_aheadOf : yM_aheadOf.cls = "NodeMakerModel" ∧ yM_aheadOf.cls ≠ "java/lang/invoke/MethodHandle" ∧ yM_aheadOf.cls ≠ "java/lang/invoke/VarHandle" ∧ (parseMethodDescriptor yM_aheadOf.desc).map (fun d => d.parameters.length) = some 1 := by decide +kernel
theorem hd_M_of : yM_of.cls = "NodeMakerModel" ∧ yM_of.cls ≠ "java/lang/invoke/MethodHandle" ∧ yM_of.cls ≠ "java/lang/invoke/VarHandle" ∧ (parseMethodDescriptor yM_of.desc).map (fun d => d.parameters.length) = some 2 := by decide +kernel
theorem hd_M_look : yM_look.cls = "NodeMakerModel" ∧ yM_look.cls ≠ "java/lang/invoke/MethodHandle" ∧ yM_look.cls ≠ "java/lang/invoke/VarHandle" ∧ (parseMethodDescriptor yM_look.desc).map (fun d => d.parameters.length) = some 1 := by decide +kernel
theorem hd_H_multiplyHigh : yH_multiplyHigh.cls ≠ "java/lang/invoke/MethodHandle" ∧ yH_multiplyHigh.cls ≠ "java/lang/invoke/VarHandle" ∧ (parseMethodDescriptor yH_multiplyHigh.desc).map (fun d => d.parameters.length) = some 2 := by decide +kernel
def sH_multiplyHigh (x y : Int64) : Int64 :=
  ((((x >>> ((32 : Int32).toInt64 &&& 63)) * (y >>> ((32 : Int32).toInt64 &&& 63))) + ((((x >>> ((32 : Int32).toInt64 &&& 63)) * (y &&& 4294967295)) + ((((x &&& 4294967295) * (y &&& 4294967295)).toUInt64 >>> ((32 : Int32).toInt64.toUInt64 &&& Int64.toUInt64 63)).toInt64)) >>> ((32 : Int32).toInt64 &&& 63))) + ((((((x >>> ((32 : Int32).toInt64 &&& 63)) * (y &&& 4294967295)) + ((((x &&& 4294967295) * (y &&& 4294967295)).toUInt64 >>> ((32 : Int32).toInt64.toUInt64 &&& Int64.toUInt64 63)).toInt64)) &&& 4294967295) + ((x &&& 4294967295) * (y >>> ((32 : Int32).toInt64 &&& 63)))) >>> ((32 : Int32).toInt64 &&& 63)))
set_option maxHeartbeats 4000000 in
set_option maxRecDepth 100000 in
theorem cH_multiplyHigh (l : Launch) (g : CX) (x : Int64) (y : Int64) : Met l yH_multiplyHigh (wm yH_multiplyHigh kH_multiplyHigh 20 (some .long)) ({ frames := 0, cells := 0, slots := 0, locals := 0 }) (ro g [.long x, .long y] (fun _ => True)) (vp_Sl (fun r => r = sH_multiplyHigh x y)) 0 0 (fun _ => False) := by
  refine va_MetF (cc := kH_multiplyHigh) (maxL := 20) (ret := (some .long)) (by decide +kernel) rfl ?_
  intro p e s m args below meth c s₁ B hml hv
  obtain ⟨rfl, hK, hP⟩ := hv
  have hx := B.exec
  have hb := B.bytes
  have hr := B.returns
  have ht : ∀ w ∈ wT, w.before _ s = true := fun w h => atoms_spec (ws := wm yH_multiplyHigh kH_multiplyHigh 20 (some .long)) B.pre w (List.mem_cons_of_mem _ h)
  have hown : s.vm.findClass "java/lang/Math" = some m.cls := findClass_of_methodNamed B.named
  have hlocks := B.notSynchronized
  have hl := lv_entry ([.long x, .long y]) (n := 20) (Nat.le_of_ble_eq_true rfl)
  rw [lg_entry_eq]
  generalize (lg_sl ([.long x, .long y]) ++ List.replicate (20 - (lg_sl ([.long x, .long y])).length) Slot.unset).toArray = ls at hl ⊢
  have hl : lv_has ls 20 [(0, .long x), (2, .long y)] := hl
  refine lv_lload_n hx hb dH_multiplyHigh_0 rfl (lv_at hl 0 rfl) ?_
  refine lv_bipush (v := 32) hx hb dH_multiplyHigh_1 (by decide) ?_
  refine lv_lshr hx hb dH_multiplyHigh_3 rfl ?_
  refine lv_lstore (lv' := [(4, .long (x >>> ((32 : Int32).toInt64 &&& 63))), (0, .long x), (2, .long y)]) hx hb dH_multiplyHigh_4 hl (by decide) rfl (fun ls hl => ?_)
  refine lv_lload_n hx hb dH_multiplyHigh_6 rfl (lv_at hl 1 rfl) ?_
  refine lv_ldc2 (v := 4294967295) hx hb hown (ht _ q_731) dH_multiplyHigh_7 ?_
  refine lv_land hx hb dH_multiplyHigh_10 ?_
  refine lv_lstore (lv' := [(6, .long (x &&& 4294967295)), (4, .long (x >>> ((32 : Int32).toInt64 &&& 63))), (0, .long x), (2, .long y)]) hx hb dH_multiplyHigh_11 hl (by decide) rfl (fun ls hl => ?_)
  refine lv_lload_n hx hb dH_multiplyHigh_13 rfl (lv_at hl 3 rfl) ?_
  refine lv_bipush (v := 32) hx hb dH_multiplyHigh_14 (by decide) ?_
  refine lv_lshr hx hb dH_multiplyHigh_16 rfl ?_
  refine lv_lstore (lv' := [(8, .long (y >>> ((32 : Int32).toInt64 &&& 63))), (6, .long (x &&& 4294967295)), (4, .long (x >>> ((32 : Int32).toInt64 &&& 63))), (0, .long x), (2, .long y)]) hx hb dH_multiplyHigh_17 hl (by decide) rfl (fun ls hl => ?_)
  refine lv_lload_n hx hb dH_multiplyHigh_19 rfl (lv_at hl 4 rfl) ?_
  refine lv_ldc2 (v := 4294967295) hx hb hown (ht _ q_731) dH_multiplyHigh_20 ?_
  refine lv_land hx hb dH_multiplyHigh_23 ?_
  refine lv_lstore (lv' := [(10, .long (y &&& 4294967295)), (8, .long (y >>> ((32 : Int32).toInt64 &&& 63))), (6, .long (x &&& 4294967295)), (4, .long (x >>> ((32 : Int32).toInt64 &&& 63))), (0, .long x), (2, .long y)]) hx hb dH_multiplyHigh_24 hl (by decide) rfl (fun ls hl => ?_)
  refine lv_lload hx hb dH_multiplyHigh_26 (lv_at hl 2 rfl) ?_
  refine lv_lload hx hb dH_multiplyHigh_28 (lv_at hl 0 rfl) ?_
  refine lv_lmul hx hb dH_multiplyHigh_30 ?_
  refine lv_lstore (lv' := [(12, .long ((x &&& 4294967295) * (y &&& 4294967295))), (10, .long (y &&& 4294967295)), (8, .long (y >>> ((32 : Int32).toInt64 &&& 63))), (6, .long (x &&& 4294967295)), (4, .long (x >>> ((32 : Int32).toInt64 &&& 63))), (0, .long x), (2, .long y)]) hx hb dH_multiplyHigh_31 hl (by decide) rfl (fun ls hl => ?_)
  refine lv_lload hx hb dH_multiplyHigh_33 (lv_at hl 4 rfl) ?_
  refine lv_lload hx hb dH_multiplyHigh_35 (lv_at hl 1 rfl) ?_
  refine lv_lmul hx hb dH_multiplyHigh_37 ?_
  refine lv_lload hx hb dH_multiplyHigh_38 (lv_at hl 0 rfl) ?_
  refine lv_bipush (v := 32) hx hb dH_multiplyHigh_40 (by decide) ?_
  refine lv_lushr hx hb dH_multiplyHigh_42 rfl ?_
  refine lv_ladd hx hb dH_multiplyHigh_43 ?_
  refine lv_lstore (lv' := [(14, .long (((x >>> ((32 : Int32).toInt64 &&& 63)) * (y &&& 4294967295)) + ((((x &&& 4294967295) * (y &&& 4294967295)).toUInt64 >>> ((32 : Int32).toInt64.toUInt64 &&& Int64.toUInt64 63)).toInt64))), (12, .long ((x &&& 4294967295) * (y &&& 4294967295))), (10, .long (y &&& 4294967295)), (8, .long (y >>> ((32 : Int32).toInt64 &&& 63))), (6, .long (x &&& 4294967295)), (4, .long (x >>> ((32 : Int32).toInt64 &&& 63))), (0, .long x), (2, .long y)]) hx hb dH_multiplyHigh_44 hl (by decide) rfl (fun ls hl => ?_)
  refine lv_lload hx hb dH_multiplyHigh_46 (lv_at hl 0 rfl) ?_
  refine lv_ldc2 (v := 4294967295) hx hb hown (ht _ q_731) dH_multiplyHigh_48 ?_
  refine lv_land hx hb dH_multiplyHigh_51 ?_
  refine lv_lstore (lv' := [(16, .long ((((x >>> ((32 : Int32).toInt64 &&& 63)) * (y &&& 4294967295)) + ((((x &&& 4294967295) * (y &&& 4294967295)).toUInt64 >>> ((32 : Int32).toInt64.toUInt64 &&& Int64.toUInt64 63)).toInt64)) &&& 4294967295)), (14, .long (((x >>> ((32 : Int32).toInt64 &&& 63)) * (y &&& 4294967295)) + ((((x &&& 4294967295) * (y &&& 4294967295)).toUInt64 >>> ((32 : Int32).toInt64.toUInt64 &&& Int64.toUInt64 63)).toInt64))), (12, .long ((x &&& 4294967295) * (y &&& 4294967295))), (10, .long (y &&& 4294967295)), (8, .long (y >>> ((32 : Int32).toInt64 &&& 63))), (6, .long (x &&& 4294967295)), (4, .long (x >>> ((32 : Int32).toInt64 &&& 63))), (0, .long x), (2, .long y)]) hx hb dH_multiplyHigh_52 hl (by decide) rfl (fun ls hl => ?_)
  refine lv_lload hx hb dH_multiplyHigh_54 (lv_at hl 1 rfl) ?_
  refine lv_bipush (v := 32) hx hb dH_multiplyHigh_56 (by decide) ?_
  refine lv_lshr hx hb dH_multiplyHigh_58 rfl ?_
  refine lv_lstore (lv' := [(18, .long ((((x >>> ((32 : Int32).toInt64 &&& 63)) * (y &&& 4294967295)) + ((((x &&& 4294967295) * (y &&& 4294967295)).toUInt64 >>> ((32 : Int32).toInt64.toUInt64 &&& Int64.toUInt64 63)).toInt64)) >>> ((32 : Int32).toInt64 &&& 63))), (16, .long ((((x >>> ((32 : Int32).toInt64 &&& 63)) * (y &&& 4294967295)) + ((((x &&& 4294967295) * (y &&& 4294967295)).toUInt64 >>> ((32 : Int32).toInt64.toUInt64 &&& Int64.toUInt64 63)).toInt64)) &&& 4294967295)), (14, .long (((x >>> ((32 : Int32).toInt64 &&& 63)) * (y &&& 4294967295)) + ((((x &&& 4294967295) * (y &&& 4294967295)).toUInt64 >>> ((32 : Int32).toInt64.toUInt64 &&& Int64.toUInt64 63)).toInt64))), (12, .long ((x &&& 4294967295) * (y &&& 4294967295))), (10, .long (y &&& 4294967295)), (8, .long (y >>> ((32 : Int32).toInt64 &&& 63))), (6, .long (x &&& 4294967295)), (4, .long (x >>> ((32 : Int32).toInt64 &&& 63))), (0, .long x), (2, .long y)]) hx hb dH_multiplyHigh_59 hl (by decide) rfl (fun ls hl => ?_)
  refine lv_lload hx hb dH_multiplyHigh_61 (lv_at hl 1 rfl) ?_
  refine lv_lload hx hb dH_multiplyHigh_63 (lv_at hl 6 rfl) ?_
  refine lv_lload hx hb dH_multiplyHigh_65 (lv_at hl 5 rfl) ?_
  refine lv_lmul hx hb dH_multiplyHigh_67 ?_
  refine lv_ladd hx hb dH_multiplyHigh_68 ?_
  refine lv_lstore (lv' := [(16, .long (((((x >>> ((32 : Int32).toInt64 &&& 63)) * (y &&& 4294967295)) + ((((x &&& 4294967295) * (y &&& 4294967295)).toUInt64 >>> ((32 : Int32).toInt64.toUInt64 &&& Int64.toUInt64 63)).toInt64)) &&& 4294967295) + ((x &&& 4294967295) * (y >>> ((32 : Int32).toInt64 &&& 63))))), (18, .long ((((x >>> ((32 : Int32).toInt64 &&& 63)) * (y &&& 4294967295)) + ((((x &&& 4294967295) * (y &&& 4294967295)).toUInt64 >>> ((32 : Int32).toInt64.toUInt64 &&& Int64.toUInt64 63)).toInt64)) >>> ((32 : Int32).toInt64 &&& 63))), (14, .long (((x >>> ((32 : Int32).toInt64 &&& 63)) * (y &&& 4294967295)) + ((((x &&& 4294967295) * (y &&& 4294967295)).toUInt64 >>> ((32 : Int32).toInt64.toUInt64 &&& Int64.toUInt64 63)).toInt64))), (12, .long ((x &&& 4294967295) * (y &&& 4294967295))), (10, .long (y &&& 4294967295)), (8, .long (y >>> ((32 : Int32).toInt64 &&& 63))), (6, .long (x &&& 4294967295)), (4, .long (x >>> ((32 : Int32).toInt64 &&& 63))), (0, .long x), (2, .long y)]) hx hb dH_multiplyHigh_69 hl (by decide) rfl (fun ls hl => ?_)
  refine lv_lload hx hb dH_multiplyHigh_71 (lv_at hl 7 rfl) ?_
  refine lv_lload hx hb dH_multiplyHigh_73 (lv_at hl 5 rfl) ?_
  refine lv_lmul hx hb dH_multiplyHigh_75 ?_
  refine lv_lload hx hb dH_multiplyHigh_76 (lv_at hl 1 rfl) ?_
  refine lv_ladd hx hb dH_multiplyHigh_78 ?_
  refine lv_lload hx hb dH_multiplyHigh_79 (lv_at hl 0 rfl) ?_
  refine lv_bipush (v := 32) hx hb dH_multiplyHigh_81 (by decide) ?_
  refine lv_lshr hx hb dH_multiplyHigh_83 rfl ?_
  refine lv_ladd hx hb dH_multiplyHigh_84 ?_
  exact W.lret hx hb hr (fun t ht9 hW => ⟨_, rfl, rfl, ht9⟩) (fun q h => by cases h) dH_multiplyHigh_85
def sM_cross (px : Int64) (py : Int64) (qx : Int64) (qy : Int64) : Int64 :=
  ((px * qy) - (py * qx))
set_option maxHeartbeats 4000000 in
set_option maxRecDepth 100000 in
theorem cM_cross (l : Launch) (g : CX) (px : Int64) (py : Int64) (qx : Int64) (qy : Int64) : Met l yM_cross (wm yM_cross kM_cross 8 (some .long)) ({ frames := 0, cells := 0, slots := 0, locals := 0 }) (ro g [.long px, .long py, .long qx, .long qy] (fun _ => True)) (vp_Sl (fun r => r = sM_cross px py qx qy)) 0 0 (fun _ => False) := by
  refine Met.ofW (cc := kM_cross) (maxL := 8) (ret := (some .long)) (by decide) rfl ?_
  intro p e s m args below meth c s₁ B hml hv
  obtain ⟨rfl, hK, hP⟩ := hv
  have hx := B.exec
  have hb := B.bytes
  have hr := B.returns
  have ht : ∀ w ∈ wT, w.before _ s = true := fun w h => atoms_spec (ws := wm yM_cross kM_cross 8 (some .long)) B.pre w (List.mem_cons_of_mem _ h)
  have hown : s.vm.findClass "NodeMakerModel" = some m.cls := findClass_of_methodNamed B.named
  have hlocks := B.notSynchronized
  have hl := lv_entry ([.long px, .long py, .long qx, .long qy]) (n := 8) (Nat.le_of_ble_eq_true rfl)
  rw [lg_entry_eq]
  generalize (lg_sl ([.long px, .long py, .long qx, .long qy]) ++ List.replicate (8 - (lg_sl ([.long px, .long py, .long qx, .long qy])).length) Slot.unset).toArray = ls at hl ⊢
  have hl : lv_has ls 8 [(0, .long px), (2, .long py), (4, .long qx), (6, .long qy)] := hl
  refine lv_lload_n hx hb dM_cross_0 rfl (lv_at hl 0 rfl) ?_
  refine lv_lload hx hb dM_cross_1 (lv_at hl 3 rfl) ?_
  refine lv_lmul hx hb dM_cross_3 ?_
  refine lv_lload_n hx hb dM_cross_4 rfl (lv_at hl 1 rfl) ?_
  refine lv_lload hx hb dM_cross_5 (lv_at hl 2 rfl) ?_
  refine lv_lmul hx hb dM_cross_7 ?_
  refine lv_lsub hx hb dM_cross_8 ?_
  exact W.lret hx hb hr (fun t ht9 hW => ⟨_, rfl, rfl, ht9⟩) (fun q h => by cases h) dM_cross_9
def sM_isPlace (v : Int32) : Int32 :=
  if v < (-32768) then
    0
  else
    if 32767 < v then
      0
    else
      1
set_option maxHeartbeats 4000000 in
set_option maxRecDepth 100000 in
theorem cM_isPlace (l : Launch) (g : CX) (v : Int32) : Met l yM_isPlace (wm yM_isPlace kM_isPlace 1 (some .boolean)) ({ frames := 0, cells := 0, slots := 0, locals := 0 }) (ro g [.int v] (fun _ => True)) (vp_Si (fun r => r = sM_isPlace v)) 0 0 (fun _ => False) := by
  refine Met.ofW (cc := kM_isPlace) (maxL := 1) (ret := (some .boolean)) (by decide) rfl ?_
  intro p e s m args below meth c s₁ B hml hv
  obtain ⟨rfl, hK, hP⟩ := hv
  have hx := B.exec
  have hb := B.bytes
  have hr := B.returns
  have ht : ∀ w ∈ wT, w.before _ s = true := fun w h => atoms_spec (ws := wm yM_isPlace kM_isPlace 1 (some .boolean)) B.pre w (List.mem_cons_of_mem _ h)
  have hown : s.vm.findClass "NodeMakerModel" = some m.cls := findClass_of_methodNamed B.named
  have hlocks := B.notSynchronized
  have hl := lv_entry ([.int v]) (n := 1) (Nat.le_of_ble_eq_true rfl)
  rw [lg_entry_eq]
  generalize (lg_sl ([.int v]) ++ List.replicate (1 - (lg_sl ([.int v])).length) Slot.unset).toArray = ls at hl ⊢
  have hl : lv_has ls 1 [(0, .int v)] := hl
  refine lv_iload_n hx hb dM_isPlace_0 rfl (lv_at hl 0 rfl) ?_
  refine lv_sipush (v := -32768) hx hb dM_isPlace_1 (by decide) ?_
  refine lv_icmp_lt (tgt := 18) hx hb dM_isPlace_4 (by decide) (fun c_1 => ?_) (fun c_1 => ?_)
  · skip
    refine lv_iconst (v := 0) hx hb dM_isPlace_18 (by decide) ?_
    exact W.zret hx hb hr rfl (fun t ht9 hW => ⟨_, rfl, by rw [sM_isPlace, if_pos c_1], ht9⟩) (fun q h => by cases h) dM_isPlace_19
  · skip
    refine lv_iload_n hx hb dM_isPlace_7 rfl (lv_at hl 0 rfl) ?_
    refine lv_sipush (v := 32767) hx hb dM_isPlace_8 (by decide) ?_
    refine lv_icmp_gt (tgt := 18) hx hb dM_isPlace_11 (by decide) (fun c_2 => ?_) (fun c_2 => ?_)
    · skip
      refine lv_iconst (v := 0) hx hb dM_isPlace_18 (by decide) ?_
      exact W.zret hx hb hr rfl (fun t ht9 hW => ⟨_, rfl, by rw [sM_isPlace, if_neg c_1, if_pos c_2], ht9⟩) (fun q h => by cases h) dM_isPlace_19
    · skip
      refine lv_iconst (v := 1) hx hb dM_isPlace_14 (by decide) ?_
      refine lv_goto (tgt := 19) hx hb dM_isPlace_15 (by decide) ?_
      exact W.zret hx hb hr rfl (fun t ht9 hW => ⟨_, rfl, by rw [sM_isPlace, if_neg c_1, if_neg c_2], ht9⟩) (fun q h => by cases h) dM_isPlace_19
def sM_order (x : Int64) (y : Int64) (u : Int64) (v : Int64) : Int32 :=
  if (sH_multiplyHigh x y) = (sH_multiplyHigh u v) then
    if ((x * y) + (-9223372036854775808)) ≤ ((u * v) + (-9223372036854775808)) then
      if ((u * v) + (-9223372036854775808)) ≤ ((x * y) + (-9223372036854775808)) then
        0
      else
        (-1)
    else
      1
  else
    if (sH_multiplyHigh x y) ≤ (sH_multiplyHigh u v) then
      (-1)
    else
      1
set_option maxHeartbeats 4000000 in
set_option maxRecDepth 100000 in
theorem cM_order (l : Launch) (g : CX) (x : Int64) (y : Int64) (u : Int64) (v : Int64) : Met l yM_order (wm yM_order kM_order 16 (some .int)) ({ frames := 1, cells := 0, slots := 0, locals := 39 }) (ro g [.long x, .long y, .long u, .long v] (fun _ => True)) (vp_Si (fun r => r = sM_order x y u v)) 0 0 (fun _ => False) := by
  refine Met.ofW (cc := kM_order) (maxL := 16) (ret := (some .int)) (by decide) rfl ?_
  intro p e s m args below meth c s₁ B hml hv
  obtain ⟨rfl, hK, hP⟩ := hv
  have hx := B.exec
  have hb := B.bytes
  have hr := B.returns
  have ht : ∀ w ∈ wT, w.before _ s = true := fun w h => atoms_spec (ws := wm yM_order kM_order 16 (some .int)) B.pre w (List.mem_cons_of_mem _ h)
  have hown : s.vm.findClass "NodeMakerModel" = some m.cls := findClass_of_methodNamed B.named
  have hlocks := B.notSynchronized
  have hl := lv_entry ([.long x, .long y, .long u, .long v]) (n := 16) (Nat.le_of_ble_eq_true rfl)
  rw [lg_entry_eq]
  generalize (lg_sl ([.long x, .long y, .long u, .long v]) ++ List.replicate (16 - (lg_sl ([.long x, .long y, .long u, .long v])).length) Slot.unset).toArray = ls at hl ⊢
  have hl : lv_has ls 16 [(0, .long x), (2, .long y), (4, .long u), (6, .long v)] := hl
  refine lv_lload_n hx hb dM_order_0 rfl (lv_at hl 0 rfl) ?_
  refine lv_lload_n hx hb dM_order_1 rfl (lv_at hl 1 rfl) ?_
  refine ro_Sl (v := sH_multiplyHigh x y) (As := [.long x, .long y]) (rest := []) ⟨hx, hb, hml, hown, ht⟩ (cH_multiplyHigh l g x y) ⟨callB_of 2 ht (g_all q_730) rfl rfl rfl (ht _ q_41) (ht _ q_728) hd_H_multiplyHigh ⟨Nat.le_of_ble_eq_true rfl, Nat.le_of_ble_eq_true rfl⟩, ht _ q_729⟩ hK trivial rfl hl.1 rfl (Nat.le_of_ble_eq_true rfl) dM_order_2 ⟨by show 0 ≤ 0; omega, by show 0 ≤ 0; omega⟩ ?_
  refine lv_lstore (lv' := [(8, .long (sH_multiplyHigh x y)), (0, .long x), (2, .long y), (4, .long u), (6, .long v)]) hx hb dM_order_5 hl (by decide) rfl (fun ls hl => ?_)
  refine lv_lload hx hb dM_order_7 (lv_at hl 3 rfl) ?_
  refine lv_lload hx hb dM_order_9 (lv_at hl 4 rfl) ?_
  refine ro_Sl (v := sH_multiplyHigh u v) (As := [.long u, .long v]) (rest := []) ⟨hx, hb, hml, hown, ht⟩ (cH_multiplyHigh l g u v) ⟨callB_of 2 ht (g_all q_730) rfl rfl rfl (ht _ q_41) (ht _ q_728) hd_H_multiplyHigh ⟨Nat.le_of_ble_eq_true rfl, Nat.le_of_ble_eq_true rfl⟩, ht _ q_729⟩ hK trivial rfl hl.1 rfl (Nat.le_of_ble_eq_true rfl) dM_order_11 ⟨by show 0 ≤ 0; omega, by show 0 ≤ 0; omega⟩ ?_
  refine lv_lstore (lv' := [(10, .long (sH_multiplyHigh u v)), (8, .long (sH_multiplyHigh x y)), (0, .long x), (2, .long y), (4, .long u), (6, .long v)]) hx hb dM_order_14 hl (by decide) rfl (fun ls hl => ?_)
  refine lv_lload hx hb dM_order_16 (lv_at hl 1 rfl) ?_
  refine lv_lload hx hb dM_order_18 (lv_at hl 0 rfl) ?_
  refine W.lcmp hx hb dM_order_20 ?_
  refine lv_if_eq (tgt := 38) hx hb dM_order_21 (by decide) (fun c_3 => ?_) (fun c_3 => ?_)
  · skip
    rw [lg_cmp_eq] at c_3
    refine lv_lload_n hx hb dM_order_38 rfl (lv_at hl 2 rfl) ?_
    refine lv_lload_n hx hb dM_order_39 rfl (lv_at hl 3 rfl) ?_
    refine lv_lmul hx hb dM_order_40 ?_
    refine lv_ldc2 (v := (-9223372036854775808)) hx hb hown (ht _ q_732) dM_order_41 ?_
    refine lv_ladd hx hb dM_order_44 ?_
    refine lv_lstore (lv' := [(12, .long ((x * y) + (-9223372036854775808))), (10, .long (sH_multiplyHigh u v)), (8, .long (sH_multiplyHigh x y)), (0, .long x), (2, .long y), (4, .long u), (6, .long v)]) hx hb dM_order_45 hl (by decide) rfl (fun ls hl => ?_)
    refine lv_lload hx hb dM_order_47 (lv_at hl 5 rfl) ?_
    refine lv_lload hx hb dM_order_49 (lv_at hl 6 rfl) ?_
    refine lv_lmul hx hb dM_order_51 ?_
    refine lv_ldc2 (v := (-9223372036854775808)) hx hb hown (ht _ q_732) dM_order_52 ?_
    refine lv_ladd hx hb dM_order_55 ?_
    refine lv_lstore (lv' := [(14, .long ((u * v) + (-9223372036854775808))), (12, .long ((x * y) + (-9223372036854775808))), (10, .long (sH_multiplyHigh u v)), (8, .long (sH_multiplyHigh x y)), (0, .long x), (2, .long y), (4, .long u), (6, .long v)]) hx hb dM_order_56 hl (by decide) rfl (fun ls hl => ?_)
    refine lv_lload hx hb dM_order_58 (lv_at hl 1 rfl) ?_
    refine lv_lload hx hb dM_order_60 (lv_at hl 0 rfl) ?_
    refine W.lcmp hx hb dM_order_62 ?_
    refine lv_if_le (tgt := 70) hx hb dM_order_63 (by decide) (fun c_4 => ?_) (fun c_4 => ?_)
    · skip
      rw [lg_cmp_le] at c_4
      refine lv_lload hx hb dM_order_70 (lv_at hl 1 rfl) ?_
      refine lv_lload hx hb dM_order_72 (lv_at hl 0 rfl) ?_
      refine W.lcmp hx hb dM_order_74 ?_
      refine lv_if_ge (tgt := 82) hx hb dM_order_75 (by decide) (fun c_5 => ?_) (fun c_5 => ?_)
      · skip
        rw [lg_cmp_ge] at c_5
        refine lv_iconst (v := 0) hx hb dM_order_82 (by decide) ?_
        exact W.iret hx hb hr (fun t ht9 hW => ⟨_, rfl, by rw [sM_order, if_pos c_3, if_pos c_4, if_pos c_5], ht9⟩) (fun q h => by cases h) dM_order_83
      · skip
        rw [lg_cmp_ge] at c_5
        refine lv_iconst (v := -1) hx hb dM_order_78 (by decide) ?_
        refine lv_goto (tgt := 83) hx hb dM_order_79 (by decide) ?_
        exact W.iret hx hb hr (fun t ht9 hW => ⟨_, rfl, by rw [sM_order, if_pos c_3, if_pos c_4, if_neg c_5], ht9⟩) (fun q h => by cases h) dM_order_83
    · skip
      rw [lg_cmp_le] at c_4
      refine lv_iconst (v := 1) hx hb dM_order_66 (by decide) ?_
      refine lv_goto (tgt := 83) hx hb dM_order_67 (by decide) ?_
      exact W.iret hx hb hr (fun t ht9 hW => ⟨_, rfl, by rw [sM_order, if_pos c_3, if_neg c_4], ht9⟩) (fun q h => by cases h) dM_order_83
  · skip
    rw [lg_cmp_eq] at c_3
    refine lv_lload hx hb dM_order_24 (lv_at hl 1 rfl) ?_
    refine lv_lload hx hb dM_order_26 (lv_at hl 0 rfl) ?_
    refine W.lcmp hx hb dM_order_28 ?_
    refine lv_if_le (tgt := 36) hx hb dM_order_29 (by decide) (fun c_6 => ?_) (fun c_6 => ?_)
    · skip
      rw [lg_cmp_le] at c_6
      refine lv_iconst (v := -1) hx hb dM_order_36 (by decide) ?_
      exact W.iret hx hb hr (fun t ht9 hW => ⟨_, rfl, by rw [sM_order, if_neg c_3, if_pos c_6], ht9⟩) (fun q h => by cases h) dM_order_37
    · skip
      rw [lg_cmp_le] at c_6
      refine lv_iconst (v := 1) hx hb dM_order_32 (by decide) ?_
      refine lv_goto (tgt := 37) hx hb dM_order_33 (by decide) ?_
      exact W.iret hx hb hr (fun t ht9 hW => ⟨_, rfl, by rw [sM_order, if_neg c_3, if_neg c_6], ht9⟩) (fun q h => by cases h) dM_order_37
def sM_areOpposite (x : Int64) (y : Int64) : Int32 :=
  if 0 ≤ x then
    if x ≤ 0 then
      0
    else
      if 0 ≤ y then
        0
      else
        1
  else
    if 0 < y then
      1
    else
      if x ≤ 0 then
        0
      else
        if 0 ≤ y then
          0
        else
          1
set_option maxHeartbeats 4000000 in
set_option maxRecDepth 100000 in
theorem cM_areOpposite (l : Launch) (g : CX) (x : Int64) (y : Int64) : Met l yM_areOpposite (wm yM_areOpposite kM_areOpposite 4 (some .boolean)) ({ frames := 0, cells := 0, slots := 0, locals := 0 }) (ro g [.long x, .long y] (fun _ => True)) (vp_Si (fun r => r = sM_areOpposite x y)) 0 0 (fun _ => False) := by
  refine Met.ofW (cc := kM_areOpposite) (maxL := 4) (ret := (some .boolean)) (by decide) rfl ?_
  intro p e s m args below meth c s₁ B hml hv
  obtain ⟨rfl, hK, hP⟩ := hv
  have hx := B.exec
  have hb := B.bytes
  have hr := B.returns
  have ht : ∀ w ∈ wT, w.before _ s = true := fun w h => atoms_spec (ws := wm yM_areOpposite kM_areOpposite 4 (some .boolean)) B.pre w (List.mem_cons_of_mem _ h)
  have hown : s.vm.findClass "NodeMakerModel" = some m.cls := findClass_of_methodNamed B.named
  have hlocks := B.notSynchronized
  have hl := lv_entry ([.long x, .long y]) (n := 4) (Nat.le_of_ble_eq_true rfl)
  rw [lg_entry_eq]
  generalize (lg_sl ([.long x, .long y]) ++ List.replicate (4 - (lg_sl ([.long x, .long y])).length) Slot.unset).toArray = ls at hl ⊢
  have hl : lv_has ls 4 [(0, .long x), (2, .long y)] := hl
  refine lv_lload_n hx hb dM_areOpposite_0 rfl (lv_at hl 0 rfl) ?_
  refine lv_lconst (v := 0) hx hb dM_areOpposite_1 (by decide) ?_
  refine W.lcmp hx hb dM_areOpposite_2 ?_
  refine lv_if_ge (tgt := 12) hx hb dM_areOpposite_3 (by decide) (fun c_7 => ?_) (fun c_7 => ?_)
  · skip
    rw [lg_cmp_ge] at c_7
    refine lv_lload_n hx hb dM_areOpposite_12 rfl (lv_at hl 0 rfl) ?_
    refine lv_lconst (v := 0) hx hb dM_areOpposite_13 (by decide) ?_
    refine W.lcmp hx hb dM_areOpposite_14 ?_
    refine lv_if_le (tgt := 28) hx hb dM_areOpposite_15 (by decide) (fun c_8 => ?_) (fun c_8 => ?_)
    · skip
      rw [lg_cmp_le] at c_8
      refine lv_iconst (v := 0) hx hb dM_areOpposite_28 (by decide) ?_
      exact W.zret hx hb hr rfl (fun t ht9 hW => ⟨_, rfl, by rw [sM_areOpposite, if_pos c_7, if_pos c_8], ht9⟩) (fun q h => by cases h) dM_areOpposite_29
    · skip
      rw [lg_cmp_le] at c_8
      refine lv_lload_n hx hb dM_areOpposite_18 rfl (lv_at hl 1 rfl) ?_
      refine lv_lconst (v := 0) hx hb dM_areOpposite_19 (by decide) ?_
      refine W.lcmp hx hb dM_areOpposite_20 ?_
      refine lv_if_ge (tgt := 28) hx hb dM_areOpposite_21 (by decide) (fun c_9 => ?_) (fun c_9 => ?_)
      · skip
        rw [lg_cmp_ge] at c_9
        refine lv_iconst (v := 0) hx hb dM_areOpposite_28 (by decide) ?_
        exact W.zret hx hb hr rfl (fun t ht9 hW => ⟨_, rfl, by rw [sM_areOpposite, if_pos c_7, if_neg c_8, if_pos c_9], ht9⟩) (fun q h => by cases h) dM_areOpposite_29
      · skip
        rw [lg_cmp_ge] at c_9
        refine lv_iconst (v := 1) hx hb dM_areOpposite_24 (by decide) ?_
        refine lv_goto (tgt := 29) hx hb dM_areOpposite_25 (by decide) ?_
        exact W.zret hx hb hr rfl (fun t ht9 hW => ⟨_, rfl, by rw [sM_areOpposite, if_pos c_7, if_neg c_8, if_neg c_9], ht9⟩) (fun q h => by cases h) dM_areOpposite_29
  · skip
    rw [lg_cmp_ge] at c_7
    refine lv_lload_n hx hb dM_areOpposite_6 rfl (lv_at hl 1 rfl) ?_
    refine lv_lconst (v := 0) hx hb dM_areOpposite_7 (by decide) ?_
    refine W.lcmp hx hb dM_areOpposite_8 ?_
    refine lv_if_gt (tgt := 24) hx hb dM_areOpposite_9 (by decide) (fun c_10 => ?_) (fun c_10 => ?_)
    · skip
      rw [lg_cmp_gt] at c_10
      refine lv_iconst (v := 1) hx hb dM_areOpposite_24 (by decide) ?_
      refine lv_goto (tgt := 29) hx hb dM_areOpposite_25 (by decide) ?_
      exact W.zret hx hb hr rfl (fun t ht9 hW => ⟨_, rfl, by rw [sM_areOpposite, if_neg c_7, if_pos c_10], ht9⟩) (fun q h => by cases h) dM_areOpposite_29
    · skip
      rw [lg_cmp_gt] at c_10
      refine lv_lload_n hx hb dM_areOpposite_12 rfl (lv_at hl 0 rfl) ?_
      refine lv_lconst (v := 0) hx hb dM_areOpposite_13 (by decide) ?_
      refine W.lcmp hx hb dM_areOpposite_14 ?_
      refine lv_if_le (tgt := 28) hx hb dM_areOpposite_15 (by decide) (fun c_11 => ?_) (fun c_11 => ?_)
      · skip
        rw [lg_cmp_le] at c_11
        refine lv_iconst (v := 0) hx hb dM_areOpposite_28 (by decide) ?_
        exact W.zret hx hb hr rfl (fun t ht9 hW => ⟨_, rfl, by rw [sM_areOpposite, if_neg c_7, if_neg c_10, if_pos c_11], ht9⟩) (fun q h => by cases h) dM_areOpposite_29
      · skip
        rw [lg_cmp_le] at c_11
        refine lv_lload_n hx hb dM_areOpposite_18 rfl (lv_at hl 1 rfl) ?_
        refine lv_lconst (v := 0) hx hb dM_areOpposite_19 (by decide) ?_
        refine W.lcmp hx hb dM_areOpposite_20 ?_
        refine lv_if_ge (tgt := 28) hx hb dM_areOpposite_21 (by decide) (fun c_12 => ?_) (fun c_12 => ?_)
        · skip
          rw [lg_cmp_ge] at c_12
          refine lv_iconst (v := 0) hx hb dM_areOpposite_28 (by decide) ?_
          exact W.zret hx hb hr rfl (fun t ht9 hW => ⟨_, rfl, by rw [sM_areOpposite, if_neg c_7, if_neg c_10, if_neg c_11, if_pos c_12], ht9⟩) (fun q h => by cases h) dM_areOpposite_29
        · skip
          rw [lg_cmp_ge] at c_12
          refine lv_iconst (v := 1) hx hb dM_areOpposite_24 (by decide) ?_
          refine lv_goto (tgt := 29) hx hb dM_areOpposite_25 (by decide) ?_
          exact W.zret hx hb hr rfl (fun t ht9 hW => ⟨_, rfl, by rw [sM_areOpposite, if_neg c_7, if_neg c_10, if_neg c_11, if_neg c_12], ht9⟩) (fun q h => by cases h) dM_areOpposite_29
/-- the common divisor, with n turns at most; none if they don't do -/
def sCom : Nat → Int64 → Int64 → Option Int64
  | 0, _, _ => none
  | n + 1, a, b => if b ≤ 0 then some a else sCom n b (a - a / b * b)
set_option maxHeartbeats 4000000 in
set_option maxRecDepth 100000 in
theorem cM_common (l : Launch) (g : CX) (x y : Int64) (N : Nat) (r0 : Int64) (hok : sCom N x y = some r0) : Met l yM_common (wm yM_common kM_common 10 (some .long)) ({ frames := 0, cells := 0, slots := 0, locals := 0 }) (ro g [.long x, .long y] (fun _ => True)) (vp_Sl (fun r => r = r0)) 0 0 (fun _ => False) := by
  refine Met.ofW (cc := kM_common) (maxL := 10) (ret := (some .long)) (by decide) rfl ?_
  intro p e s m args below meth c s₁ B hml hv
  obtain ⟨rfl, hK, hP⟩ := hv
  have hx := B.exec
  have hb := B.bytes
  have hr := B.returns
  have ht : ∀ w ∈ wT, w.before _ s = true := fun w h => atoms_spec (ws := wm yM_common kM_common 10 (some .long)) B.pre w (List.mem_cons_of_mem _ h)
  have hown : s.vm.findClass "NodeMakerModel" = some m.cls := findClass_of_methodNamed B.named
  have hlocks := B.notSynchronized
  have hl := lv_entry ([.long x, .long y]) (n := 10) (Nat.le_of_ble_eq_true rfl)
  rw [lg_entry_eq]
  generalize (lg_sl ([.long x, .long y]) ++ List.replicate (10 - (lg_sl ([.long x, .long y])).length) Slot.unset).toArray = ls at hl ⊢
  have hl : lv_has ls 10 [(0, .long x), (2, .long y)] := hl
  refine lv_lload_n hx hb dM_common_0 rfl (lv_at hl 0 rfl) ?_
  refine lv_lstore (lv' := [(4, .long x), (0, .long x), (2, .long y)]) hx hb dM_common_1 hl (by decide) rfl (fun ls hl => ?_)
  refine lv_lload_n hx hb dM_common_3 rfl (lv_at hl 2 rfl) ?_
  refine lv_lstore (lv' := [(6, .long y), (4, .long x), (0, .long x), (2, .long y)]) hx hb dM_common_4 hl (by decide) rfl (fun ls hl => ?_)
  have loop6 : ∀ (n : Nat) (a b : Int64) (ls : Array Slot), sCom n a b = some r0 → lv_has ls 10 [(6, .long b), (4, .long a)] → W p l e (headSpec (wm yM_common kM_common 10 (some .long)) ({ frames := 0, cells := 0, slots := 0, locals := 0 })).room s m ([.long x, .long y] : List Value).toArray below meth c s.heap [] (0) (0) (MQ below (vp_Sl (fun r => r = r0)) ([.long x, .long y] : List Value).toArray s 0 0 (fun _ => False)) (F0 m 6 ls []) := by
    intro n
    induction n with
    | zero => intro a b ls hR hl; cases hR
    | succ n ih =>
      intro a b ls hR hl
      refine lv_lload hx hb dM_common_6 (lv_at hl 0 rfl) ?_
      refine lv_lconst (v := 0) hx hb dM_common_8 (by decide) ?_
      refine W.lcmp hx hb dM_common_9 ?_
      refine lv_if_le (tgt := 31) hx hb dM_common_10 (by decide) (fun c_13 => ?_) (fun c_13 => ?_)
      · skip
        rw [lg_cmp_le] at c_13
        refine lv_lload hx hb dM_common_31 (lv_at hl 1 rfl) ?_
        exact W.lret hx hb hr (fun t ht9 hW => ⟨_, rfl, by rw [sCom, if_pos c_13] at hR; exact Option.some.inj hR, ht9⟩) (fun q h => by cases h) dM_common_33
      · skip
        rw [lg_cmp_le] at c_13
        refine lv_lload hx hb dM_common_13 (lv_at hl 1 rfl) ?_
        refine lv_lload hx hb dM_common_15 (lv_at hl 0 rfl) ?_
        refine lv_lrem hx hb dM_common_17 (fun h9 => c_13 (by rw [h9]; decide)) ?_
        refine lv_lstore (lv' := [(8, .long (a - a / b * b)), (6, .long b), (4, .long a)]) hx hb dM_common_18 hl (by decide) rfl (fun ls hl => ?_)
        refine lv_lload hx hb dM_common_20 (lv_at hl 1 rfl) ?_
        refine lv_lstore (lv' := [(4, .long b), (8, .long (a - a / b * b)), (6, .long b)]) hx hb dM_common_22 hl (by decide) rfl (fun ls hl => ?_)
        refine lv_lload hx hb dM_common_24 (lv_at hl 1 rfl) ?_
        refine lv_lstore (lv' := [(6, .long (a - a / b * b)), (4, .long b), (8, .long (a - a / b * b))]) hx hb dM_common_26 hl (by decide) rfl (fun ls hl => ?_)
        refine lv_goto (tgt := 6) hx hb dM_common_28 (by decide) ?_
        exact ih b (a - a / b * b) ls (by rw [← hR, sCom, if_neg c_13]) (lv_sub hl [0, 1] rfl)
  exact loop6 N x y ls hok (lv_sub hl [0, 1] rfl)
