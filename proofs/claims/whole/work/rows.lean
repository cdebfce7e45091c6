section
-- ===== PART A: goes FIRST, ahead of the names: the tables' words, and 'selects' of the private methods out of them =====
/-- a private method of a class that the tables say can be made, by its rows of tables_1 -/
def lw_okq (q : MethodName × Nat) : Prop := (q.1.cls ≠ "java/lang/invoke/MethodHandle" ∧ q.1.cls ≠ "java/lang/invoke/VarHandle") ∧ Cond.instantiable q.1.cls q.2 ∈ tables_1 ∧ Cond.privateMethod q.1 ∈ tables_1 ∧ Cond.instanceMethod q.1 ∈ tables_1
theorem lw_p0 : lw_okq (⟨"NodeMaker$Tree", "fell", "()V"⟩, 13) := ⟨⟨by decide +kernel, by decide +kernel⟩, List.mem_of_getElem? (i := 20) (by decide +kernel), List.mem_of_getElem? (i := 230) (by decide +kernel), List.mem_of_getElem? (i := 231) (by decide +kernel)⟩
theorem lw_p1 : lw_okq (⟨"NodeMaker$Tree", "plant", "(II)I"⟩, 13) := ⟨⟨by decide +kernel, by decide +kernel⟩, List.mem_of_getElem? (i := 20) (by decide +kernel), List.mem_of_getElem? (i := 266) (by decide +kernel), List.mem_of_getElem? (i := 267) (by decide +kernel)⟩
theorem lw_p2 : lw_okq (⟨"NodeMaker$Tree", "bestLine", "(I)I"⟩, 13) := ⟨⟨by decide +kernel, by decide +kernel⟩, List.mem_of_getElem? (i := 20) (by decide +kernel), List.mem_of_getElem? (i := 279) (by decide +kernel), List.mem_of_getElem? (i := 280) (by decide +kernel)⟩
theorem lw_p3 : lw_okq (⟨"NodeMaker$Tree", "whereLies", "(II)I"⟩, 13) := ⟨⟨by decide +kernel, by decide +kernel⟩, List.mem_of_getElem? (i := 20) (by decide +kernel), List.mem_of_getElem? (i := 291) (by decide +kernel), List.mem_of_getElem? (i := 292) (by decide +kernel)⟩
theorem lw_p4 : lw_okq (⟨"NodeMaker$Tree", "sideOfEnd", "(IIIZ)I"⟩, 13) := ⟨⟨by decide +kernel, by decide +kernel⟩, List.mem_of_getElem? (i := 20) (by decide +kernel), List.mem_of_getElem? (i := 299) (by decide +kernel), List.mem_of_getElem? (i := 300) (by decide +kernel)⟩
theorem lw_p5 : lw_okq (⟨"NodeMaker$Tree", "divide", "(III)I"⟩, 13) := ⟨⟨by decide +kernel, by decide +kernel⟩, List.mem_of_getElem? (i := 20) (by decide +kernel), List.mem_of_getElem? (i := 323) (by decide +kernel), List.mem_of_getElem? (i := 324) (by decide +kernel)⟩
theorem lw_p6 : lw_okq (⟨"NodeMaker$Tree", "firstPieceFrom", "(I)I"⟩, 13) := ⟨⟨by decide +kernel, by decide +kernel⟩, List.mem_of_getElem? (i := 20) (by decide +kernel), List.mem_of_getElem? (i := 358) (by decide +kernel), List.mem_of_getElem? (i := 359) (by decide +kernel)⟩
theorem lw_p7 : lw_okq (⟨"NodeMaker$Tree", "liesLeft", "(III)Z"⟩, 13) := ⟨⟨by decide +kernel, by decide +kernel⟩, List.mem_of_getElem? (i := 20) (by decide +kernel), List.mem_of_getElem? (i := 404) (by decide +kernel), List.mem_of_getElem? (i := 405) (by decide +kernel)⟩
theorem lw_p8 : lw_okq (⟨"NodeMaker$Tree", "piecesIn", "(I)I"⟩, 13) := ⟨⟨by decide +kernel, by decide +kernel⟩, List.mem_of_getElem? (i := 20) (by decide +kernel), List.mem_of_getElem? (i := 425) (by decide +kernel), List.mem_of_getElem? (i := 426) (by decide +kernel)⟩
theorem lw_p9 : lw_okq (⟨"NodeMakerModel", "free", "()I"⟩, 37) := ⟨⟨by decide +kernel, by decide +kernel⟩, List.mem_of_getElem? (i := 470) (by decide +kernel), List.mem_of_getElem? (i := 594) (by decide +kernel), List.mem_of_getElem? (i := 595) (by decide +kernel)⟩
theorem lw_p10 : lw_okq (⟨"NodeMakerModel", "touch", "(II)Z"⟩, 37) := ⟨⟨by decide +kernel, by decide +kernel⟩, List.mem_of_getElem? (i := 470) (by decide +kernel), List.mem_of_getElem? (i := 601) (by decide +kernel), List.mem_of_getElem? (i := 602) (by decide +kernel)⟩
theorem lw_p11 : lw_okq (⟨"NodeMakerModel", "isEnd", "(III)Z"⟩, 37) := ⟨⟨by decide +kernel, by decide +kernel⟩, List.mem_of_getElem? (i := 470) (by decide +kernel), List.mem_of_getElem? (i := 605) (by decide +kernel), List.mem_of_getElem? (i := 606) (by decide +kernel)⟩
theorem lw_p12 : lw_okq (⟨"NodeMakerModel", "sideOf", "(IJJ)J"⟩, 37) := ⟨⟨by decide +kernel, by decide +kernel⟩, List.mem_of_getElem? (i := 470) (by decide +kernel), List.mem_of_getElem? (i := 609) (by decide +kernel), List.mem_of_getElem? (i := 610) (by decide +kernel)⟩
theorem lw_p13 : lw_okq (⟨"NodeMakerModel", "lies", "(III)Z"⟩, 37) := ⟨⟨by decide +kernel, by decide +kernel⟩, List.mem_of_getElem? (i := 470) (by decide +kernel), List.mem_of_getElem? (i := 619) (by decide +kernel), List.mem_of_getElem? (i := 620) (by decide +kernel)⟩
theorem lw_p14 : lw_okq (⟨"NodeMakerModel", "isWall", "(I)Z"⟩, 37) := ⟨⟨by decide +kernel, by decide +kernel⟩, List.mem_of_getElem? (i := 470) (by decide +kernel), List.mem_of_getElem? (i := 627) (by decide +kernel), List.mem_of_getElem? (i := 628) (by decide +kernel)⟩
theorem lw_p15 : lw_okq (⟨"NodeMakerModel", "isNode", "(I)Z"⟩, 37) := ⟨⟨by decide +kernel, by decide +kernel⟩, List.mem_of_getElem? (i := 470) (by decide +kernel), List.mem_of_getElem? (i := 639) (by decide +kernel), List.mem_of_getElem? (i := 640) (by decide +kernel)⟩
def lw_privs_1 : List (MethodName × Nat) := [(⟨"NodeMaker$Tree", "fell", "()V"⟩, 13), (⟨"NodeMaker$Tree", "plant", "(II)I"⟩, 13), (⟨"NodeMaker$Tree", "bestLine", "(I)I"⟩, 13), (⟨"NodeMaker$Tree", "whereLies", "(II)I"⟩, 13), (⟨"NodeMaker$Tree", "sideOfEnd", "(IIIZ)I"⟩, 13), (⟨"NodeMaker$Tree", "divide", "(III)I"⟩, 13), (⟨"NodeMaker$Tree", "firstPieceFrom", "(I)I"⟩, 13), (⟨"NodeMaker$Tree", "liesLeft", "(III)Z"⟩, 13), (⟨"NodeMaker$Tree", "piecesIn", "(I)I"⟩, 13), (⟨"NodeMakerModel", "free", "()I"⟩, 37), (⟨"NodeMakerModel", "touch", "(II)Z"⟩, 37), (⟨"NodeMakerModel", "isEnd", "(III)Z"⟩, 37), (⟨"NodeMakerModel", "sideOf", "(IJJ)J"⟩, 37), (⟨"NodeMakerModel", "lies", "(III)Z"⟩, 37), (⟨"NodeMakerModel", "isWall", "(I)Z"⟩, 37), (⟨"NodeMakerModel", "isNode", "(I)Z"⟩, 37)]
theorem lw_r1 : ∀ q ∈ lw_privs_1, lw_okq q := List.forall_mem_cons.mpr ⟨lw_p0, List.forall_mem_cons.mpr ⟨lw_p1, List.forall_mem_cons.mpr ⟨lw_p2, List.forall_mem_cons.mpr ⟨lw_p3, List.forall_mem_cons.mpr ⟨lw_p4, List.forall_mem_cons.mpr ⟨lw_p5, List.forall_mem_cons.mpr ⟨lw_p6, List.forall_mem_cons.mpr ⟨lw_p7, List.forall_mem_cons.mpr ⟨lw_p8, List.forall_mem_cons.mpr ⟨lw_p9, List.forall_mem_cons.mpr ⟨lw_p10, List.forall_mem_cons.mpr ⟨lw_p11, List.forall_mem_cons.mpr ⟨lw_p12, List.forall_mem_cons.mpr ⟨lw_p13, List.forall_mem_cons.mpr ⟨lw_p14, List.forall_mem_cons.mpr ⟨lw_p15, fun _ h => absurd h List.not_mem_nil⟩⟩⟩⟩⟩⟩⟩⟩⟩⟩⟩⟩⟩⟩⟩⟩
theorem lw_p16 : lw_okq (⟨"NodeMakerModel", "know", "()V"⟩, 37) := ⟨⟨by decide +kernel, by decide +kernel⟩, List.mem_of_getElem? (i := 470) (by decide +kernel), List.mem_of_getElem? (i := 643) (by decide +kernel), List.mem_of_getElem? (i := 644) (by decide +kernel)⟩
theorem lw_p17 : lw_okq (⟨"NodeMakerModel", "make", "()V"⟩, 37) := ⟨⟨by decide +kernel, by decide +kernel⟩, List.mem_of_getElem? (i := 470) (by decide +kernel), List.mem_of_getElem? (i := 647) (by decide +kernel), List.mem_of_getElem? (i := 648) (by decide +kernel)⟩
theorem lw_p18 : lw_okq (⟨"NodeMakerModel", "piece", "(IJJJJ)I"⟩, 37) := ⟨⟨by decide +kernel, by decide +kernel⟩, List.mem_of_getElem? (i := 470) (by decide +kernel), List.mem_of_getElem? (i := 651) (by decide +kernel), List.mem_of_getElem? (i := 652) (by decide +kernel)⟩
theorem lw_p19 : lw_okq (⟨"NodeMakerModel", "push", "(IIII)V"⟩, 37) := ⟨⟨by decide +kernel, by decide +kernel⟩, List.mem_of_getElem? (i := 470) (by decide +kernel), List.mem_of_getElem? (i := 655) (by decide +kernel), List.mem_of_getElem? (i := 656) (by decide +kernel)⟩
theorem lw_p20 : lw_okq (⟨"NodeMakerModel", "divide", "(IIII)V"⟩, 37) := ⟨⟨by decide +kernel, by decide +kernel⟩, List.mem_of_getElem? (i := 470) (by decide +kernel), List.mem_of_getElem? (i := 659) (by decide +kernel), List.mem_of_getElem? (i := 660) (by decide +kernel)⟩
theorem lw_p21 : lw_okq (⟨"NodeMakerModel", "bestOf", "(II)I"⟩, 37) := ⟨⟨by decide +kernel, by decide +kernel⟩, List.mem_of_getElem? (i := 470) (by decide +kernel), List.mem_of_getElem? (i := 663) (by decide +kernel), List.mem_of_getElem? (i := 664) (by decide +kernel)⟩
theorem lw_p22 : lw_okq (⟨"NodeMakerModel", "lieOf", "(II)I"⟩, 37) := ⟨⟨by decide +kernel, by decide +kernel⟩, List.mem_of_getElem? (i := 470) (by decide +kernel), List.mem_of_getElem? (i := 668) (by decide +kernel), List.mem_of_getElem? (i := 669) (by decide +kernel)⟩
theorem lw_p23 : lw_okq (⟨"NodeMakerModel", "sideAt", "(IIJJ)I"⟩, 37) := ⟨⟨by decide +kernel, by decide +kernel⟩, List.mem_of_getElem? (i := 470) (by decide +kernel), List.mem_of_getElem? (i := 672) (by decide +kernel), List.mem_of_getElem? (i := 673) (by decide +kernel)⟩
theorem lw_p24 : lw_okq (⟨"NodeMakerModel", "collect", "(IIIII)I"⟩, 37) := ⟨⟨by decide +kernel, by decide +kernel⟩, List.mem_of_getElem? (i := 470) (by decide +kernel), List.mem_of_getElem? (i := 684) (by decide +kernel), List.mem_of_getElem? (i := 685) (by decide +kernel)⟩
theorem lw_p25 : lw_okq (⟨"NodeMakerModel", "part", "(III)I"⟩, 37) := ⟨⟨by decide +kernel, by decide +kernel⟩, List.mem_of_getElem? (i := 470) (by decide +kernel), List.mem_of_getElem? (i := 688) (by decide +kernel), List.mem_of_getElem? (i := 689) (by decide +kernel)⟩
theorem lw_p26 : lw_okq (⟨"NodeMakerModel", "within", "(I)I"⟩, 37) := ⟨⟨by decide +kernel, by decide +kernel⟩, List.mem_of_getElem? (i := 470) (by decide +kernel), List.mem_of_getElem? (i := 692) (by decide +kernel), List.mem_of_getElem? (i := 693) (by decide +kernel)⟩
theorem lw_p27 : lw_okq (⟨"NodeMakerModel", "isOn", "(II)Z"⟩, 37) := ⟨⟨by decide +kernel, by decide +kernel⟩, List.mem_of_getElem? (i := 470) (by decide +kernel), List.mem_of_getElem? (i := 700) (by decide +kernel), List.mem_of_getElem? (i := 701) (by decide +kernel)⟩
theorem lw_p28 : lw_okq (⟨"NodeMakerModel", "isLeft", "(III)Z"⟩, 37) := ⟨⟨by decide +kernel, by decide +kernel⟩, List.mem_of_getElem? (i := 470) (by decide +kernel), List.mem_of_getElem? (i := 716) (by decide +kernel), List.mem_of_getElem? (i := 717) (by decide +kernel)⟩
theorem lw_p29 : lw_okq (⟨"NodeMakerModel", "nodeOf", "(I)I"⟩, 37) := ⟨⟨by decide +kernel, by decide +kernel⟩, List.mem_of_getElem? (i := 470) (by decide +kernel), List.mem_of_getElem? (i := 728) (by decide +kernel), List.mem_of_getElem? (i := 729) (by decide +kernel)⟩
theorem lw_p30 : lw_okq (⟨"NodeMakerModel", "aheadOf", "(I)I"⟩, 37) := ⟨⟨by decide +kernel, by decide +kernel⟩, List.mem_of_getElem? (i := 470) (by decide +kernel), List.mem_of_getElem? (i := 732) (by decide +kernel), List.mem_of_getElem? (i := 733) (by decide +kernel)⟩
def lw_privs_2 : List (MethodName × Nat) := [(⟨"NodeMakerModel", "know", "()V"⟩, 37), (⟨"NodeMakerModel", "make", "()V"⟩, 37), (⟨"NodeMakerModel", "piece", "(IJJJJ)I"⟩, 37), (⟨"NodeMakerModel", "push", "(IIII)V"⟩, 37), (⟨"NodeMakerModel", "divide", "(IIII)V"⟩, 37), (⟨"NodeMakerModel", "bestOf", "(II)I"⟩, 37), (⟨"NodeMakerModel", "lieOf", "(II)I"⟩, 37), (⟨"NodeMakerModel", "sideAt", "(IIJJ)I"⟩, 37), (⟨"NodeMakerModel", "collect", "(IIIII)I"⟩, 37), (⟨"NodeMakerModel", "part", "(III)I"⟩, 37), (⟨"NodeMakerModel", "within", "(I)I"⟩, 37), (⟨"NodeMakerModel", "isOn", "(II)Z"⟩, 37), (⟨"NodeMakerModel", "isLeft", "(III)Z"⟩, 37), (⟨"NodeMakerModel", "nodeOf", "(I)I"⟩, 37), (⟨"NodeMakerModel", "aheadOf", "(I)I"⟩, 37)]
theorem lw_r2 : ∀ q ∈ lw_privs_2, lw_okq q := List.forall_mem_cons.mpr ⟨lw_p16, List.forall_mem_cons.mpr ⟨lw_p17, List.forall_mem_cons.mpr ⟨lw_p18, List.forall_mem_cons.mpr ⟨lw_p19, List.forall_mem_cons.mpr ⟨lw_p20, List.forall_mem_cons.mpr ⟨lw_p21, List.forall_mem_cons.mpr ⟨lw_p22, List.forall_mem_cons.mpr ⟨lw_p23, List.forall_mem_cons.mpr ⟨lw_p24, List.forall_mem_cons.mpr ⟨lw_p25, List.forall_mem_cons.mpr ⟨lw_p26, List.forall_mem_cons.mpr ⟨lw_p27, List.forall_mem_cons.mpr ⟨lw_p28, List.forall_mem_cons.mpr ⟨lw_p29, List.forall_mem_cons.mpr ⟨lw_p30, fun _ h => absurd h List.not_mem_nil⟩⟩⟩⟩⟩⟩⟩⟩⟩⟩⟩⟩⟩⟩⟩
def lw_privs : List (MethodName × Nat) := lw_privs_1 ++ (lw_privs_2)
def lw_tbl : List Cond := k2_sels lw_privs ++ tables_1
theorem lw_privs_ok : ∀ q ∈ lw_privs, lw_okq q := by
  show ∀ q ∈ lw_privs_1 ++ (lw_privs_2), lw_okq q
  exact List.forall_mem_append.mpr ⟨lw_r1, lw_r2⟩

/-- every word of the tables that a method may carry on: the same for all methods -/
def wT : List Cond := lw_tbl.filter goodWord
theorem wT_of {w : Cond} (h : w ∈ lw_tbl) (g : goodWord w = true) : w ∈ wT := List.mem_filter.mpr ⟨h, g⟩
theorem wT_good {w : Cond} (h : w ∈ wT) : (w.onTables && w.keeps) = true ∨ ∃ ty, w = .arrayClass ty := good_of_word (List.mem_filter.mp h).2
/-- a method's words: its code, and all of wT -/
abbrev wm (y : MethodName) (k : ByteArray) (n : Nat) (r : Option FieldType) : List Cond := Cond.code y k n r :: wT
theorem g_all {y : MethodName} {k : ByteArray} {n : Nat} {r : Option FieldType} (h : Cond.code y k n r ∈ wT) : GoodIn wT (wm y k n r) := by
  intro w hw
  rcases List.mem_cons.mp hw with rfl | hw
  · exact ⟨h, wT_good h⟩
  · exact ⟨hw, wT_good hw⟩
theorem g_cons {c : Cond} {a b : List Cond} (h : c ∈ wT) (hb : GoodIn wT b) : GoodIn wT (c :: b) := by
  intro w hw
  rcases List.mem_cons.mp hw with rfl | hw
  · exact ⟨h, wT_good h⟩
  · exact hb w hw
theorem g_V {own C : String} {idx : Nat} {y : MethodName} {k : ByteArray} {n : Nat} {r : Option FieldType} (h1 : Cond.methodLink own idx y ∈ wT) (h2 : Cond.instanceMethod y ∈ wT) (h3 : Cond.selects C y y ∈ wT) (h4 : Cond.initialized C ∈ wT) (h : Cond.code y k n r ∈ wT) : GoodIn wT (wsV own idx C y (wm y k n r)) := by
  intro w hw
  rcases List.mem_append.mp hw with hw | hw
  · rcases List.mem_cons.mp hw with rfl | hw
    · exact ⟨h1, wT_good h1⟩
    rcases List.mem_cons.mp hw with rfl | hw
    · exact ⟨h2, wT_good h2⟩
    rcases List.mem_cons.mp hw with rfl | hw
    · exact ⟨h3, wT_good h3⟩
    rcases List.mem_cons.mp hw with rfl | hw
    · exact ⟨h4, wT_good h4⟩
    exact absurd hw List.not_mem_nil
  · exact g_all h w hw
theorem g_S {own : String} {idx : Nat} {y : MethodName} {k : ByteArray} {n : Nat} {r : Option FieldType} (h1 : Cond.methodLink own idx y ∈ wT) (h2 : Cond.static y ∈ wT) (h4 : Cond.initialized own ∈ wT) (h : Cond.code y k n r ∈ wT) : GoodIn wT (wsS own idx y (wm y k n r)) := by
  intro w hw
  rcases List.mem_append.mp hw with hw | hw
  · rcases List.mem_cons.mp hw with rfl | hw
    · exact ⟨h1, wT_good h1⟩
    rcases List.mem_cons.mp hw with rfl | hw
    · exact ⟨h2, wT_good h2⟩
    rcases List.mem_cons.mp hw with rfl | hw
    · exact ⟨h4, wT_good h4⟩
    exact absurd hw List.not_mem_nil
  · exact g_all h w hw
end
section
def Fd_R : u_T := fun k => match k with
  | 0 => ("NodeMaker$Row", "cells", "[I", false)
  | _ => ("NodeMaker$Row", "count", "I", false)
def ty_R : Nat → FieldType := fun k => match k with
  | 0 => (.array .int)
  | _ => .int
theorem nm_R : ∀ a, a < 2 → ∀ b, b < 2 → a ≠ b → (Fd_R a).2.1 ≠ (Fd_R b).2.1 := by decide +kernel
theorem ty_R_ok : ∀ k, k < 2 → parseFieldDescriptor (Fd_R k).2.2.1 = some (ty_R k) := by decide +kernel
theorem i0_R : ∀ w ∈ u_ws "NodeMaker$Row" Fd_R 2, w ∈ lw_tbl := by decide +kernel
theorem i1_R : ∀ w ∈ u_ws "NodeMaker$Row" Fd_R 2, goodWord w = true := by decide +kernel
theorem i_R : ∀ w ∈ u_ws "NodeMaker$Row" Fd_R 2, w ∈ wT := fun w h => wT_of (i0_R w h) (i1_R w h)
def Fd_P : u_T := fun k => match k with
  | 0 => ("NodeMaker$Pieces", "walls", "LNodeMaker$Row;", true)
  | 1 => ("NodeMaker$Pieces", "firstCutters", "LNodeMaker$Row;", true)
  | _ => ("NodeMaker$Pieces", "lastCutters", "LNodeMaker$Row;", true)
def ty_P : Nat → FieldType := fun k => match k with
  | 0 => (.object "NodeMaker$Row")
  | 1 => (.object "NodeMaker$Row")
  | _ => (.object "NodeMaker$Row")
theorem nm_P : ∀ a, a < 3 → ∀ b, b < 3 → a ≠ b → (Fd_P a).2.1 ≠ (Fd_P b).2.1 := by decide +kernel
theorem ty_P_ok : ∀ k, k < 3 → parseFieldDescriptor (Fd_P k).2.2.1 = some (ty_P k) := by decide +kernel
theorem i0_P : ∀ w ∈ u_ws "NodeMaker$Pieces" Fd_P 3, w ∈ lw_tbl := by decide +kernel
theorem i1_P : ∀ w ∈ u_ws "NodeMaker$Pieces" Fd_P 3, goodWord w = true := by decide +kernel
theorem i_P : ∀ w ∈ u_ws "NodeMaker$Pieces" Fd_P 3, w ∈ wT := fun w h => wT_of (i0_P w h) (i1_P w h)
def Fd_W : u_T := fun k => match k with
  | 0 => ("NodeMaker$Wall", "ax", "I", true)
  | 1 => ("NodeMaker$Wall", "ay", "I", true)
  | 2 => ("NodeMaker$Wall", "bx", "I", true)
  | _ => ("NodeMaker$Wall", "by", "I", true)
def ty_W : Nat → FieldType := fun k => match k with
  | 0 => .int
  | 1 => .int
  | 2 => .int
  | _ => .int
theorem nm_W : ∀ a, a < 4 → ∀ b, b < 4 → a ≠ b → (Fd_W a).2.1 ≠ (Fd_W b).2.1 := by decide +kernel
theorem ty_W_ok : ∀ k, k < 4 → parseFieldDescriptor (Fd_W k).2.2.1 = some (ty_W k) := by decide +kernel
theorem i0_W : ∀ w ∈ u_ws "NodeMaker$Wall" Fd_W 4, w ∈ lw_tbl := by decide +kernel
theorem i1_W : ∀ w ∈ u_ws "NodeMaker$Wall" Fd_W 4, goodWord w = true := by decide +kernel
theorem i_W : ∀ w ∈ u_ws "NodeMaker$Wall" Fd_W 4, w ∈ wT := fun w h => wT_of (i0_W w h) (i1_W w h)
def Fd_S : u_T := fun k => match k with
  | 0 => ("NodeMaker$Walls", "slots", "[LNodeMaker$Wall;", true)
  | _ => ("NodeMaker$Walls", "count", "I", false)
def ty_S : Nat → FieldType := fun k => match k with
  | 0 => (.array (.object "NodeMaker$Wall"))
  | _ => .int
theorem nm_S : ∀ a, a < 2 → ∀ b, b < 2 → a ≠ b → (Fd_S a).2.1 ≠ (Fd_S b).2.1 := by decide +kernel
theorem ty_S_ok : ∀ k, k < 2 → parseFieldDescriptor (Fd_S k).2.2.1 = some (ty_S k) := by decide +kernel
theorem i0_S : ∀ w ∈ u_ws "NodeMaker$Walls" Fd_S 2, w ∈ lw_tbl := by decide +kernel
theorem i1_S : ∀ w ∈ u_ws "NodeMaker$Walls" Fd_S 2, goodWord w = true := by decide +kernel
theorem i_S : ∀ w ∈ u_ws "NodeMaker$Walls" Fd_S 2, w ∈ wT := fun w h => wT_of (i0_S w h) (i1_S w h)
def Fd_T : u_T := fun k => match k with
  | 0 => ("NodeMaker$Tree", "walls", "LNodeMaker$Walls;", true)
  | 1 => ("NodeMaker$Tree", "lines", "LNodeMaker$Row;", true)
  | 2 => ("NodeMaker$Tree", "lefts", "LNodeMaker$Row;", true)
  | 3 => ("NodeMaker$Tree", "rights", "LNodeMaker$Row;", true)
  | 4 => ("NodeMaker$Tree", "sizes", "LNodeMaker$Row;", true)
  | 5 => ("NodeMaker$Tree", "depths", "LNodeMaker$Row;", true)
  | 6 => ("NodeMaker$Tree", "firstPieces", "LNodeMaker$Row;", true)
  | 7 => ("NodeMaker$Tree", "pieces", "LNodeMaker$Pieces;", true)
  | 8 => ("NodeMaker$Tree", "homes", "LNodeMaker$Row;", true)
  | 9 => ("NodeMaker$Tree", "waiting", "LNodeMaker$Pieces;", true)
  | 10 => ("NodeMaker$Tree", "leftList", "LNodeMaker$Pieces;", true)
  | 11 => ("NodeMaker$Tree", "height", "I", false)
  | _ => ("NodeMaker$Tree", "stale", "Z", false)
def ty_T : Nat → FieldType := fun k => match k with
  | 0 => (.object "NodeMaker$Walls")
  | 1 => (.object "NodeMaker$Row")
  | 2 => (.object "NodeMaker$Row")
  | 3 => (.object "NodeMaker$Row")
  | 4 => (.object "NodeMaker$Row")
  | 5 => (.object "NodeMaker$Row")
  | 6 => (.object "NodeMaker$Row")
  | 7 => (.object "NodeMaker$Pieces")
  | 8 => (.object "NodeMaker$Row")
  | 9 => (.object "NodeMaker$Pieces")
  | 10 => (.object "NodeMaker$Pieces")
  | 11 => .int
  | _ => .boolean
theorem nm_T : ∀ a, a < 13 → ∀ b, b < 13 → a ≠ b → (Fd_T a).2.1 ≠ (Fd_T b).2.1 := by decide +kernel
theorem ty_T_ok : ∀ k, k < 13 → parseFieldDescriptor (Fd_T k).2.2.1 = some (ty_T k) := by decide +kernel
theorem i0_T : ∀ w ∈ u_ws "NodeMaker$Tree" Fd_T 13, w ∈ lw_tbl := by decide +kernel
theorem i1_T : ∀ w ∈ u_ws "NodeMaker$Tree" Fd_T 13, goodWord w = true := by decide +kernel
theorem i_T : ∀ w ∈ u_ws "NodeMaker$Tree" Fd_T 13, w ∈ wT := fun w h => wT_of (i0_T w h) (i1_T w h)
def Fd_N : u_T := fun k => match k with
  | 0 => ("NodeMaker", "tree", "LNodeMaker$Tree;", true)
  | 1 => ("NodeMaker", "hasWay", "Z", false)
  | 2 => ("NodeMaker", "wayX", "I", false)
  | _ => ("NodeMaker", "wayY", "I", false)
def ty_N : Nat → FieldType := fun k => match k with
  | 0 => (.object "NodeMaker$Tree")
  | 1 => .boolean
  | 2 => .int
  | _ => .int
theorem nm_N : ∀ a, a < 4 → ∀ b, b < 4 → a ≠ b → (Fd_N a).2.1 ≠ (Fd_N b).2.1 := by decide +kernel
theorem ty_N_ok : ∀ k, k < 4 → parseFieldDescriptor (Fd_N k).2.2.1 = some (ty_N k) := by decide +kernel
theorem i0_N : ∀ w ∈ u_ws "NodeMaker" Fd_N 4, w ∈ lw_tbl := by decide +kernel
theorem i1_N : ∀ w ∈ u_ws "NodeMaker" Fd_N 4, goodWord w = true := by decide +kernel
theorem i_N : ∀ w ∈ u_ws "NodeMaker" Fd_N 4, w ∈ wT := fun w h => wT_of (i0_N w h) (i1_N w h)
def Fd_M : u_T := fun k => match k with
  | 0 => ("NodeMakerModel", "thrown", "I", false)
  | 1 => ("NodeMakerModel", "there", "[Z", true)
  | 2 => ("NodeMakerModel", "ax", "[I", true)
  | 3 => ("NodeMakerModel", "ay", "[I", true)
  | 4 => ("NodeMakerModel", "bx", "[I", true)
  | 5 => ("NodeMakerModel", "by", "[I", true)
  | 6 => ("NodeMakerModel", "many", "I", false)
  | 7 => ("NodeMakerModel", "known", "Z", false)
  | 8 => ("NodeMakerModel", "wallOf", "[I", true)
  | 9 => ("NodeMakerModel", "fromUp", "[J", true)
  | 10 => ("NodeMakerModel", "fromLow", "[J", true)
  | 11 => ("NodeMakerModel", "toUp", "[J", true)
  | 12 => ("NodeMakerModel", "toLow", "[J", true)
  | 13 => ("NodeMakerModel", "pieces", "I", false)
  | 14 => ("NodeMakerModel", "cuts", "I", false)
  | 15 => ("NodeMakerModel", "row", "[I", true)
  | 16 => ("NodeMakerModel", "begins", "[I", true)
  | 17 => ("NodeMakerModel", "sizes", "[I", true)
  | 18 => ("NodeMakerModel", "above", "[I", true)
  | 19 => ("NodeMakerModel", "sides", "[I", true)
  | 20 => ("NodeMakerModel", "waiting", "I", false)
  | 21 => ("NodeMakerModel", "lineOf", "[I", true)
  | 22 => ("NodeMakerModel", "lefts", "[I", true)
  | 23 => ("NodeMakerModel", "rights", "[I", true)
  | 24 => ("NodeMakerModel", "depths", "[I", true)
  | 25 => ("NodeMakerModel", "firstOn", "[I", true)
  | 26 => ("NodeMakerModel", "manyOn", "[I", true)
  | 27 => ("NodeMakerModel", "on", "[I", true)
  | 28 => ("NodeMakerModel", "nodes", "I", false)
  | 29 => ("NodeMakerModel", "leaves", "I", false)
  | 30 => ("NodeMakerModel", "ons", "I", false)
  | 31 => ("NodeMakerModel", "deepest", "I", false)
  | 32 => ("NodeMakerModel", "counts", "[I", true)
  | 33 => ("NodeMakerModel", "hasWay", "Z", false)
  | 34 => ("NodeMakerModel", "ex", "I", false)
  | 35 => ("NodeMakerModel", "ey", "I", false)
  | _ => ("NodeMakerModel", "stack", "[I", true)
def ty_M : Nat → FieldType := fun k => match k with
  | 0 => .int
  | 1 => (.array .boolean)
  | 2 => (.array .int)
  | 3 => (.array .int)
  | 4 => (.array .int)
  | 5 => (.array .int)
  | 6 => .int
  | 7 => .boolean
  | 8 => (.array .int)
  | 9 => (.array .long)
  | 10 => (.array .long)
  | 11 => (.array .long)
  | 12 => (.array .long)
  | 13 => .int
  | 14 => .int
  | 15 => (.array .int)
  | 16 => (.array .int)
  | 17 => (.array .int)
  | 18 => (.array .int)
  | 19 => (.array .int)
  | 20 => .int
  | 21 => (.array .int)
  | 22 => (.array .int)
  | 23 => (.array .int)
  | 24 => (.array .int)
  | 25 => (.array .int)
  | 26 => (.array .int)
  | 27 => (.array .int)
  | 28 => .int
  | 29 => .int
  | 30 => .int
  | 31 => .int
  | 32 => (.array .int)
  | 33 => .boolean
  | 34 => .int
  | 35 => .int
  | _ => (.array .int)
theorem nm_M : ∀ a, a < 37 → ∀ b, b < 37 → a ≠ b → (Fd_M a).2.1 ≠ (Fd_M b).2.1 := by decide +kernel
theorem ty_M_ok : ∀ k, k < 37 → parseFieldDescriptor (Fd_M k).2.2.1 = some (ty_M k) := by decide +kernel
theorem i0_M : ∀ w ∈ u_ws "NodeMakerModel" Fd_M 37, w ∈ lw_tbl := by decide +kernel
theorem i1_M : ∀ w ∈ u_ws "NodeMakerModel" Fd_M 37, goodWord w = true := by decide +kernel
theorem i_M : ∀ w ∈ u_ws "NodeMakerModel" Fd_M 37, w ∈ wT := fun w h => wT_of (i0_M w h) (i1_M w h)
/-- the classes whose objects the worlds hold -/
abbrev vwCl : List vw_C := [("NodeMaker$Row", Fd_R, 2), ("NodeMaker$Pieces", Fd_P, 3), ("NodeMaker$Wall", Fd_W, 4), ("NodeMaker$Walls", Fd_S, 2), ("NodeMaker$Tree", Fd_T, 13), ("NodeMaker", Fd_N, 4), ("NodeMakerModel", Fd_M, 37)]
abbrev kN_init : ByteArray := prog_1_method_1_code
def yN_init : MethodName := ⟨"NodeMaker", "<init>", "()V"⟩
abbrev kT_init : ByteArray := prog_4_method_1_code
def yT_init : MethodName := ⟨"NodeMaker$Tree", "<init>", "()V"⟩
abbrev kS_init : ByteArray := prog_6_method_1_code
def yS_init : MethodName := ⟨"NodeMaker$Walls", "<init>", "()V"⟩
abbrev kR_init : ByteArray := prog_3_method_1_code
def yR_init : MethodName := ⟨"NodeMaker$Row", "<init>", "()V"⟩
abbrev kP_init : ByteArray := prog_2_method_1_code
def yP_init : MethodName := ⟨"NodeMaker$Pieces", "<init>", "()V"⟩
abbrev kN_put : ByteArray := prog_1_method_2_code
def yN_put : MethodName := ⟨"NodeMaker", "put", "(IIII)I"⟩
abbrev kN_isPlace : ByteArray := prog_1_method_13_code
def yN_isPlace : MethodName := ⟨"NodeMaker", "isPlace", "(II)Z"⟩
abbrev kW_init : ByteArray := prog_5_method_1_code
def yW_init : MethodName := ⟨"NodeMaker$Wall", "<init>", "(IIII)V"⟩
abbrev kT_addWall : ByteArray := prog_4_method_4_code
def yT_addWall : MethodName := ⟨"NodeMaker$Tree", "addWall", "(LNodeMaker$Wall;)I"⟩
abbrev kS_add : ByteArray := prog_6_method_4_code
def yS_add : MethodName := ⟨"NodeMaker$Walls", "add", "(LNodeMaker$Wall;)I"⟩
abbrev kW_clashes : ByteArray := prog_5_method_6_code
def yW_clashes : MethodName := ⟨"NodeMaker$Wall", "clashes", "(LNodeMaker$Wall;)Z"⟩
abbrev kW_hasEnd : ByteArray := prog_5_method_3_code
def yW_hasEnd : MethodName := ⟨"NodeMaker$Wall", "hasEnd", "(II)Z"⟩
abbrev kW_parts : ByteArray := prog_5_method_5_code
def yW_parts : MethodName := ⟨"NodeMaker$Wall", "parts", "(LNodeMaker$Wall;)Z"⟩
abbrev kW_side : ByteArray := prog_5_method_2_code
def yW_side : MethodName := ⟨"NodeMaker$Wall", "side", "(II)J"⟩
abbrev kW_hasWithin : ByteArray := prog_5_method_4_code
def yW_hasWithin : MethodName := ⟨"NodeMaker$Wall", "hasWithin", "(II)Z"⟩
abbrev kH_min : ByteArray := prog_10_method_69_code
def yH_min : MethodName := ⟨"java/lang/Math", "min", "(II)I"⟩
abbrev kH_max : ByteArray := prog_10_method_65_code
def yH_max : MethodName := ⟨"java/lang/Math", "max", "(II)I"⟩
abbrev kN_take : ByteArray := prog_1_method_3_code
def yN_take : MethodName := ⟨"NodeMaker", "take", "(I)Z"⟩
abbrev kT_dropWall : ByteArray := prog_4_method_5_code
def yT_dropWall : MethodName := ⟨"NodeMaker$Tree", "dropWall", "(I)Z"⟩
abbrev kS_drop : ByteArray := prog_6_method_5_code
def yS_drop : MethodName := ⟨"NodeMaker$Walls", "drop", "(I)Z"⟩
abbrev kS_at : ByteArray := prog_6_method_3_code
def yS_at : MethodName := ⟨"NodeMaker$Walls", "at", "(I)LNodeMaker$Wall;"⟩
abbrev kN_clear : ByteArray := prog_1_method_4_code
def yN_clear : MethodName := ⟨"NodeMaker", "clear", "()V"⟩
abbrev kT_dropAllWalls : ByteArray := prog_4_method_6_code
def yT_dropAllWalls : MethodName := ⟨"NodeMaker$Tree", "dropAllWalls", "()V"⟩
abbrev kS_dropAll : ByteArray := prog_6_method_6_code
def yS_dropAll : MethodName := ⟨"NodeMaker$Walls", "dropAll", "()V"⟩
abbrev kN_node : ByteArray := prog_1_method_5_code
def yN_node : MethodName := ⟨"NodeMaker", "node", "(II)I"⟩
abbrev kT_grow : ByteArray := prog_4_method_7_code
def yT_grow : MethodName := ⟨"NodeMaker$Tree", "grow", "()V"⟩
abbrev kT_fell : ByteArray := prog_4_method_8_code
def yT_fell : MethodName := ⟨"NodeMaker$Tree", "fell", "()V"⟩
abbrev kR_shorten : ByteArray := prog_3_method_6_code
def yR_shorten : MethodName := ⟨"NodeMaker$Row", "shorten", "(I)V"⟩
abbrev kP_shorten : ByteArray := prog_2_method_8_code
def yP_shorten : MethodName := ⟨"NodeMaker$Pieces", "shorten", "(I)V"⟩
abbrev kP_add : ByteArray := prog_2_method_6_code
def yP_add : MethodName := ⟨"NodeMaker$Pieces", "add", "(III)V"⟩
abbrev kR_add : ByteArray := prog_3_method_5_code
def yR_add : MethodName := ⟨"NodeMaker$Row", "add", "(I)V"⟩
abbrev kA_copyOf : ByteArray := prog_12_method_123_code
def yA_copyOf : MethodName := ⟨"java/util/Arrays", "copyOf", "([II)[I"⟩
abbrev kT_plant : ByteArray := prog_4_method_9_code
def yT_plant : MethodName := ⟨"NodeMaker$Tree", "plant", "(II)I"⟩
abbrev kP_count : ByteArray := prog_2_method_2_code
def yP_count : MethodName := ⟨"NodeMaker$Pieces", "count", "()I"⟩
abbrev kR_count : ByteArray := prog_3_method_2_code
def yR_count : MethodName := ⟨"NodeMaker$Row", "count", "()I"⟩
abbrev kT_bestLine : ByteArray := prog_4_method_10_code
def yT_bestLine : MethodName := ⟨"NodeMaker$Tree", "bestLine", "(I)I"⟩
abbrev kP_wallAt : ByteArray := prog_2_method_3_code
def yP_wallAt : MethodName := ⟨"NodeMaker$Pieces", "wallAt", "(I)I"⟩
abbrev kR_at : ByteArray := prog_3_method_3_code
def yR_at : MethodName := ⟨"NodeMaker$Row", "at", "(I)I"⟩
abbrev kT_whereLies : ByteArray := prog_4_method_12_code
def yT_whereLies : MethodName := ⟨"NodeMaker$Tree", "whereLies", "(II)I"⟩
abbrev kP_firstAt : ByteArray := prog_2_method_4_code
def yP_firstAt : MethodName := ⟨"NodeMaker$Pieces", "firstAt", "(I)I"⟩
abbrev kT_sideOfEnd : ByteArray := prog_4_method_13_code
def yT_sideOfEnd : MethodName := ⟨"NodeMaker$Tree", "sideOfEnd", "(IIIZ)I"⟩
abbrev kT_sideOf : ByteArray := prog_4_method_14_code
def yT_sideOf : MethodName := ⟨"NodeMaker$Tree", "sideOf", "(J)I"⟩
abbrev kH_abs : ByteArray := prog_10_method_61_code
def yH_abs : MethodName := ⟨"java/lang/Math", "abs", "(J)J"⟩
abbrev kT_sideBetween : ByteArray := prog_4_method_15_code
def yT_sideBetween : MethodName := ⟨"NodeMaker$Tree", "sideBetween", "(JJJJ)I"⟩
abbrev kP_lastAt : ByteArray := prog_2_method_5_code
def yP_lastAt : MethodName := ⟨"NodeMaker$Pieces", "lastAt", "(I)I"⟩
abbrev kH_abs_II : ByteArray := prog_10_method_59_code
def yH_abs_II : MethodName := ⟨"java/lang/Math", "abs", "(I)I"⟩
abbrev kT_divide : ByteArray := prog_4_method_11_code
def yT_divide : MethodName := ⟨"NodeMaker$Tree", "divide", "(III)I"⟩
abbrev kP_set : ByteArray := prog_2_method_7_code
def yP_set : MethodName := ⟨"NodeMaker$Pieces", "set", "(IIII)V"⟩
abbrev kR_set : ByteArray := prog_3_method_4_code
def yR_set : MethodName := ⟨"NodeMaker$Row", "set", "(II)V"⟩
abbrev kT_hasNode : ByteArray := prog_4_method_19_code
def yT_hasNode : MethodName := ⟨"NodeMaker$Tree", "hasNode", "(I)Z"⟩
abbrev kT_lineOf : ByteArray := prog_4_method_20_code
def yT_lineOf : MethodName := ⟨"NodeMaker$Tree", "lineOf", "(I)I"⟩
abbrev kT_leftOf : ByteArray := prog_4_method_21_code
def yT_leftOf : MethodName := ⟨"NodeMaker$Tree", "leftOf", "(I)I"⟩
abbrev kT_rightOf : ByteArray := prog_4_method_22_code
def yT_rightOf : MethodName := ⟨"NodeMaker$Tree", "rightOf", "(I)I"⟩
abbrev kT_ownPieces : ByteArray := prog_4_method_25_code
def yT_ownPieces : MethodName := ⟨"NodeMaker$Tree", "ownPieces", "(I)I"⟩
abbrev kT_firstPieceFrom : ByteArray := prog_4_method_27_code
def yT_firstPieceFrom : MethodName := ⟨"NodeMaker$Tree", "firstPieceFrom", "(I)I"⟩
abbrev kT_nodesIn : ByteArray := prog_4_method_24_code
def yT_nodesIn : MethodName := ⟨"NodeMaker$Tree", "nodesIn", "(I)I"⟩
abbrev kT_depthOf : ByteArray := prog_4_method_23_code
def yT_depthOf : MethodName := ⟨"NodeMaker$Tree", "depthOf", "(I)I"⟩
abbrev kN_wall : ByteArray := prog_1_method_6_code
def yN_wall : MethodName := ⟨"NodeMaker", "wall", "(II)I"⟩
abbrev kT_pieceAt : ByteArray := prog_4_method_28_code
def yT_pieceAt : MethodName := ⟨"NodeMaker$Tree", "pieceAt", "(II)I"⟩
abbrev kT_wallOfPiece : ByteArray := prog_4_method_29_code
def yT_wallOfPiece : MethodName := ⟨"NodeMaker$Tree", "wallOfPiece", "(I)I"⟩
abbrev kN_quotient : ByteArray := prog_1_method_7_code
def yN_quotient : MethodName := ⟨"NodeMaker", "quotient", "(III)J"⟩
abbrev kT_quotientOf : ByteArray := prog_4_method_33_code
def yT_quotientOf : MethodName := ⟨"NodeMaker$Tree", "quotientOf", "(IZZ)J"⟩
abbrev kT_commonDivisor : ByteArray := prog_4_method_34_code
def yT_commonDivisor : MethodName := ⟨"NodeMaker$Tree", "commonDivisor", "(JJ)J"⟩
abbrev kN_leaf : ByteArray := prog_1_method_8_code
def yN_leaf : MethodName := ⟨"NodeMaker", "leaf", "(II)I"⟩
abbrev kT_leafAround : ByteArray := prog_4_method_36_code
def yT_leafAround : MethodName := ⟨"NodeMaker$Tree", "leafAround", "(II)I"⟩
abbrev kT_liesLeft : ByteArray := prog_4_method_35_code
def yT_liesLeft : MethodName := ⟨"NodeMaker$Tree", "liesLeft", "(III)Z"⟩
abbrev kN_way : ByteArray := prog_1_method_9_code
def yN_way : MethodName := ⟨"NodeMaker", "way", "(II)I"⟩
abbrev kT_pieceCount : ByteArray := prog_4_method_17_code
def yT_pieceCount : MethodName := ⟨"NodeMaker$Tree", "pieceCount", "()I"⟩
abbrev kN_step : ByteArray := prog_1_method_10_code
def yN_step : MethodName := ⟨"NodeMaker", "step", "(II)I"⟩
abbrev kT_pieceOnWay : ByteArray := prog_4_method_37_code
def yT_pieceOnWay : MethodName := ⟨"NodeMaker$Tree", "pieceOnWay", "(III)I"⟩
abbrev kT_piecesIn : ByteArray := prog_4_method_26_code
def yT_piecesIn : MethodName := ⟨"NodeMaker$Tree", "piecesIn", "(I)I"⟩
abbrev kT_nodeOfPiece : ByteArray := prog_4_method_30_code
def yT_nodeOfPiece : MethodName := ⟨"NodeMaker$Tree", "nodeOfPiece", "(I)I"⟩
abbrev kT_placeInNode : ByteArray := prog_4_method_31_code
def yT_placeInNode : MethodName := ⟨"NodeMaker$Tree", "placeInNode", "(I)I"⟩
abbrev kN_of : ByteArray := prog_1_method_11_code
def yN_of : MethodName := ⟨"NodeMaker", "of", "(II)I"⟩
abbrev kT_wallAt : ByteArray := prog_4_method_2_code
def yT_wallAt : MethodName := ⟨"NodeMaker$Tree", "wallAt", "(I)LNodeMaker$Wall;"⟩
abbrev kT_piecesOfWall : ByteArray := prog_4_method_32_code
def yT_piecesOfWall : MethodName := ⟨"NodeMaker$Tree", "piecesOfWall", "(I)I"⟩
abbrev kN_look : ByteArray := prog_1_method_12_code
def yN_look : MethodName := ⟨"NodeMaker", "look", "(I)I"⟩
abbrev kT_wallCount : ByteArray := prog_4_method_3_code
def yT_wallCount : MethodName := ⟨"NodeMaker$Tree", "wallCount", "()I"⟩
abbrev kS_count : ByteArray := prog_6_method_2_code
def yS_count : MethodName := ⟨"NodeMaker$Walls", "count", "()I"⟩
abbrev kT_nodeCount : ByteArray := prog_4_method_16_code
def yT_nodeCount : MethodName := ⟨"NodeMaker$Tree", "nodeCount", "()I"⟩
abbrev kT_height : ByteArray := prog_4_method_18_code
def yT_height : MethodName := ⟨"NodeMaker$Tree", "height", "()I"⟩
abbrev kM_init : ByteArray := prog_8_method_1_code
def yM_init : MethodName := ⟨"NodeMakerModel", "<init>", "()V"⟩
abbrev kM_put : ByteArray := prog_8_method_12_code
def yM_put : MethodName := ⟨"NodeMakerModel", "put", "(IIII)I"⟩
abbrev kM_free : ByteArray := prog_8_method_6_code
def yM_free : MethodName := ⟨"NodeMakerModel", "free", "()I"⟩
abbrev kM_isPlace : ByteArray := prog_8_method_4_code
def yM_isPlace : MethodName := ⟨"NodeMakerModel", "isPlace", "(I)Z"⟩
abbrev kM_touch : ByteArray := prog_8_method_11_code
def yM_touch : MethodName := ⟨"NodeMakerModel", "touch", "(II)Z"⟩
abbrev kM_isEnd : ByteArray := prog_8_method_8_code
def yM_isEnd : MethodName := ⟨"NodeMakerModel", "isEnd", "(III)Z"⟩
abbrev kM_sideOf : ByteArray := prog_8_method_7_code
def yM_sideOf : MethodName := ⟨"NodeMakerModel", "sideOf", "(IJJ)J"⟩
abbrev kM_cross : ByteArray := prog_8_method_3_code
def yM_cross : MethodName := ⟨"NodeMakerModel", "cross", "(JJJJ)J"⟩
abbrev kM_areOpposite : ByteArray := prog_8_method_10_code
def yM_areOpposite : MethodName := ⟨"NodeMakerModel", "areOpposite", "(JJ)Z"⟩
abbrev kM_lies : ByteArray := prog_8_method_9_code
def yM_lies : MethodName := ⟨"NodeMakerModel", "lies", "(III)Z"⟩
abbrev kM_take : ByteArray := prog_8_method_14_code
def yM_take : MethodName := ⟨"NodeMakerModel", "take", "(I)Z"⟩
abbrev kM_isWall : ByteArray := prog_8_method_13_code
def yM_isWall : MethodName := ⟨"NodeMakerModel", "isWall", "(I)Z"⟩
abbrev kM_clear : ByteArray := prog_8_method_15_code
def yM_clear : MethodName := ⟨"NodeMakerModel", "clear", "()V"⟩
abbrev kM_node : ByteArray := prog_8_method_28_code
def yM_node : MethodName := ⟨"NodeMakerModel", "node", "(II)I"⟩
abbrev kM_isNode : ByteArray := prog_8_method_26_code
def yM_isNode : MethodName := ⟨"NodeMakerModel", "isNode", "(I)Z"⟩
abbrev kM_know : ByteArray := prog_8_method_25_code
def yM_know : MethodName := ⟨"NodeMakerModel", "know", "()V"⟩
abbrev kM_make : ByteArray := prog_8_method_22_code
def yM_make : MethodName := ⟨"NodeMakerModel", "make", "()V"⟩
abbrev kM_piece : ByteArray := prog_8_method_16_code
def yM_piece : MethodName := ⟨"NodeMakerModel", "piece", "(IJJJJ)I"⟩
abbrev kM_push : ByteArray := prog_8_method_20_code
def yM_push : MethodName := ⟨"NodeMakerModel", "push", "(IIII)V"⟩
abbrev kM_divide : ByteArray := prog_8_method_23_code
def yM_divide : MethodName := ⟨"NodeMakerModel", "divide", "(IIII)V"⟩
abbrev kM_bestOf : ByteArray := prog_8_method_19_code
def yM_bestOf : MethodName := ⟨"NodeMakerModel", "bestOf", "(II)I"⟩
abbrev kM_lieOf : ByteArray := prog_8_method_18_code
def yM_lieOf : MethodName := ⟨"NodeMakerModel", "lieOf", "(II)I"⟩
abbrev kM_sideAt : ByteArray := prog_8_method_17_code
def yM_sideAt : MethodName := ⟨"NodeMakerModel", "sideAt", "(IIJJ)I"⟩
abbrev kM_order : ByteArray := prog_8_method_5_code
def yM_order : MethodName := ⟨"NodeMakerModel", "order", "(JJJJ)I"⟩
abbrev kH_multiplyHigh : ByteArray := prog_10_method_45_code
def yH_multiplyHigh : MethodName := ⟨"java/lang/Math", "multiplyHigh", "(JJ)J"⟩
abbrev kM_collect : ByteArray := prog_8_method_24_code
def yM_collect : MethodName := ⟨"NodeMakerModel", "collect", "(IIIII)I"⟩
abbrev kM_part : ByteArray := prog_8_method_21_code
def yM_part : MethodName := ⟨"NodeMakerModel", "part", "(III)I"⟩
abbrev kM_within : ByteArray := prog_8_method_27_code
def yM_within : MethodName := ⟨"NodeMakerModel", "within", "(I)I"⟩
abbrev kM_wall : ByteArray := prog_8_method_30_code
def yM_wall : MethodName := ⟨"NodeMakerModel", "wall", "(II)I"⟩
abbrev kM_isOn : ByteArray := prog_8_method_29_code
def yM_isOn : MethodName := ⟨"NodeMakerModel", "isOn", "(II)Z"⟩
abbrev kM_quotient : ByteArray := prog_8_method_32_code
def yM_quotient : MethodName := ⟨"NodeMakerModel", "quotient", "(III)J"⟩
abbrev kM_common : ByteArray := prog_8_method_31_code
def yM_common : MethodName := ⟨"NodeMakerModel", "common", "(JJ)J"⟩
abbrev kM_leaf : ByteArray := prog_8_method_34_code
def yM_leaf : MethodName := ⟨"NodeMakerModel", "leaf", "(II)I"⟩
abbrev kM_isLeft : ByteArray := prog_8_method_33_code
def yM_isLeft : MethodName := ⟨"NodeMakerModel", "isLeft", "(III)Z"⟩
abbrev kM_way : ByteArray := prog_8_method_35_code
def yM_way : MethodName := ⟨"NodeMakerModel", "way", "(II)I"⟩
abbrev kM_step : ByteArray := prog_8_method_38_code
def yM_step : MethodName := ⟨"NodeMakerModel", "step", "(II)I"⟩
abbrev kM_nodeOf : ByteArray := prog_8_method_36_code
def yM_nodeOf : MethodName := ⟨"NodeMakerModel", "nodeOf", "(I)I"⟩
abbrev kM_aheadOf : ByteArray := prog_8_method_37_code
def yM_aheadOf : MethodName := ⟨"NodeMakerModel", "aheadOf", "(I)I"⟩
abbrev kM_of : ByteArray := prog_8_method_39_code
def yM_of : MethodName := ⟨"NodeMakerModel", "of", "(II)I"⟩
abbrev kM_look : ByteArray := prog_8_method_40_code
def yM_look : MethodName := ⟨"NodeMakerModel", "look", "(I)I"⟩
end
section
theorem q_31 : Cond.initialized "NodeMakerLaw" ∈ wT := wT_of (List.mem_of_getElem? (i := 31) (by decide +kernel)) (by decide +kernel)
theorem q_32 : Cond.initialized "NodeMaker" ∈ wT := wT_of (List.mem_of_getElem? (i := 32) (by decide +kernel)) (by decide +kernel)
theorem q_33 : Cond.initialized "NodeMaker$Tree" ∈ wT := wT_of (List.mem_of_getElem? (i := 33) (by decide +kernel)) (by decide +kernel)
theorem q_34 : Cond.initialized "NodeMaker$Walls" ∈ wT := wT_of (List.mem_of_getElem? (i := 34) (by decide +kernel)) (by decide +kernel)
theorem q_35 : Cond.initialized "NodeMaker$Row" ∈ wT := wT_of (List.mem_of_getElem? (i := 35) (by decide +kernel)) (by decide +kernel)
theorem q_36 : Cond.initialized "NodeMaker$Pieces" ∈ wT := wT_of (List.mem_of_getElem? (i := 36) (by decide +kernel)) (by decide +kernel)
theorem q_37 : Cond.initialized "NodeMakerModel" ∈ wT := wT_of (List.mem_of_getElem? (i := 37) (by decide +kernel)) (by decide +kernel)
theorem q_38 : Cond.initialized "NodeMaker$Wall" ∈ wT := wT_of (List.mem_of_getElem? (i := 38) (by decide +kernel)) (by decide +kernel)
theorem q_39 : Cond.initialized "java/lang/Math" ∈ wT := wT_of (List.mem_of_getElem? (i := 39) (by decide +kernel)) (by decide +kernel)
theorem q_40 : Cond.initialized "java/util/Arrays" ∈ wT := wT_of (List.mem_of_getElem? (i := 40) (by decide +kernel)) (by decide +kernel)
theorem q_41 : Cond.initialized "java/lang/System" ∈ wT := wT_of (List.mem_of_getElem? (i := 41) (by decide +kernel)) (by decide +kernel)
theorem q_42 : Cond.classLink "NodeMakerLaw" 7 "NodeMaker" ∈ wT := wT_of (List.mem_of_getElem? (i := 42) (by decide +kernel)) (by decide +kernel)
theorem q_43 : Cond.instantiable "NodeMaker" 4 ∈ wT := wT_of (List.mem_of_getElem? (i := 43) (by decide +kernel)) (by decide +kernel)
theorem q_44 : Cond.methodLink "NodeMakerLaw" 9 yN_init ∈ wT := wT_of (List.mem_of_getElem? (i := 44) (by decide +kernel)) (by decide +kernel)
theorem q_45 : Cond.instanceMethod yN_init ∈ wT := wT_of (List.mem_of_getElem? (i := 45) (by decide +kernel)) (by decide +kernel)
theorem q_46 : Cond.code yN_init kN_init 1 none ∈ wT := wT_of (List.mem_of_getElem? (i := 46) (by decide +kernel)) (by decide +kernel)
theorem q_47 : Cond.methodLink "NodeMaker" 3 objectInit ∈ wT := wT_of (List.mem_of_getElem? (i := 47) (by decide +kernel)) (by decide +kernel)
theorem q_48 : Cond.instanceMethod objectInit ∈ wT := wT_of (List.mem_of_getElem? (i := 48) (by decide +kernel)) (by decide +kernel)
theorem q_49 : Cond.code objectInit ⟨#[0xb1]⟩ 1 none ∈ wT := wT_of (List.mem_of_getElem? (i := 49) (by decide +kernel)) (by decide +kernel)
theorem q_50 : Cond.classLink "NodeMaker" 9 "NodeMaker$Tree" ∈ wT := wT_of (List.mem_of_getElem? (i := 50) (by decide +kernel)) (by decide +kernel)
theorem q_51 : Cond.instantiable "NodeMaker$Tree" 13 ∈ wT := wT_of (List.mem_of_getElem? (i := 51) (by decide +kernel)) (by decide +kernel)
theorem q0_52 : Cond.methodLinkNest "NodeMaker" 11 yT_init "NodeMaker" ∈ lw_tbl := List.mem_of_getElem? (i := 52) (by decide +kernel)
theorem q_53 : Cond.instanceMethod yT_init ∈ wT := wT_of (List.mem_of_getElem? (i := 53) (by decide +kernel)) (by decide +kernel)
theorem q_54 : Cond.code yT_init kT_init 1 none ∈ wT := wT_of (List.mem_of_getElem? (i := 54) (by decide +kernel)) (by decide +kernel)
theorem q_55 : Cond.methodLink "NodeMaker$Tree" 3 objectInit ∈ wT := wT_of (List.mem_of_getElem? (i := 55) (by decide +kernel)) (by decide +kernel)
theorem q_56 : Cond.classLink "NodeMaker$Tree" 9 "NodeMaker$Walls" ∈ wT := wT_of (List.mem_of_getElem? (i := 56) (by decide +kernel)) (by decide +kernel)
theorem q_57 : Cond.instantiable "NodeMaker$Walls" 2 ∈ wT := wT_of (List.mem_of_getElem? (i := 57) (by decide +kernel)) (by decide +kernel)
theorem q0_58 : Cond.methodLinkNest "NodeMaker$Tree" 11 yS_init "NodeMaker" ∈ lw_tbl := List.mem_of_getElem? (i := 58) (by decide +kernel)
theorem q_59 : Cond.instanceMethod yS_init ∈ wT := wT_of (List.mem_of_getElem? (i := 59) (by decide +kernel)) (by decide +kernel)
theorem q_60 : Cond.code yS_init kS_init 1 none ∈ wT := wT_of (List.mem_of_getElem? (i := 60) (by decide +kernel)) (by decide +kernel)
theorem q_61 : Cond.methodLink "NodeMaker$Walls" 3 objectInit ∈ wT := wT_of (List.mem_of_getElem? (i := 61) (by decide +kernel)) (by decide +kernel)
theorem q_62 : Cond.classLink "NodeMaker$Walls" 9 "NodeMaker$Wall" ∈ wT := wT_of (List.mem_of_getElem? (i := 62) (by decide +kernel)) (by decide +kernel)
theorem q0_63 : Cond.arrayOver (Jvm.ClassFile.FieldType.object "NodeMaker$Wall") ∈ lw_tbl := List.mem_of_getElem? (i := 63) (by decide +kernel)
theorem q_64 : Cond.fieldLink "NodeMaker$Walls" 11 "NodeMaker$Walls" "slots" "[LNodeMaker$Wall;" ∈ wT := wT_of (List.mem_of_getElem? (i := 64) (by decide +kernel)) (by decide +kernel)
theorem q_65 : Cond.fieldLink "NodeMaker$Walls" 17 "NodeMaker$Walls" "count" "I" ∈ wT := wT_of (List.mem_of_getElem? (i := 65) (by decide +kernel)) (by decide +kernel)
theorem q_71 : Cond.classLink "NodeMaker$Tree" 18 "NodeMaker$Row" ∈ wT := wT_of (List.mem_of_getElem? (i := 71) (by decide +kernel)) (by decide +kernel)
theorem q_72 : Cond.instantiable "NodeMaker$Row" 2 ∈ wT := wT_of (List.mem_of_getElem? (i := 72) (by decide +kernel)) (by decide +kernel)
theorem q0_73 : Cond.methodLinkNest "NodeMaker$Tree" 20 yR_init "NodeMaker" ∈ lw_tbl := List.mem_of_getElem? (i := 73) (by decide +kernel)
theorem q_74 : Cond.instanceMethod yR_init ∈ wT := wT_of (List.mem_of_getElem? (i := 74) (by decide +kernel)) (by decide +kernel)
theorem q_75 : Cond.code yR_init kR_init 1 none ∈ wT := wT_of (List.mem_of_getElem? (i := 75) (by decide +kernel)) (by decide +kernel)
theorem q_76 : Cond.methodLink "NodeMaker$Row" 3 objectInit ∈ wT := wT_of (List.mem_of_getElem? (i := 76) (by decide +kernel)) (by decide +kernel)
theorem q_77 : Cond.fieldLink "NodeMaker$Row" 9 "NodeMaker$Row" "cells" "[I" ∈ wT := wT_of (List.mem_of_getElem? (i := 77) (by decide +kernel)) (by decide +kernel)
theorem q_78 : Cond.fieldLink "NodeMaker$Row" 15 "NodeMaker$Row" "count" "I" ∈ wT := wT_of (List.mem_of_getElem? (i := 78) (by decide +kernel)) (by decide +kernel)
theorem q_84 : Cond.arrayClass Jvm.ClassFile.FieldType.int ∈ wT := wT_of (List.mem_of_getElem? (i := 84) (by decide +kernel)) (by decide +kernel)
theorem q_85 : Cond.classLink "NodeMaker$Tree" 40 "NodeMaker$Pieces" ∈ wT := wT_of (List.mem_of_getElem? (i := 85) (by decide +kernel)) (by decide +kernel)
theorem q_86 : Cond.instantiable "NodeMaker$Pieces" 3 ∈ wT := wT_of (List.mem_of_getElem? (i := 86) (by decide +kernel)) (by decide +kernel)
theorem q0_87 : Cond.methodLinkNest "NodeMaker$Tree" 42 yP_init "NodeMaker" ∈ lw_tbl := List.mem_of_getElem? (i := 87) (by decide +kernel)
theorem q_88 : Cond.instanceMethod yP_init ∈ wT := wT_of (List.mem_of_getElem? (i := 88) (by decide +kernel)) (by decide +kernel)
theorem q_89 : Cond.code yP_init kP_init 1 none ∈ wT := wT_of (List.mem_of_getElem? (i := 89) (by decide +kernel)) (by decide +kernel)
theorem q_90 : Cond.methodLink "NodeMaker$Pieces" 1 objectInit ∈ wT := wT_of (List.mem_of_getElem? (i := 90) (by decide +kernel)) (by decide +kernel)
theorem q_91 : Cond.classLink "NodeMaker$Pieces" 7 "NodeMaker$Row" ∈ wT := wT_of (List.mem_of_getElem? (i := 91) (by decide +kernel)) (by decide +kernel)
theorem q0_92 : Cond.methodLinkNest "NodeMaker$Pieces" 9 yR_init "NodeMaker" ∈ lw_tbl := List.mem_of_getElem? (i := 92) (by decide +kernel)
theorem q_93 : Cond.fieldLink "NodeMaker$Pieces" 10 "NodeMaker$Pieces" "walls" "LNodeMaker$Row;" ∈ wT := wT_of (List.mem_of_getElem? (i := 93) (by decide +kernel)) (by decide +kernel)
theorem q_94 : Cond.fieldLink "NodeMaker$Pieces" 16 "NodeMaker$Pieces" "firstCutters" "LNodeMaker$Row;" ∈ wT := wT_of (List.mem_of_getElem? (i := 94) (by decide +kernel)) (by decide +kernel)
theorem q_95 : Cond.fieldLink "NodeMaker$Pieces" 19 "NodeMaker$Pieces" "lastCutters" "LNodeMaker$Row;" ∈ wT := wT_of (List.mem_of_getElem? (i := 95) (by decide +kernel)) (by decide +kernel)
theorem q_103 : Cond.fieldLink "NodeMaker$Tree" 12 "NodeMaker$Tree" "walls" "LNodeMaker$Walls;" ∈ wT := wT_of (List.mem_of_getElem? (i := 103) (by decide +kernel)) (by decide +kernel)
theorem q_104 : Cond.fieldLink "NodeMaker$Tree" 21 "NodeMaker$Tree" "lines" "LNodeMaker$Row;" ∈ wT := wT_of (List.mem_of_getElem? (i := 104) (by decide +kernel)) (by decide +kernel)
theorem q_105 : Cond.fieldLink "NodeMaker$Tree" 25 "NodeMaker$Tree" "lefts" "LNodeMaker$Row;" ∈ wT := wT_of (List.mem_of_getElem? (i := 105) (by decide +kernel)) (by decide +kernel)
theorem q_106 : Cond.fieldLink "NodeMaker$Tree" 28 "NodeMaker$Tree" "rights" "LNodeMaker$Row;" ∈ wT := wT_of (List.mem_of_getElem? (i := 106) (by decide +kernel)) (by decide +kernel)
theorem q_107 : Cond.fieldLink "NodeMaker$Tree" 31 "NodeMaker$Tree" "sizes" "LNodeMaker$Row;" ∈ wT := wT_of (List.mem_of_getElem? (i := 107) (by decide +kernel)) (by decide +kernel)
theorem q_108 : Cond.fieldLink "NodeMaker$Tree" 34 "NodeMaker$Tree" "depths" "LNodeMaker$Row;" ∈ wT := wT_of (List.mem_of_getElem? (i := 108) (by decide +kernel)) (by decide +kernel)
theorem q_109 : Cond.fieldLink "NodeMaker$Tree" 37 "NodeMaker$Tree" "firstPieces" "LNodeMaker$Row;" ∈ wT := wT_of (List.mem_of_getElem? (i := 109) (by decide +kernel)) (by decide +kernel)
theorem q_110 : Cond.fieldLink "NodeMaker$Tree" 43 "NodeMaker$Tree" "pieces" "LNodeMaker$Pieces;" ∈ wT := wT_of (List.mem_of_getElem? (i := 110) (by decide +kernel)) (by decide +kernel)
theorem q_111 : Cond.fieldLink "NodeMaker$Tree" 47 "NodeMaker$Tree" "homes" "LNodeMaker$Row;" ∈ wT := wT_of (List.mem_of_getElem? (i := 111) (by decide +kernel)) (by decide +kernel)
theorem q_112 : Cond.fieldLink "NodeMaker$Tree" 50 "NodeMaker$Tree" "waiting" "LNodeMaker$Pieces;" ∈ wT := wT_of (List.mem_of_getElem? (i := 112) (by decide +kernel)) (by decide +kernel)
theorem q_113 : Cond.fieldLink "NodeMaker$Tree" 53 "NodeMaker$Tree" "leftList" "LNodeMaker$Pieces;" ∈ wT := wT_of (List.mem_of_getElem? (i := 113) (by decide +kernel)) (by decide +kernel)
theorem q_114 : Cond.fieldLink "NodeMaker$Tree" 94 "NodeMaker$Tree" "height" "I" ∈ wT := wT_of (List.mem_of_getElem? (i := 114) (by decide +kernel)) (by decide +kernel)
theorem q_115 : Cond.fieldLink "NodeMaker$Tree" 68 "NodeMaker$Tree" "stale" "Z" ∈ wT := wT_of (List.mem_of_getElem? (i := 115) (by decide +kernel)) (by decide +kernel)
theorem q_143 : Cond.fieldLink "NodeMaker" 12 "NodeMaker" "tree" "LNodeMaker$Tree;" ∈ wT := wT_of (List.mem_of_getElem? (i := 143) (by decide +kernel)) (by decide +kernel)
theorem q_144 : Cond.fieldLink "NodeMaker" 77 "NodeMaker" "hasWay" "Z" ∈ wT := wT_of (List.mem_of_getElem? (i := 144) (by decide +kernel)) (by decide +kernel)
theorem q_145 : Cond.fieldLink "NodeMaker" 81 "NodeMaker" "wayX" "I" ∈ wT := wT_of (List.mem_of_getElem? (i := 145) (by decide +kernel)) (by decide +kernel)
theorem q_146 : Cond.fieldLink "NodeMaker" 85 "NodeMaker" "wayY" "I" ∈ wT := wT_of (List.mem_of_getElem? (i := 146) (by decide +kernel)) (by decide +kernel)
theorem q_156 : Cond.methodLink "NodeMakerLaw" 13 yN_put ∈ wT := wT_of (List.mem_of_getElem? (i := 156) (by decide +kernel)) (by decide +kernel)
theorem q_157 : Cond.instanceMethod yN_put ∈ wT := wT_of (List.mem_of_getElem? (i := 157) (by decide +kernel)) (by decide +kernel)
theorem q_158 : Cond.selects "NodeMaker" yN_put yN_put ∈ wT := wT_of (List.mem_of_getElem? (i := 158) (by decide +kernel)) (by decide +kernel)
theorem q_159 : Cond.code yN_put kN_put 5 (some .int) ∈ wT := wT_of (List.mem_of_getElem? (i := 159) (by decide +kernel)) (by decide +kernel)
theorem q_160 : Cond.methodLink "NodeMaker" 16 yN_isPlace ∈ wT := wT_of (List.mem_of_getElem? (i := 160) (by decide +kernel)) (by decide +kernel)
theorem q_161 : Cond.static yN_isPlace ∈ wT := wT_of (List.mem_of_getElem? (i := 161) (by decide +kernel)) (by decide +kernel)
theorem q_162 : Cond.code yN_isPlace kN_isPlace 2 (some .boolean) ∈ wT := wT_of (List.mem_of_getElem? (i := 162) (by decide +kernel)) (by decide +kernel)
theorem q_163 : Cond.classLink "NodeMaker" 20 "NodeMaker$Wall" ∈ wT := wT_of (List.mem_of_getElem? (i := 163) (by decide +kernel)) (by decide +kernel)
theorem q_164 : Cond.instantiable "NodeMaker$Wall" 4 ∈ wT := wT_of (List.mem_of_getElem? (i := 164) (by decide +kernel)) (by decide +kernel)
theorem q_165 : Cond.methodLink "NodeMaker" 22 yW_init ∈ wT := wT_of (List.mem_of_getElem? (i := 165) (by decide +kernel)) (by decide +kernel)
theorem q_166 : Cond.instanceMethod yW_init ∈ wT := wT_of (List.mem_of_getElem? (i := 166) (by decide +kernel)) (by decide +kernel)
theorem q_167 : Cond.code yW_init kW_init 5 none ∈ wT := wT_of (List.mem_of_getElem? (i := 167) (by decide +kernel)) (by decide +kernel)
theorem q_168 : Cond.methodLink "NodeMaker$Wall" 1 objectInit ∈ wT := wT_of (List.mem_of_getElem? (i := 168) (by decide +kernel)) (by decide +kernel)
theorem q_169 : Cond.fieldLink "NodeMaker$Wall" 7 "NodeMaker$Wall" "ax" "I" ∈ wT := wT_of (List.mem_of_getElem? (i := 169) (by decide +kernel)) (by decide +kernel)
theorem q0_170 : Cond.fieldLinkNest "NodeMaker" 107 "NodeMaker$Wall" "ax" "I" "NodeMaker" ∈ lw_tbl := List.mem_of_getElem? (i := 170) (by decide +kernel)
theorem q0_171 : Cond.fieldLinkNest "NodeMaker$Tree" 141 "NodeMaker$Wall" "ax" "I" "NodeMaker" ∈ lw_tbl := List.mem_of_getElem? (i := 171) (by decide +kernel)
theorem q_172 : Cond.fieldLink "NodeMaker$Wall" 13 "NodeMaker$Wall" "ay" "I" ∈ wT := wT_of (List.mem_of_getElem? (i := 172) (by decide +kernel)) (by decide +kernel)
theorem q0_173 : Cond.fieldLinkNest "NodeMaker" 110 "NodeMaker$Wall" "ay" "I" "NodeMaker" ∈ lw_tbl := List.mem_of_getElem? (i := 173) (by decide +kernel)
theorem q0_174 : Cond.fieldLinkNest "NodeMaker$Tree" 146 "NodeMaker$Wall" "ay" "I" "NodeMaker" ∈ lw_tbl := List.mem_of_getElem? (i := 174) (by decide +kernel)
theorem q_175 : Cond.fieldLink "NodeMaker$Wall" 16 "NodeMaker$Wall" "bx" "I" ∈ wT := wT_of (List.mem_of_getElem? (i := 175) (by decide +kernel)) (by decide +kernel)
theorem q0_176 : Cond.fieldLinkNest "NodeMaker" 113 "NodeMaker$Wall" "bx" "I" "NodeMaker" ∈ lw_tbl := List.mem_of_getElem? (i := 176) (by decide +kernel)
theorem q0_177 : Cond.fieldLinkNest "NodeMaker$Tree" 153 "NodeMaker$Wall" "bx" "I" "NodeMaker" ∈ lw_tbl := List.mem_of_getElem? (i := 177) (by decide +kernel)
theorem q_178 : Cond.fieldLink "NodeMaker$Wall" 19 "NodeMaker$Wall" "by" "I" ∈ wT := wT_of (List.mem_of_getElem? (i := 178) (by decide +kernel)) (by decide +kernel)
theorem q0_179 : Cond.fieldLinkNest "NodeMaker" 116 "NodeMaker$Wall" "by" "I" "NodeMaker" ∈ lw_tbl := List.mem_of_getElem? (i := 179) (by decide +kernel)
theorem q0_180 : Cond.fieldLinkNest "NodeMaker$Tree" 156 "NodeMaker$Wall" "by" "I" "NodeMaker" ∈ lw_tbl := List.mem_of_getElem? (i := 180) (by decide +kernel)
theorem q_190 : Cond.methodLink "NodeMaker" 25 yT_addWall ∈ wT := wT_of (List.mem_of_getElem? (i := 190) (by decide +kernel)) (by decide +kernel)
theorem q_191 : Cond.instanceMethod yT_addWall ∈ wT := wT_of (List.mem_of_getElem? (i := 191) (by decide +kernel)) (by decide +kernel)
theorem q_192 : Cond.selects "NodeMaker$Tree" yT_addWall yT_addWall ∈ wT := wT_of (List.mem_of_getElem? (i := 192) (by decide +kernel)) (by decide +kernel)
theorem q_193 : Cond.code yT_addWall kT_addWall 3 (some .int) ∈ wT := wT_of (List.mem_of_getElem? (i := 193) (by decide +kernel)) (by decide +kernel)
theorem q_194 : Cond.methodLink "NodeMaker$Tree" 64 yS_add ∈ wT := wT_of (List.mem_of_getElem? (i := 194) (by decide +kernel)) (by decide +kernel)
theorem q_195 : Cond.instanceMethod yS_add ∈ wT := wT_of (List.mem_of_getElem? (i := 195) (by decide +kernel)) (by decide +kernel)
theorem q_196 : Cond.selects "NodeMaker$Walls" yS_add yS_add ∈ wT := wT_of (List.mem_of_getElem? (i := 196) (by decide +kernel)) (by decide +kernel)
theorem q_197 : Cond.code yS_add kS_add 5 (some .int) ∈ wT := wT_of (List.mem_of_getElem? (i := 197) (by decide +kernel)) (by decide +kernel)
theorem q_198 : Cond.methodLink "NodeMaker$Walls" 21 yW_clashes ∈ wT := wT_of (List.mem_of_getElem? (i := 198) (by decide +kernel)) (by decide +kernel)
theorem q_199 : Cond.instanceMethod yW_clashes ∈ wT := wT_of (List.mem_of_getElem? (i := 199) (by decide +kernel)) (by decide +kernel)
theorem q_200 : Cond.selects "NodeMaker$Wall" yW_clashes yW_clashes ∈ wT := wT_of (List.mem_of_getElem? (i := 200) (by decide +kernel)) (by decide +kernel)
theorem q_201 : Cond.code yW_clashes kW_clashes 2 (some .boolean) ∈ wT := wT_of (List.mem_of_getElem? (i := 201) (by decide +kernel)) (by decide +kernel)
theorem q_202 : Cond.methodLink "NodeMaker$Wall" 26 yW_hasEnd ∈ wT := wT_of (List.mem_of_getElem? (i := 202) (by decide +kernel)) (by decide +kernel)
theorem q_203 : Cond.instanceMethod yW_hasEnd ∈ wT := wT_of (List.mem_of_getElem? (i := 203) (by decide +kernel)) (by decide +kernel)
theorem q_204 : Cond.selects "NodeMaker$Wall" yW_hasEnd yW_hasEnd ∈ wT := wT_of (List.mem_of_getElem? (i := 204) (by decide +kernel)) (by decide +kernel)
theorem q_205 : Cond.code yW_hasEnd kW_hasEnd 3 (some .boolean) ∈ wT := wT_of (List.mem_of_getElem? (i := 205) (by decide +kernel)) (by decide +kernel)
theorem q_206 : Cond.methodLink "NodeMaker$Wall" 39 yW_parts ∈ wT := wT_of (List.mem_of_getElem? (i := 206) (by decide +kernel)) (by decide +kernel)
theorem q_207 : Cond.instanceMethod yW_parts ∈ wT := wT_of (List.mem_of_getElem? (i := 207) (by decide +kernel)) (by decide +kernel)
theorem q_208 : Cond.selects "NodeMaker$Wall" yW_parts yW_parts ∈ wT := wT_of (List.mem_of_getElem? (i := 208) (by decide +kernel)) (by decide +kernel)
theorem q_209 : Cond.code yW_parts kW_parts 6 (some .boolean) ∈ wT := wT_of (List.mem_of_getElem? (i := 209) (by decide +kernel)) (by decide +kernel)
theorem q_210 : Cond.methodLink "NodeMaker$Wall" 22 yW_side ∈ wT := wT_of (List.mem_of_getElem? (i := 210) (by decide +kernel)) (by decide +kernel)
theorem q_211 : Cond.instanceMethod yW_side ∈ wT := wT_of (List.mem_of_getElem? (i := 211) (by decide +kernel)) (by decide +kernel)
theorem q_212 : Cond.selects "NodeMaker$Wall" yW_side yW_side ∈ wT := wT_of (List.mem_of_getElem? (i := 212) (by decide +kernel)) (by decide +kernel)
theorem q_213 : Cond.code yW_side kW_side 3 (some .long) ∈ wT := wT_of (List.mem_of_getElem? (i := 213) (by decide +kernel)) (by decide +kernel)
theorem q_214 : Cond.methodLink "NodeMaker$Wall" 43 yW_hasWithin ∈ wT := wT_of (List.mem_of_getElem? (i := 214) (by decide +kernel)) (by decide +kernel)
theorem q_215 : Cond.instanceMethod yW_hasWithin ∈ wT := wT_of (List.mem_of_getElem? (i := 215) (by decide +kernel)) (by decide +kernel)
theorem q_216 : Cond.selects "NodeMaker$Wall" yW_hasWithin yW_hasWithin ∈ wT := wT_of (List.mem_of_getElem? (i := 216) (by decide +kernel)) (by decide +kernel)
theorem q_217 : Cond.code yW_hasWithin kW_hasWithin 3 (some .boolean) ∈ wT := wT_of (List.mem_of_getElem? (i := 217) (by decide +kernel)) (by decide +kernel)
theorem q_218 : Cond.methodLink "NodeMaker$Wall" 30 yH_min ∈ wT := wT_of (List.mem_of_getElem? (i := 218) (by decide +kernel)) (by decide +kernel)
theorem q_219 : Cond.static yH_min ∈ wT := wT_of (List.mem_of_getElem? (i := 219) (by decide +kernel)) (by decide +kernel)
theorem q_220 : Cond.code yH_min kH_min 2 (some .int) ∈ wT := wT_of (List.mem_of_getElem? (i := 220) (by decide +kernel)) (by decide +kernel)
theorem q_221 : Cond.methodLink "NodeMaker$Wall" 36 yH_max ∈ wT := wT_of (List.mem_of_getElem? (i := 221) (by decide +kernel)) (by decide +kernel)
theorem q_222 : Cond.static yH_max ∈ wT := wT_of (List.mem_of_getElem? (i := 222) (by decide +kernel)) (by decide +kernel)
theorem q_223 : Cond.code yH_max kH_max 2 (some .int) ∈ wT := wT_of (List.mem_of_getElem? (i := 223) (by decide +kernel)) (by decide +kernel)
theorem q_224 : Cond.methodLink "NodeMakerLaw" 18 yN_take ∈ wT := wT_of (List.mem_of_getElem? (i := 224) (by decide +kernel)) (by decide +kernel)
theorem q_225 : Cond.instanceMethod yN_take ∈ wT := wT_of (List.mem_of_getElem? (i := 225) (by decide +kernel)) (by decide +kernel)
theorem q_226 : Cond.selects "NodeMaker" yN_take yN_take ∈ wT := wT_of (List.mem_of_getElem? (i := 226) (by decide +kernel)) (by decide +kernel)
theorem q_227 : Cond.code yN_take kN_take 2 (some .boolean) ∈ wT := wT_of (List.mem_of_getElem? (i := 227) (by decide +kernel)) (by decide +kernel)
theorem q_228 : Cond.methodLink "NodeMaker" 29 yT_dropWall ∈ wT := wT_of (List.mem_of_getElem? (i := 228) (by decide +kernel)) (by decide +kernel)
theorem q_229 : Cond.instanceMethod yT_dropWall ∈ wT := wT_of (List.mem_of_getElem? (i := 229) (by decide +kernel)) (by decide +kernel)
theorem q_230 : Cond.selects "NodeMaker$Tree" yT_dropWall yT_dropWall ∈ wT := wT_of (List.mem_of_getElem? (i := 230) (by decide +kernel)) (by decide +kernel)
theorem q_231 : Cond.code yT_dropWall kT_dropWall 3 (some .boolean) ∈ wT := wT_of (List.mem_of_getElem? (i := 231) (by decide +kernel)) (by decide +kernel)
theorem q_232 : Cond.methodLink "NodeMaker$Tree" 72 yS_drop ∈ wT := wT_of (List.mem_of_getElem? (i := 232) (by decide +kernel)) (by decide +kernel)
theorem q_233 : Cond.instanceMethod yS_drop ∈ wT := wT_of (List.mem_of_getElem? (i := 233) (by decide +kernel)) (by decide +kernel)
theorem q_234 : Cond.selects "NodeMaker$Walls" yS_drop yS_drop ∈ wT := wT_of (List.mem_of_getElem? (i := 234) (by decide +kernel)) (by decide +kernel)
theorem q_235 : Cond.code yS_drop kS_drop 2 (some .boolean) ∈ wT := wT_of (List.mem_of_getElem? (i := 235) (by decide +kernel)) (by decide +kernel)
theorem q_236 : Cond.methodLink "NodeMaker$Walls" 25 yS_at ∈ wT := wT_of (List.mem_of_getElem? (i := 236) (by decide +kernel)) (by decide +kernel)
theorem q_237 : Cond.instanceMethod yS_at ∈ wT := wT_of (List.mem_of_getElem? (i := 237) (by decide +kernel)) (by decide +kernel)
theorem q_238 : Cond.selects "NodeMaker$Walls" yS_at yS_at ∈ wT := wT_of (List.mem_of_getElem? (i := 238) (by decide +kernel)) (by decide +kernel)
theorem q_239 : Cond.code yS_at kS_at 2 (some (.object "NodeMaker$Wall")) ∈ wT := wT_of (List.mem_of_getElem? (i := 239) (by decide +kernel)) (by decide +kernel)
theorem q_240 : Cond.methodLink "NodeMakerLaw" 23 yN_clear ∈ wT := wT_of (List.mem_of_getElem? (i := 240) (by decide +kernel)) (by decide +kernel)
theorem q_241 : Cond.instanceMethod yN_clear ∈ wT := wT_of (List.mem_of_getElem? (i := 241) (by decide +kernel)) (by decide +kernel)
theorem q_242 : Cond.selects "NodeMaker" yN_clear yN_clear ∈ wT := wT_of (List.mem_of_getElem? (i := 242) (by decide +kernel)) (by decide +kernel)
theorem q_243 : Cond.code yN_clear kN_clear 1 none ∈ wT := wT_of (List.mem_of_getElem? (i := 243) (by decide +kernel)) (by decide +kernel)
theorem q_244 : Cond.methodLink "NodeMaker" 33 yT_dropAllWalls ∈ wT := wT_of (List.mem_of_getElem? (i := 244) (by decide +kernel)) (by decide +kernel)
theorem q_245 : Cond.instanceMethod yT_dropAllWalls ∈ wT := wT_of (List.mem_of_getElem? (i := 245) (by decide +kernel)) (by decide +kernel)
theorem q_246 : Cond.selects "NodeMaker$Tree" yT_dropAllWalls yT_dropAllWalls ∈ wT := wT_of (List.mem_of_getElem? (i := 246) (by decide +kernel)) (by decide +kernel)
theorem q_247 : Cond.code yT_dropAllWalls kT_dropAllWalls 1 none ∈ wT := wT_of (List.mem_of_getElem? (i := 247) (by decide +kernel)) (by decide +kernel)
theorem q_248 : Cond.methodLink "NodeMaker$Tree" 76 yS_dropAll ∈ wT := wT_of (List.mem_of_getElem? (i := 248) (by decide +kernel)) (by decide +kernel)
theorem q_249 : Cond.instanceMethod yS_dropAll ∈ wT := wT_of (List.mem_of_getElem? (i := 249) (by decide +kernel)) (by decide +kernel)
theorem q_250 : Cond.selects "NodeMaker$Walls" yS_dropAll yS_dropAll ∈ wT := wT_of (List.mem_of_getElem? (i := 250) (by decide +kernel)) (by decide +kernel)
theorem q_251 : Cond.code yS_dropAll kS_dropAll 2 none ∈ wT := wT_of (List.mem_of_getElem? (i := 251) (by decide +kernel)) (by decide +kernel)
theorem q_252 : Cond.methodLink "NodeMakerLaw" 27 yN_node ∈ wT := wT_of (List.mem_of_getElem? (i := 252) (by decide +kernel)) (by decide +kernel)
theorem q_253 : Cond.instanceMethod yN_node ∈ wT := wT_of (List.mem_of_getElem? (i := 253) (by decide +kernel)) (by decide +kernel)
theorem q_254 : Cond.selects "NodeMaker" yN_node yN_node ∈ wT := wT_of (List.mem_of_getElem? (i := 254) (by decide +kernel)) (by decide +kernel)
theorem q_255 : Cond.code yN_node kN_node 3 (some .int) ∈ wT := wT_of (List.mem_of_getElem? (i := 255) (by decide +kernel)) (by decide +kernel)
theorem q_256 : Cond.methodLink "NodeMaker" 36 yT_grow ∈ wT := wT_of (List.mem_of_getElem? (i := 256) (by decide +kernel)) (by decide +kernel)
theorem q_257 : Cond.instanceMethod yT_grow ∈ wT := wT_of (List.mem_of_getElem? (i := 257) (by decide +kernel)) (by decide +kernel)
theorem q_258 : Cond.selects "NodeMaker$Tree" yT_grow yT_grow ∈ wT := wT_of (List.mem_of_getElem? (i := 258) (by decide +kernel)) (by decide +kernel)
theorem q_259 : Cond.code yT_grow kT_grow 2 none ∈ wT := wT_of (List.mem_of_getElem? (i := 259) (by decide +kernel)) (by decide +kernel)
theorem q_260 : Cond.methodLink "NodeMaker$Tree" 79 yT_fell ∈ wT := wT_of (List.mem_of_getElem? (i := 260) (by decide +kernel)) (by decide +kernel)
theorem q_262 : Cond.instanceMethod yT_fell ∈ wT := wT_of (List.mem_of_getElem? (i := 262) (by decide +kernel)) (by decide +kernel)
theorem q_263 : Cond.code yT_fell kT_fell 1 none ∈ wT := wT_of (List.mem_of_getElem? (i := 263) (by decide +kernel)) (by decide +kernel)
theorem q_264 : Cond.methodLink "NodeMaker$Tree" 89 yR_shorten ∈ wT := wT_of (List.mem_of_getElem? (i := 264) (by decide +kernel)) (by decide +kernel)
theorem q_265 : Cond.instanceMethod yR_shorten ∈ wT := wT_of (List.mem_of_getElem? (i := 265) (by decide +kernel)) (by decide +kernel)
theorem q_266 : Cond.selects "NodeMaker$Row" yR_shorten yR_shorten ∈ wT := wT_of (List.mem_of_getElem? (i := 266) (by decide +kernel)) (by decide +kernel)
theorem q_267 : Cond.code yR_shorten kR_shorten 2 none ∈ wT := wT_of (List.mem_of_getElem? (i := 267) (by decide +kernel)) (by decide +kernel)
theorem q_268 : Cond.methodLink "NodeMaker$Tree" 93 yP_shorten ∈ wT := wT_of (List.mem_of_getElem? (i := 268) (by decide +kernel)) (by decide +kernel)
theorem q_269 : Cond.instanceMethod yP_shorten ∈ wT := wT_of (List.mem_of_getElem? (i := 269) (by decide +kernel)) (by decide +kernel)
theorem q_270 : Cond.selects "NodeMaker$Pieces" yP_shorten yP_shorten ∈ wT := wT_of (List.mem_of_getElem? (i := 270) (by decide +kernel)) (by decide +kernel)
theorem q_271 : Cond.code yP_shorten kP_shorten 2 none ∈ wT := wT_of (List.mem_of_getElem? (i := 271) (by decide +kernel)) (by decide +kernel)
theorem q_272 : Cond.methodLink "NodeMaker$Pieces" 38 yR_shorten ∈ wT := wT_of (List.mem_of_getElem? (i := 272) (by decide +kernel)) (by decide +kernel)
theorem q_273 : Cond.methodLink "NodeMaker$Tree" 56 yS_at ∈ wT := wT_of (List.mem_of_getElem? (i := 273) (by decide +kernel)) (by decide +kernel)
theorem q_274 : Cond.methodLink "NodeMaker$Tree" 82 yP_add ∈ wT := wT_of (List.mem_of_getElem? (i := 274) (by decide +kernel)) (by decide +kernel)
theorem q_275 : Cond.instanceMethod yP_add ∈ wT := wT_of (List.mem_of_getElem? (i := 275) (by decide +kernel)) (by decide +kernel)
theorem q_276 : Cond.selects "NodeMaker$Pieces" yP_add yP_add ∈ wT := wT_of (List.mem_of_getElem? (i := 276) (by decide +kernel)) (by decide +kernel)
theorem q_277 : Cond.code yP_add kP_add 4 none ∈ wT := wT_of (List.mem_of_getElem? (i := 277) (by decide +kernel)) (by decide +kernel)
theorem q_278 : Cond.methodLink "NodeMaker$Pieces" 30 yR_add ∈ wT := wT_of (List.mem_of_getElem? (i := 278) (by decide +kernel)) (by decide +kernel)
theorem q_279 : Cond.instanceMethod yR_add ∈ wT := wT_of (List.mem_of_getElem? (i := 279) (by decide +kernel)) (by decide +kernel)
theorem q_280 : Cond.selects "NodeMaker$Row" yR_add yR_add ∈ wT := wT_of (List.mem_of_getElem? (i := 280) (by decide +kernel)) (by decide +kernel)
theorem q_281 : Cond.code yR_add kR_add 2 none ∈ wT := wT_of (List.mem_of_getElem? (i := 281) (by decide +kernel)) (by decide +kernel)
theorem q_282 : Cond.methodLink "NodeMaker$Row" 19 yA_copyOf ∈ wT := wT_of (List.mem_of_getElem? (i := 282) (by decide +kernel)) (by decide +kernel)
theorem q_283 : Cond.static yA_copyOf ∈ wT := wT_of (List.mem_of_getElem? (i := 283) (by decide +kernel)) (by decide +kernel)
theorem q_284 : Cond.code yA_copyOf kA_copyOf 3 (some (.array .int)) ∈ wT := wT_of (List.mem_of_getElem? (i := 284) (by decide +kernel)) (by decide +kernel)
theorem q_285 : Cond.methodLink "java/util/Arrays" 316 ⟨"[I", "clone", "()Ljava/lang/Object;"⟩ ∈ wT := wT_of (List.mem_of_getElem? (i := 285) (by decide +kernel)) (by decide +kernel)
theorem q_288 : Cond.instanceMethod ⟨"java/lang/Object", "clone", "()Ljava/lang/Object;"⟩ ∈ wT := wT_of (List.mem_of_getElem? (i := 288) (by decide +kernel)) (by decide +kernel)
theorem q_289 : Cond.selects "[I" ⟨"[I", "clone", "()Ljava/lang/Object;"⟩ ⟨"java/lang/Object", "clone", "()Ljava/lang/Object;"⟩ ∈ wT := wT_of (List.mem_of_getElem? (i := 289) (by decide +kernel)) (by decide +kernel)
theorem q_291 : Cond.classLink "java/util/Arrays" 317 "[I" ∈ wT := wT_of (List.mem_of_getElem? (i := 291) (by decide +kernel)) (by decide +kernel)
theorem q_292 : Cond.methodLink "java/util/Arrays" 304 yH_min ∈ wT := wT_of (List.mem_of_getElem? (i := 292) (by decide +kernel)) (by decide +kernel)
theorem q_293 : Cond.methodLink "java/util/Arrays" 150 ⟨"java/lang/System", "arraycopy", "(Ljava/lang/Object;ILjava/lang/Object;II)V"⟩ ∈ wT := wT_of (List.mem_of_getElem? (i := 293) (by decide +kernel)) (by decide +kernel)
theorem q_294 : Cond.static ⟨"java/lang/System", "arraycopy", "(Ljava/lang/Object;ILjava/lang/Object;II)V"⟩ ∈ wT := wT_of (List.mem_of_getElem? (i := 294) (by decide +kernel)) (by decide +kernel)
theorem q_296 : Cond.methodLink "NodeMaker$Tree" 85 yT_plant ∈ wT := wT_of (List.mem_of_getElem? (i := 296) (by decide +kernel)) (by decide +kernel)
theorem q_298 : Cond.instanceMethod yT_plant ∈ wT := wT_of (List.mem_of_getElem? (i := 298) (by decide +kernel)) (by decide +kernel)
theorem q_299 : Cond.code yT_plant kT_plant 6 (some .int) ∈ wT := wT_of (List.mem_of_getElem? (i := 299) (by decide +kernel)) (by decide +kernel)
theorem q_300 : Cond.methodLink "NodeMaker$Tree" 98 yP_count ∈ wT := wT_of (List.mem_of_getElem? (i := 300) (by decide +kernel)) (by decide +kernel)
theorem q_301 : Cond.instanceMethod yP_count ∈ wT := wT_of (List.mem_of_getElem? (i := 301) (by decide +kernel)) (by decide +kernel)
theorem q_302 : Cond.selects "NodeMaker$Pieces" yP_count yP_count ∈ wT := wT_of (List.mem_of_getElem? (i := 302) (by decide +kernel)) (by decide +kernel)
theorem q_303 : Cond.code yP_count kP_count 1 (some .int) ∈ wT := wT_of (List.mem_of_getElem? (i := 303) (by decide +kernel)) (by decide +kernel)
theorem q_304 : Cond.methodLink "NodeMaker$Pieces" 22 yR_count ∈ wT := wT_of (List.mem_of_getElem? (i := 304) (by decide +kernel)) (by decide +kernel)
theorem q_305 : Cond.instanceMethod yR_count ∈ wT := wT_of (List.mem_of_getElem? (i := 305) (by decide +kernel)) (by decide +kernel)
theorem q_306 : Cond.selects "NodeMaker$Row" yR_count yR_count ∈ wT := wT_of (List.mem_of_getElem? (i := 306) (by decide +kernel)) (by decide +kernel)
theorem q_307 : Cond.code yR_count kR_count 1 (some .int) ∈ wT := wT_of (List.mem_of_getElem? (i := 307) (by decide +kernel)) (by decide +kernel)
theorem q_308 : Cond.methodLink "NodeMaker$Tree" 99 yR_count ∈ wT := wT_of (List.mem_of_getElem? (i := 308) (by decide +kernel)) (by decide +kernel)
theorem q_309 : Cond.methodLink "NodeMaker$Tree" 100 yT_bestLine ∈ wT := wT_of (List.mem_of_getElem? (i := 309) (by decide +kernel)) (by decide +kernel)
theorem q_311 : Cond.instanceMethod yT_bestLine ∈ wT := wT_of (List.mem_of_getElem? (i := 311) (by decide +kernel)) (by decide +kernel)
theorem q_312 : Cond.code yT_bestLine kT_bestLine 11 (some .int) ∈ wT := wT_of (List.mem_of_getElem? (i := 312) (by decide +kernel)) (by decide +kernel)
theorem q_313 : Cond.methodLink "NodeMaker$Tree" 119 yP_wallAt ∈ wT := wT_of (List.mem_of_getElem? (i := 313) (by decide +kernel)) (by decide +kernel)
theorem q_314 : Cond.instanceMethod yP_wallAt ∈ wT := wT_of (List.mem_of_getElem? (i := 314) (by decide +kernel)) (by decide +kernel)
theorem q_315 : Cond.selects "NodeMaker$Pieces" yP_wallAt yP_wallAt ∈ wT := wT_of (List.mem_of_getElem? (i := 315) (by decide +kernel)) (by decide +kernel)
theorem q_316 : Cond.code yP_wallAt kP_wallAt 2 (some .int) ∈ wT := wT_of (List.mem_of_getElem? (i := 316) (by decide +kernel)) (by decide +kernel)
theorem q_317 : Cond.methodLink "NodeMaker$Pieces" 26 yR_at ∈ wT := wT_of (List.mem_of_getElem? (i := 317) (by decide +kernel)) (by decide +kernel)
theorem q_318 : Cond.instanceMethod yR_at ∈ wT := wT_of (List.mem_of_getElem? (i := 318) (by decide +kernel)) (by decide +kernel)
theorem q_319 : Cond.selects "NodeMaker$Row" yR_at yR_at ∈ wT := wT_of (List.mem_of_getElem? (i := 319) (by decide +kernel)) (by decide +kernel)
theorem q_320 : Cond.code yR_at kR_at 2 (some .int) ∈ wT := wT_of (List.mem_of_getElem? (i := 320) (by decide +kernel)) (by decide +kernel)
theorem q_321 : Cond.methodLink "NodeMaker$Tree" 122 yT_whereLies ∈ wT := wT_of (List.mem_of_getElem? (i := 321) (by decide +kernel)) (by decide +kernel)
theorem q_323 : Cond.instanceMethod yT_whereLies ∈ wT := wT_of (List.mem_of_getElem? (i := 323) (by decide +kernel)) (by decide +kernel)
theorem q_324 : Cond.code yT_whereLies kT_whereLies 4 (some .int) ∈ wT := wT_of (List.mem_of_getElem? (i := 324) (by decide +kernel)) (by decide +kernel)
theorem q_325 : Cond.methodLink "NodeMaker$Tree" 128 yP_firstAt ∈ wT := wT_of (List.mem_of_getElem? (i := 325) (by decide +kernel)) (by decide +kernel)
theorem q_326 : Cond.instanceMethod yP_firstAt ∈ wT := wT_of (List.mem_of_getElem? (i := 326) (by decide +kernel)) (by decide +kernel)
theorem q_327 : Cond.selects "NodeMaker$Pieces" yP_firstAt yP_firstAt ∈ wT := wT_of (List.mem_of_getElem? (i := 327) (by decide +kernel)) (by decide +kernel)
theorem q_328 : Cond.code yP_firstAt kP_firstAt 2 (some .int) ∈ wT := wT_of (List.mem_of_getElem? (i := 328) (by decide +kernel)) (by decide +kernel)
theorem q_329 : Cond.methodLink "NodeMaker$Tree" 134 yT_sideOfEnd ∈ wT := wT_of (List.mem_of_getElem? (i := 329) (by decide +kernel)) (by decide +kernel)
theorem q_331 : Cond.instanceMethod yT_sideOfEnd ∈ wT := wT_of (List.mem_of_getElem? (i := 331) (by decide +kernel)) (by decide +kernel)
theorem q_332 : Cond.code yT_sideOfEnd kT_sideOfEnd 12 (some .int) ∈ wT := wT_of (List.mem_of_getElem? (i := 332) (by decide +kernel)) (by decide +kernel)
theorem q_333 : Cond.methodLink "NodeMaker$Tree" 149 yW_side ∈ wT := wT_of (List.mem_of_getElem? (i := 333) (by decide +kernel)) (by decide +kernel)
theorem q_334 : Cond.methodLink "NodeMaker$Tree" 159 yT_sideOf ∈ wT := wT_of (List.mem_of_getElem? (i := 334) (by decide +kernel)) (by decide +kernel)
theorem q_335 : Cond.static yT_sideOf ∈ wT := wT_of (List.mem_of_getElem? (i := 335) (by decide +kernel)) (by decide +kernel)
theorem q_336 : Cond.code yT_sideOf kT_sideOf 2 (some .int) ∈ wT := wT_of (List.mem_of_getElem? (i := 336) (by decide +kernel)) (by decide +kernel)
theorem q_337 : Cond.methodLink "NodeMaker$Tree" 163 yH_abs ∈ wT := wT_of (List.mem_of_getElem? (i := 337) (by decide +kernel)) (by decide +kernel)
theorem q_338 : Cond.static yH_abs ∈ wT := wT_of (List.mem_of_getElem? (i := 338) (by decide +kernel)) (by decide +kernel)
theorem q_339 : Cond.code yH_abs kH_abs 2 (some .long) ∈ wT := wT_of (List.mem_of_getElem? (i := 339) (by decide +kernel)) (by decide +kernel)
theorem q_340 : Cond.methodLink "NodeMaker$Tree" 166 yT_sideBetween ∈ wT := wT_of (List.mem_of_getElem? (i := 340) (by decide +kernel)) (by decide +kernel)
theorem q_341 : Cond.static yT_sideBetween ∈ wT := wT_of (List.mem_of_getElem? (i := 341) (by decide +kernel)) (by decide +kernel)
theorem q_342 : Cond.code yT_sideBetween kT_sideBetween 14 (some .int) ∈ wT := wT_of (List.mem_of_getElem? (i := 342) (by decide +kernel)) (by decide +kernel)
theorem q_343 : Cond.constantLong "NodeMaker$Tree" 170 (-9223372036854775808) ∈ wT := wT_of (List.mem_of_getElem? (i := 343) (by decide +kernel)) (by decide +kernel)
theorem q_344 : Cond.methodLink "NodeMaker$Tree" 131 yP_lastAt ∈ wT := wT_of (List.mem_of_getElem? (i := 344) (by decide +kernel)) (by decide +kernel)
theorem q_345 : Cond.instanceMethod yP_lastAt ∈ wT := wT_of (List.mem_of_getElem? (i := 345) (by decide +kernel)) (by decide +kernel)
theorem q_346 : Cond.selects "NodeMaker$Pieces" yP_lastAt yP_lastAt ∈ wT := wT_of (List.mem_of_getElem? (i := 346) (by decide +kernel)) (by decide +kernel)
theorem q_347 : Cond.code yP_lastAt kP_lastAt 2 (some .int) ∈ wT := wT_of (List.mem_of_getElem? (i := 347) (by decide +kernel)) (by decide +kernel)
theorem q_348 : Cond.methodLink "NodeMaker$Tree" 125 yH_abs_II ∈ wT := wT_of (List.mem_of_getElem? (i := 348) (by decide +kernel)) (by decide +kernel)
theorem q_349 : Cond.static yH_abs_II ∈ wT := wT_of (List.mem_of_getElem? (i := 349) (by decide +kernel)) (by decide +kernel)
theorem q_350 : Cond.code yH_abs_II kH_abs_II 1 (some .int) ∈ wT := wT_of (List.mem_of_getElem? (i := 350) (by decide +kernel)) (by decide +kernel)
theorem q_351 : Cond.methodLink "NodeMaker$Tree" 104 yR_add ∈ wT := wT_of (List.mem_of_getElem? (i := 351) (by decide +kernel)) (by decide +kernel)
theorem q_352 : Cond.methodLink "NodeMaker$Tree" 106 yH_max ∈ wT := wT_of (List.mem_of_getElem? (i := 352) (by decide +kernel)) (by decide +kernel)
theorem q_353 : Cond.methodLink "NodeMaker$Tree" 111 yT_divide ∈ wT := wT_of (List.mem_of_getElem? (i := 353) (by decide +kernel)) (by decide +kernel)
theorem q_355 : Cond.instanceMethod yT_divide ∈ wT := wT_of (List.mem_of_getElem? (i := 355) (by decide +kernel)) (by decide +kernel)
theorem q_356 : Cond.code yT_divide kT_divide 13 (some .int) ∈ wT := wT_of (List.mem_of_getElem? (i := 356) (by decide +kernel)) (by decide +kernel)
theorem q_357 : Cond.methodLink "NodeMaker$Tree" 138 yP_set ∈ wT := wT_of (List.mem_of_getElem? (i := 357) (by decide +kernel)) (by decide +kernel)
theorem q_358 : Cond.instanceMethod yP_set ∈ wT := wT_of (List.mem_of_getElem? (i := 358) (by decide +kernel)) (by decide +kernel)
theorem q_359 : Cond.selects "NodeMaker$Pieces" yP_set yP_set ∈ wT := wT_of (List.mem_of_getElem? (i := 359) (by decide +kernel)) (by decide +kernel)
theorem q_360 : Cond.code yP_set kP_set 5 none ∈ wT := wT_of (List.mem_of_getElem? (i := 360) (by decide +kernel)) (by decide +kernel)
theorem q_361 : Cond.methodLink "NodeMaker$Pieces" 34 yR_set ∈ wT := wT_of (List.mem_of_getElem? (i := 361) (by decide +kernel)) (by decide +kernel)
theorem q_362 : Cond.instanceMethod yR_set ∈ wT := wT_of (List.mem_of_getElem? (i := 362) (by decide +kernel)) (by decide +kernel)
theorem q_363 : Cond.selects "NodeMaker$Row" yR_set yR_set ∈ wT := wT_of (List.mem_of_getElem? (i := 363) (by decide +kernel)) (by decide +kernel)
theorem q_364 : Cond.code yR_set kR_set 3 none ∈ wT := wT_of (List.mem_of_getElem? (i := 364) (by decide +kernel)) (by decide +kernel)
theorem q_365 : Cond.methodLink "NodeMaker$Tree" 115 yR_set ∈ wT := wT_of (List.mem_of_getElem? (i := 365) (by decide +kernel)) (by decide +kernel)
theorem q_366 : Cond.methodLink "NodeMaker" 39 yT_hasNode ∈ wT := wT_of (List.mem_of_getElem? (i := 366) (by decide +kernel)) (by decide +kernel)
theorem q_367 : Cond.instanceMethod yT_hasNode ∈ wT := wT_of (List.mem_of_getElem? (i := 367) (by decide +kernel)) (by decide +kernel)
theorem q_368 : Cond.selects "NodeMaker$Tree" yT_hasNode yT_hasNode ∈ wT := wT_of (List.mem_of_getElem? (i := 368) (by decide +kernel)) (by decide +kernel)
theorem q_369 : Cond.code yT_hasNode kT_hasNode 2 (some .boolean) ∈ wT := wT_of (List.mem_of_getElem? (i := 369) (by decide +kernel)) (by decide +kernel)
theorem q_370 : Cond.methodLink "NodeMaker" 42 yT_lineOf ∈ wT := wT_of (List.mem_of_getElem? (i := 370) (by decide +kernel)) (by decide +kernel)
theorem q_371 : Cond.instanceMethod yT_lineOf ∈ wT := wT_of (List.mem_of_getElem? (i := 371) (by decide +kernel)) (by decide +kernel)
theorem q_372 : Cond.selects "NodeMaker$Tree" yT_lineOf yT_lineOf ∈ wT := wT_of (List.mem_of_getElem? (i := 372) (by decide +kernel)) (by decide +kernel)
theorem q_373 : Cond.code yT_lineOf kT_lineOf 2 (some .int) ∈ wT := wT_of (List.mem_of_getElem? (i := 373) (by decide +kernel)) (by decide +kernel)
theorem q_374 : Cond.methodLink "NodeMaker$Tree" 172 yR_at ∈ wT := wT_of (List.mem_of_getElem? (i := 374) (by decide +kernel)) (by decide +kernel)
theorem q_375 : Cond.methodLink "NodeMaker" 46 yT_leftOf ∈ wT := wT_of (List.mem_of_getElem? (i := 375) (by decide +kernel)) (by decide +kernel)
theorem q_376 : Cond.instanceMethod yT_leftOf ∈ wT := wT_of (List.mem_of_getElem? (i := 376) (by decide +kernel)) (by decide +kernel)
theorem q_377 : Cond.selects "NodeMaker$Tree" yT_leftOf yT_leftOf ∈ wT := wT_of (List.mem_of_getElem? (i := 377) (by decide +kernel)) (by decide +kernel)
theorem q_378 : Cond.code yT_leftOf kT_leftOf 2 (some .int) ∈ wT := wT_of (List.mem_of_getElem? (i := 378) (by decide +kernel)) (by decide +kernel)
theorem q_379 : Cond.methodLink "NodeMaker" 49 yT_rightOf ∈ wT := wT_of (List.mem_of_getElem? (i := 379) (by decide +kernel)) (by decide +kernel)
theorem q_380 : Cond.instanceMethod yT_rightOf ∈ wT := wT_of (List.mem_of_getElem? (i := 380) (by decide +kernel)) (by decide +kernel)
theorem q_381 : Cond.selects "NodeMaker$Tree" yT_rightOf yT_rightOf ∈ wT := wT_of (List.mem_of_getElem? (i := 381) (by decide +kernel)) (by decide +kernel)
theorem q_382 : Cond.code yT_rightOf kT_rightOf 2 (some .int) ∈ wT := wT_of (List.mem_of_getElem? (i := 382) (by decide +kernel)) (by decide +kernel)
theorem q_383 : Cond.methodLink "NodeMaker" 52 yT_ownPieces ∈ wT := wT_of (List.mem_of_getElem? (i := 383) (by decide +kernel)) (by decide +kernel)
theorem q_384 : Cond.instanceMethod yT_ownPieces ∈ wT := wT_of (List.mem_of_getElem? (i := 384) (by decide +kernel)) (by decide +kernel)
theorem q_385 : Cond.selects "NodeMaker$Tree" yT_ownPieces yT_ownPieces ∈ wT := wT_of (List.mem_of_getElem? (i := 385) (by decide +kernel)) (by decide +kernel)
theorem q_386 : Cond.code yT_ownPieces kT_ownPieces 2 (some .int) ∈ wT := wT_of (List.mem_of_getElem? (i := 386) (by decide +kernel)) (by decide +kernel)
theorem q_387 : Cond.methodLink "NodeMaker$Tree" 174 yT_hasNode ∈ wT := wT_of (List.mem_of_getElem? (i := 387) (by decide +kernel)) (by decide +kernel)
theorem q_388 : Cond.methodLink "NodeMaker$Tree" 177 yT_firstPieceFrom ∈ wT := wT_of (List.mem_of_getElem? (i := 388) (by decide +kernel)) (by decide +kernel)
theorem q_390 : Cond.instanceMethod yT_firstPieceFrom ∈ wT := wT_of (List.mem_of_getElem? (i := 390) (by decide +kernel)) (by decide +kernel)
theorem q_391 : Cond.code yT_firstPieceFrom kT_firstPieceFrom 2 (some .int) ∈ wT := wT_of (List.mem_of_getElem? (i := 391) (by decide +kernel)) (by decide +kernel)
theorem q_392 : Cond.methodLink "NodeMaker" 55 yT_nodesIn ∈ wT := wT_of (List.mem_of_getElem? (i := 392) (by decide +kernel)) (by decide +kernel)
theorem q_393 : Cond.instanceMethod yT_nodesIn ∈ wT := wT_of (List.mem_of_getElem? (i := 393) (by decide +kernel)) (by decide +kernel)
theorem q_394 : Cond.selects "NodeMaker$Tree" yT_nodesIn yT_nodesIn ∈ wT := wT_of (List.mem_of_getElem? (i := 394) (by decide +kernel)) (by decide +kernel)
theorem q_395 : Cond.code yT_nodesIn kT_nodesIn 2 (some .int) ∈ wT := wT_of (List.mem_of_getElem? (i := 395) (by decide +kernel)) (by decide +kernel)
theorem q_396 : Cond.methodLink "NodeMaker" 58 yT_depthOf ∈ wT := wT_of (List.mem_of_getElem? (i := 396) (by decide +kernel)) (by decide +kernel)
theorem q_397 : Cond.instanceMethod yT_depthOf ∈ wT := wT_of (List.mem_of_getElem? (i := 397) (by decide +kernel)) (by decide +kernel)
theorem q_398 : Cond.selects "NodeMaker$Tree" yT_depthOf yT_depthOf ∈ wT := wT_of (List.mem_of_getElem? (i := 398) (by decide +kernel)) (by decide +kernel)
theorem q_399 : Cond.code yT_depthOf kT_depthOf 2 (some .int) ∈ wT := wT_of (List.mem_of_getElem? (i := 399) (by decide +kernel)) (by decide +kernel)
theorem q_400 : Cond.methodLink "NodeMakerLaw" 32 yN_wall ∈ wT := wT_of (List.mem_of_getElem? (i := 400) (by decide +kernel)) (by decide +kernel)
theorem q_401 : Cond.instanceMethod yN_wall ∈ wT := wT_of (List.mem_of_getElem? (i := 401) (by decide +kernel)) (by decide +kernel)
theorem q_402 : Cond.selects "NodeMaker" yN_wall yN_wall ∈ wT := wT_of (List.mem_of_getElem? (i := 402) (by decide +kernel)) (by decide +kernel)
theorem q_403 : Cond.code yN_wall kN_wall 3 (some .int) ∈ wT := wT_of (List.mem_of_getElem? (i := 403) (by decide +kernel)) (by decide +kernel)
theorem q_404 : Cond.methodLink "NodeMaker" 61 yT_pieceAt ∈ wT := wT_of (List.mem_of_getElem? (i := 404) (by decide +kernel)) (by decide +kernel)
theorem q_405 : Cond.instanceMethod yT_pieceAt ∈ wT := wT_of (List.mem_of_getElem? (i := 405) (by decide +kernel)) (by decide +kernel)
theorem q_406 : Cond.selects "NodeMaker$Tree" yT_pieceAt yT_pieceAt ∈ wT := wT_of (List.mem_of_getElem? (i := 406) (by decide +kernel)) (by decide +kernel)
theorem q_407 : Cond.code yT_pieceAt kT_pieceAt 3 (some .int) ∈ wT := wT_of (List.mem_of_getElem? (i := 407) (by decide +kernel)) (by decide +kernel)
theorem q_408 : Cond.methodLink "NodeMaker$Tree" 180 yT_ownPieces ∈ wT := wT_of (List.mem_of_getElem? (i := 408) (by decide +kernel)) (by decide +kernel)
theorem q_409 : Cond.methodLink "NodeMaker" 65 yT_wallOfPiece ∈ wT := wT_of (List.mem_of_getElem? (i := 409) (by decide +kernel)) (by decide +kernel)
theorem q_410 : Cond.instanceMethod yT_wallOfPiece ∈ wT := wT_of (List.mem_of_getElem? (i := 410) (by decide +kernel)) (by decide +kernel)
theorem q_411 : Cond.selects "NodeMaker$Tree" yT_wallOfPiece yT_wallOfPiece ∈ wT := wT_of (List.mem_of_getElem? (i := 411) (by decide +kernel)) (by decide +kernel)
theorem q_412 : Cond.code yT_wallOfPiece kT_wallOfPiece 2 (some .int) ∈ wT := wT_of (List.mem_of_getElem? (i := 412) (by decide +kernel)) (by decide +kernel)
theorem q_413 : Cond.methodLink "NodeMakerLaw" 36 yN_quotient ∈ wT := wT_of (List.mem_of_getElem? (i := 413) (by decide +kernel)) (by decide +kernel)
theorem q_414 : Cond.instanceMethod yN_quotient ∈ wT := wT_of (List.mem_of_getElem? (i := 414) (by decide +kernel)) (by decide +kernel)
theorem q_415 : Cond.selects "NodeMaker" yN_quotient yN_quotient ∈ wT := wT_of (List.mem_of_getElem? (i := 415) (by decide +kernel)) (by decide +kernel)
theorem q_416 : Cond.code yN_quotient kN_quotient 5 (some .long) ∈ wT := wT_of (List.mem_of_getElem? (i := 416) (by decide +kernel)) (by decide +kernel)
theorem q_417 : Cond.constantLong "NodeMaker" 68 (-1) ∈ wT := wT_of (List.mem_of_getElem? (i := 417) (by decide +kernel)) (by decide +kernel)
theorem q_418 : Cond.methodLink "NodeMaker" 70 yT_quotientOf ∈ wT := wT_of (List.mem_of_getElem? (i := 418) (by decide +kernel)) (by decide +kernel)
theorem q_419 : Cond.instanceMethod yT_quotientOf ∈ wT := wT_of (List.mem_of_getElem? (i := 419) (by decide +kernel)) (by decide +kernel)
theorem q_420 : Cond.selects "NodeMaker$Tree" yT_quotientOf yT_quotientOf ∈ wT := wT_of (List.mem_of_getElem? (i := 420) (by decide +kernel)) (by decide +kernel)
theorem q_421 : Cond.code yT_quotientOf kT_quotientOf 12 (some .long) ∈ wT := wT_of (List.mem_of_getElem? (i := 421) (by decide +kernel)) (by decide +kernel)
theorem q_422 : Cond.constantLong "NodeMaker$Tree" 183 (-1) ∈ wT := wT_of (List.mem_of_getElem? (i := 422) (by decide +kernel)) (by decide +kernel)
theorem q_423 : Cond.methodLink "NodeMaker$Tree" 185 yT_commonDivisor ∈ wT := wT_of (List.mem_of_getElem? (i := 423) (by decide +kernel)) (by decide +kernel)
theorem q_424 : Cond.static yT_commonDivisor ∈ wT := wT_of (List.mem_of_getElem? (i := 424) (by decide +kernel)) (by decide +kernel)
theorem q_425 : Cond.code yT_commonDivisor kT_commonDivisor 11 (some .long) ∈ wT := wT_of (List.mem_of_getElem? (i := 425) (by decide +kernel)) (by decide +kernel)
theorem q_426 : Cond.methodLink "NodeMakerLaw" 41 yN_leaf ∈ wT := wT_of (List.mem_of_getElem? (i := 426) (by decide +kernel)) (by decide +kernel)
theorem q_427 : Cond.instanceMethod yN_leaf ∈ wT := wT_of (List.mem_of_getElem? (i := 427) (by decide +kernel)) (by decide +kernel)
theorem q_428 : Cond.selects "NodeMaker" yN_leaf yN_leaf ∈ wT := wT_of (List.mem_of_getElem? (i := 428) (by decide +kernel)) (by decide +kernel)
theorem q_429 : Cond.code yN_leaf kN_leaf 3 (some .int) ∈ wT := wT_of (List.mem_of_getElem? (i := 429) (by decide +kernel)) (by decide +kernel)
theorem q_430 : Cond.methodLink "NodeMaker" 74 yT_leafAround ∈ wT := wT_of (List.mem_of_getElem? (i := 430) (by decide +kernel)) (by decide +kernel)
theorem q_431 : Cond.instanceMethod yT_leafAround ∈ wT := wT_of (List.mem_of_getElem? (i := 431) (by decide +kernel)) (by decide +kernel)
theorem q_432 : Cond.selects "NodeMaker$Tree" yT_leafAround yT_leafAround ∈ wT := wT_of (List.mem_of_getElem? (i := 432) (by decide +kernel)) (by decide +kernel)
theorem q_433 : Cond.code yT_leafAround kT_leafAround 7 (some .int) ∈ wT := wT_of (List.mem_of_getElem? (i := 433) (by decide +kernel)) (by decide +kernel)
theorem q_434 : Cond.methodLink "NodeMaker$Tree" 189 yT_liesLeft ∈ wT := wT_of (List.mem_of_getElem? (i := 434) (by decide +kernel)) (by decide +kernel)
theorem q_436 : Cond.instanceMethod yT_liesLeft ∈ wT := wT_of (List.mem_of_getElem? (i := 436) (by decide +kernel)) (by decide +kernel)
theorem q_437 : Cond.code yT_liesLeft kT_liesLeft 5 (some .boolean) ∈ wT := wT_of (List.mem_of_getElem? (i := 437) (by decide +kernel)) (by decide +kernel)
theorem q_438 : Cond.methodLink "NodeMaker$Tree" 193 yT_nodesIn ∈ wT := wT_of (List.mem_of_getElem? (i := 438) (by decide +kernel)) (by decide +kernel)
theorem q_439 : Cond.methodLink "NodeMakerLaw" 45 yN_way ∈ wT := wT_of (List.mem_of_getElem? (i := 439) (by decide +kernel)) (by decide +kernel)
theorem q_440 : Cond.instanceMethod yN_way ∈ wT := wT_of (List.mem_of_getElem? (i := 440) (by decide +kernel)) (by decide +kernel)
theorem q_441 : Cond.selects "NodeMaker" yN_way yN_way ∈ wT := wT_of (List.mem_of_getElem? (i := 441) (by decide +kernel)) (by decide +kernel)
theorem q_442 : Cond.code yN_way kN_way 3 (some .int) ∈ wT := wT_of (List.mem_of_getElem? (i := 442) (by decide +kernel)) (by decide +kernel)
theorem q_443 : Cond.methodLink "NodeMaker" 88 yT_pieceCount ∈ wT := wT_of (List.mem_of_getElem? (i := 443) (by decide +kernel)) (by decide +kernel)
theorem q_444 : Cond.instanceMethod yT_pieceCount ∈ wT := wT_of (List.mem_of_getElem? (i := 444) (by decide +kernel)) (by decide +kernel)
theorem q_445 : Cond.selects "NodeMaker$Tree" yT_pieceCount yT_pieceCount ∈ wT := wT_of (List.mem_of_getElem? (i := 445) (by decide +kernel)) (by decide +kernel)
theorem q_446 : Cond.code yT_pieceCount kT_pieceCount 1 (some .int) ∈ wT := wT_of (List.mem_of_getElem? (i := 446) (by decide +kernel)) (by decide +kernel)
theorem q_447 : Cond.methodLink "NodeMakerLaw" 49 yN_step ∈ wT := wT_of (List.mem_of_getElem? (i := 447) (by decide +kernel)) (by decide +kernel)
theorem q_448 : Cond.instanceMethod yN_step ∈ wT := wT_of (List.mem_of_getElem? (i := 448) (by decide +kernel)) (by decide +kernel)
theorem q_449 : Cond.selects "NodeMaker" yN_step yN_step ∈ wT := wT_of (List.mem_of_getElem? (i := 449) (by decide +kernel)) (by decide +kernel)
theorem q_450 : Cond.code yN_step kN_step 4 (some .int) ∈ wT := wT_of (List.mem_of_getElem? (i := 450) (by decide +kernel)) (by decide +kernel)
theorem q_451 : Cond.methodLink "NodeMaker" 92 yT_pieceOnWay ∈ wT := wT_of (List.mem_of_getElem? (i := 451) (by decide +kernel)) (by decide +kernel)
theorem q_452 : Cond.instanceMethod yT_pieceOnWay ∈ wT := wT_of (List.mem_of_getElem? (i := 452) (by decide +kernel)) (by decide +kernel)
theorem q_453 : Cond.selects "NodeMaker$Tree" yT_pieceOnWay yT_pieceOnWay ∈ wT := wT_of (List.mem_of_getElem? (i := 453) (by decide +kernel)) (by decide +kernel)
theorem q_454 : Cond.code yT_pieceOnWay kT_pieceOnWay 10 (some .int) ∈ wT := wT_of (List.mem_of_getElem? (i := 454) (by decide +kernel)) (by decide +kernel)
theorem q_455 : Cond.methodLink "NodeMaker$Tree" 196 yT_piecesIn ∈ wT := wT_of (List.mem_of_getElem? (i := 455) (by decide +kernel)) (by decide +kernel)
theorem q_457 : Cond.instanceMethod yT_piecesIn ∈ wT := wT_of (List.mem_of_getElem? (i := 457) (by decide +kernel)) (by decide +kernel)
theorem q_458 : Cond.code yT_piecesIn kT_piecesIn 2 (some .int) ∈ wT := wT_of (List.mem_of_getElem? (i := 458) (by decide +kernel)) (by decide +kernel)
theorem q_459 : Cond.methodLink "NodeMaker" 96 yT_nodeOfPiece ∈ wT := wT_of (List.mem_of_getElem? (i := 459) (by decide +kernel)) (by decide +kernel)
theorem q_460 : Cond.instanceMethod yT_nodeOfPiece ∈ wT := wT_of (List.mem_of_getElem? (i := 460) (by decide +kernel)) (by decide +kernel)
theorem q_461 : Cond.selects "NodeMaker$Tree" yT_nodeOfPiece yT_nodeOfPiece ∈ wT := wT_of (List.mem_of_getElem? (i := 461) (by decide +kernel)) (by decide +kernel)
theorem q_462 : Cond.code yT_nodeOfPiece kT_nodeOfPiece 2 (some .int) ∈ wT := wT_of (List.mem_of_getElem? (i := 462) (by decide +kernel)) (by decide +kernel)
theorem q_463 : Cond.methodLink "NodeMaker" 99 yT_placeInNode ∈ wT := wT_of (List.mem_of_getElem? (i := 463) (by decide +kernel)) (by decide +kernel)
theorem q_464 : Cond.instanceMethod yT_placeInNode ∈ wT := wT_of (List.mem_of_getElem? (i := 464) (by decide +kernel)) (by decide +kernel)
theorem q_465 : Cond.selects "NodeMaker$Tree" yT_placeInNode yT_placeInNode ∈ wT := wT_of (List.mem_of_getElem? (i := 465) (by decide +kernel)) (by decide +kernel)
theorem q_466 : Cond.code yT_placeInNode kT_placeInNode 2 (some .int) ∈ wT := wT_of (List.mem_of_getElem? (i := 466) (by decide +kernel)) (by decide +kernel)
theorem q_467 : Cond.methodLink "NodeMakerLaw" 53 yN_of ∈ wT := wT_of (List.mem_of_getElem? (i := 467) (by decide +kernel)) (by decide +kernel)
theorem q_468 : Cond.instanceMethod yN_of ∈ wT := wT_of (List.mem_of_getElem? (i := 468) (by decide +kernel)) (by decide +kernel)
theorem q_469 : Cond.selects "NodeMaker" yN_of yN_of ∈ wT := wT_of (List.mem_of_getElem? (i := 469) (by decide +kernel)) (by decide +kernel)
theorem q_470 : Cond.code yN_of kN_of 4 (some .int) ∈ wT := wT_of (List.mem_of_getElem? (i := 470) (by decide +kernel)) (by decide +kernel)
theorem q_471 : Cond.methodLink "NodeMaker" 102 yT_wallAt ∈ wT := wT_of (List.mem_of_getElem? (i := 471) (by decide +kernel)) (by decide +kernel)
theorem q_472 : Cond.instanceMethod yT_wallAt ∈ wT := wT_of (List.mem_of_getElem? (i := 472) (by decide +kernel)) (by decide +kernel)
theorem q_473 : Cond.selects "NodeMaker$Tree" yT_wallAt yT_wallAt ∈ wT := wT_of (List.mem_of_getElem? (i := 473) (by decide +kernel)) (by decide +kernel)
theorem q_474 : Cond.code yT_wallAt kT_wallAt 2 (some (.object "NodeMaker$Wall")) ∈ wT := wT_of (List.mem_of_getElem? (i := 474) (by decide +kernel)) (by decide +kernel)
theorem q_475 : Cond.constant "NodeMaker" 106 100000 ∈ wT := wT_of (List.mem_of_getElem? (i := 475) (by decide +kernel)) (by decide +kernel)
theorem q_476 : Cond.methodLink "NodeMaker" 119 yT_piecesOfWall ∈ wT := wT_of (List.mem_of_getElem? (i := 476) (by decide +kernel)) (by decide +kernel)
theorem q_477 : Cond.instanceMethod yT_piecesOfWall ∈ wT := wT_of (List.mem_of_getElem? (i := 477) (by decide +kernel)) (by decide +kernel)
theorem q_478 : Cond.selects "NodeMaker$Tree" yT_piecesOfWall yT_piecesOfWall ∈ wT := wT_of (List.mem_of_getElem? (i := 478) (by decide +kernel)) (by decide +kernel)
theorem q_479 : Cond.code yT_piecesOfWall kT_piecesOfWall 4 (some .int) ∈ wT := wT_of (List.mem_of_getElem? (i := 479) (by decide +kernel)) (by decide +kernel)
theorem q_480 : Cond.methodLink "NodeMakerLaw" 57 yN_look ∈ wT := wT_of (List.mem_of_getElem? (i := 480) (by decide +kernel)) (by decide +kernel)
theorem q_481 : Cond.instanceMethod yN_look ∈ wT := wT_of (List.mem_of_getElem? (i := 481) (by decide +kernel)) (by decide +kernel)
theorem q_482 : Cond.selects "NodeMaker" yN_look yN_look ∈ wT := wT_of (List.mem_of_getElem? (i := 482) (by decide +kernel)) (by decide +kernel)
theorem q_483 : Cond.code yN_look kN_look 2 (some .int) ∈ wT := wT_of (List.mem_of_getElem? (i := 483) (by decide +kernel)) (by decide +kernel)
theorem q_484 : Cond.methodLink "NodeMaker" 122 yT_wallCount ∈ wT := wT_of (List.mem_of_getElem? (i := 484) (by decide +kernel)) (by decide +kernel)
theorem q_485 : Cond.instanceMethod yT_wallCount ∈ wT := wT_of (List.mem_of_getElem? (i := 485) (by decide +kernel)) (by decide +kernel)
theorem q_486 : Cond.selects "NodeMaker$Tree" yT_wallCount yT_wallCount ∈ wT := wT_of (List.mem_of_getElem? (i := 486) (by decide +kernel)) (by decide +kernel)
theorem q_487 : Cond.code yT_wallCount kT_wallCount 1 (some .int) ∈ wT := wT_of (List.mem_of_getElem? (i := 487) (by decide +kernel)) (by decide +kernel)
theorem q_488 : Cond.methodLink "NodeMaker$Tree" 60 yS_count ∈ wT := wT_of (List.mem_of_getElem? (i := 488) (by decide +kernel)) (by decide +kernel)
theorem q_489 : Cond.instanceMethod yS_count ∈ wT := wT_of (List.mem_of_getElem? (i := 489) (by decide +kernel)) (by decide +kernel)
theorem q_490 : Cond.selects "NodeMaker$Walls" yS_count yS_count ∈ wT := wT_of (List.mem_of_getElem? (i := 490) (by decide +kernel)) (by decide +kernel)
theorem q_491 : Cond.code yS_count kS_count 1 (some .int) ∈ wT := wT_of (List.mem_of_getElem? (i := 491) (by decide +kernel)) (by decide +kernel)
theorem q_492 : Cond.methodLink "NodeMaker" 125 yT_nodeCount ∈ wT := wT_of (List.mem_of_getElem? (i := 492) (by decide +kernel)) (by decide +kernel)
theorem q_493 : Cond.instanceMethod yT_nodeCount ∈ wT := wT_of (List.mem_of_getElem? (i := 493) (by decide +kernel)) (by decide +kernel)
theorem q_494 : Cond.selects "NodeMaker$Tree" yT_nodeCount yT_nodeCount ∈ wT := wT_of (List.mem_of_getElem? (i := 494) (by decide +kernel)) (by decide +kernel)
theorem q_495 : Cond.code yT_nodeCount kT_nodeCount 1 (some .int) ∈ wT := wT_of (List.mem_of_getElem? (i := 495) (by decide +kernel)) (by decide +kernel)
theorem q_496 : Cond.methodLink "NodeMaker" 128 yT_height ∈ wT := wT_of (List.mem_of_getElem? (i := 496) (by decide +kernel)) (by decide +kernel)
theorem q_497 : Cond.instanceMethod yT_height ∈ wT := wT_of (List.mem_of_getElem? (i := 497) (by decide +kernel)) (by decide +kernel)
theorem q_498 : Cond.selects "NodeMaker$Tree" yT_height yT_height ∈ wT := wT_of (List.mem_of_getElem? (i := 498) (by decide +kernel)) (by decide +kernel)
theorem q_499 : Cond.code yT_height kT_height 1 (some .int) ∈ wT := wT_of (List.mem_of_getElem? (i := 499) (by decide +kernel)) (by decide +kernel)
theorem q_500 : Cond.classLink "NodeMakerLaw" 10 "NodeMakerModel" ∈ wT := wT_of (List.mem_of_getElem? (i := 500) (by decide +kernel)) (by decide +kernel)
theorem q_501 : Cond.instantiable "NodeMakerModel" 37 ∈ wT := wT_of (List.mem_of_getElem? (i := 501) (by decide +kernel)) (by decide +kernel)
theorem q_502 : Cond.methodLink "NodeMakerLaw" 12 yM_init ∈ wT := wT_of (List.mem_of_getElem? (i := 502) (by decide +kernel)) (by decide +kernel)
theorem q_503 : Cond.instanceMethod yM_init ∈ wT := wT_of (List.mem_of_getElem? (i := 503) (by decide +kernel)) (by decide +kernel)
theorem q_504 : Cond.code yM_init kM_init 1 none ∈ wT := wT_of (List.mem_of_getElem? (i := 504) (by decide +kernel)) (by decide +kernel)
theorem q_505 : Cond.methodLink "NodeMakerModel" 1 objectInit ∈ wT := wT_of (List.mem_of_getElem? (i := 505) (by decide +kernel)) (by decide +kernel)
theorem q_506 : Cond.fieldLink "NodeMakerModel" 84 "NodeMakerModel" "thrown" "I" ∈ wT := wT_of (List.mem_of_getElem? (i := 506) (by decide +kernel)) (by decide +kernel)
theorem q_507 : Cond.fieldLink "NodeMakerModel" 7 "NodeMakerModel" "there" "[Z" ∈ wT := wT_of (List.mem_of_getElem? (i := 507) (by decide +kernel)) (by decide +kernel)
theorem q_508 : Cond.fieldLink "NodeMakerModel" 13 "NodeMakerModel" "ax" "[I" ∈ wT := wT_of (List.mem_of_getElem? (i := 508) (by decide +kernel)) (by decide +kernel)
theorem q_509 : Cond.fieldLink "NodeMakerModel" 17 "NodeMakerModel" "ay" "[I" ∈ wT := wT_of (List.mem_of_getElem? (i := 509) (by decide +kernel)) (by decide +kernel)
theorem q_510 : Cond.fieldLink "NodeMakerModel" 20 "NodeMakerModel" "bx" "[I" ∈ wT := wT_of (List.mem_of_getElem? (i := 510) (by decide +kernel)) (by decide +kernel)
theorem q_511 : Cond.fieldLink "NodeMakerModel" 23 "NodeMakerModel" "by" "[I" ∈ wT := wT_of (List.mem_of_getElem? (i := 511) (by decide +kernel)) (by decide +kernel)
theorem q_512 : Cond.fieldLink "NodeMakerModel" 129 "NodeMakerModel" "many" "I" ∈ wT := wT_of (List.mem_of_getElem? (i := 512) (by decide +kernel)) (by decide +kernel)
theorem q_513 : Cond.fieldLink "NodeMakerModel" 132 "NodeMakerModel" "known" "Z" ∈ wT := wT_of (List.mem_of_getElem? (i := 513) (by decide +kernel)) (by decide +kernel)
theorem q_514 : Cond.fieldLink "NodeMakerModel" 26 "NodeMakerModel" "wallOf" "[I" ∈ wT := wT_of (List.mem_of_getElem? (i := 514) (by decide +kernel)) (by decide +kernel)
theorem q_515 : Cond.fieldLink "NodeMakerModel" 29 "NodeMakerModel" "fromUp" "[J" ∈ wT := wT_of (List.mem_of_getElem? (i := 515) (by decide +kernel)) (by decide +kernel)
theorem q_516 : Cond.fieldLink "NodeMakerModel" 33 "NodeMakerModel" "fromLow" "[J" ∈ wT := wT_of (List.mem_of_getElem? (i := 516) (by decide +kernel)) (by decide +kernel)
theorem q_517 : Cond.fieldLink "NodeMakerModel" 36 "NodeMakerModel" "toUp" "[J" ∈ wT := wT_of (List.mem_of_getElem? (i := 517) (by decide +kernel)) (by decide +kernel)
theorem q_518 : Cond.fieldLink "NodeMakerModel" 39 "NodeMakerModel" "toLow" "[J" ∈ wT := wT_of (List.mem_of_getElem? (i := 518) (by decide +kernel)) (by decide +kernel)
theorem q_519 : Cond.fieldLink "NodeMakerModel" 139 "NodeMakerModel" "pieces" "I" ∈ wT := wT_of (List.mem_of_getElem? (i := 519) (by decide +kernel)) (by decide +kernel)
theorem q_520 : Cond.fieldLink "NodeMakerModel" 162 "NodeMakerModel" "cuts" "I" ∈ wT := wT_of (List.mem_of_getElem? (i := 520) (by decide +kernel)) (by decide +kernel)
theorem q_521 : Cond.fieldLink "NodeMakerModel" 42 "NodeMakerModel" "row" "[I" ∈ wT := wT_of (List.mem_of_getElem? (i := 521) (by decide +kernel)) (by decide +kernel)
theorem q_522 : Cond.fieldLink "NodeMakerModel" 45 "NodeMakerModel" "begins" "[I" ∈ wT := wT_of (List.mem_of_getElem? (i := 522) (by decide +kernel)) (by decide +kernel)
theorem q_523 : Cond.fieldLink "NodeMakerModel" 48 "NodeMakerModel" "sizes" "[I" ∈ wT := wT_of (List.mem_of_getElem? (i := 523) (by decide +kernel)) (by decide +kernel)
theorem q_524 : Cond.fieldLink "NodeMakerModel" 51 "NodeMakerModel" "above" "[I" ∈ wT := wT_of (List.mem_of_getElem? (i := 524) (by decide +kernel)) (by decide +kernel)
theorem q_525 : Cond.fieldLink "NodeMakerModel" 54 "NodeMakerModel" "sides" "[I" ∈ wT := wT_of (List.mem_of_getElem? (i := 525) (by decide +kernel)) (by decide +kernel)
theorem q_526 : Cond.fieldLink "NodeMakerModel" 155 "NodeMakerModel" "waiting" "I" ∈ wT := wT_of (List.mem_of_getElem? (i := 526) (by decide +kernel)) (by decide +kernel)
theorem q_527 : Cond.fieldLink "NodeMakerModel" 57 "NodeMakerModel" "lineOf" "[I" ∈ wT := wT_of (List.mem_of_getElem? (i := 527) (by decide +kernel)) (by decide +kernel)
theorem q_528 : Cond.fieldLink "NodeMakerModel" 60 "NodeMakerModel" "lefts" "[I" ∈ wT := wT_of (List.mem_of_getElem? (i := 528) (by decide +kernel)) (by decide +kernel)
theorem q_529 : Cond.fieldLink "NodeMakerModel" 63 "NodeMakerModel" "rights" "[I" ∈ wT := wT_of (List.mem_of_getElem? (i := 529) (by decide +kernel)) (by decide +kernel)
theorem q_530 : Cond.fieldLink "NodeMakerModel" 66 "NodeMakerModel" "depths" "[I" ∈ wT := wT_of (List.mem_of_getElem? (i := 530) (by decide +kernel)) (by decide +kernel)
theorem q_531 : Cond.fieldLink "NodeMakerModel" 69 "NodeMakerModel" "firstOn" "[I" ∈ wT := wT_of (List.mem_of_getElem? (i := 531) (by decide +kernel)) (by decide +kernel)
theorem q_532 : Cond.fieldLink "NodeMakerModel" 72 "NodeMakerModel" "manyOn" "[I" ∈ wT := wT_of (List.mem_of_getElem? (i := 532) (by decide +kernel)) (by decide +kernel)
theorem q_533 : Cond.fieldLink "NodeMakerModel" 75 "NodeMakerModel" "on" "[I" ∈ wT := wT_of (List.mem_of_getElem? (i := 533) (by decide +kernel)) (by decide +kernel)
theorem q_534 : Cond.fieldLink "NodeMakerModel" 165 "NodeMakerModel" "nodes" "I" ∈ wT := wT_of (List.mem_of_getElem? (i := 534) (by decide +kernel)) (by decide +kernel)
theorem q_535 : Cond.fieldLink "NodeMakerModel" 168 "NodeMakerModel" "leaves" "I" ∈ wT := wT_of (List.mem_of_getElem? (i := 535) (by decide +kernel)) (by decide +kernel)
theorem q_536 : Cond.fieldLink "NodeMakerModel" 171 "NodeMakerModel" "ons" "I" ∈ wT := wT_of (List.mem_of_getElem? (i := 536) (by decide +kernel)) (by decide +kernel)
theorem q_537 : Cond.fieldLink "NodeMakerModel" 174 "NodeMakerModel" "deepest" "I" ∈ wT := wT_of (List.mem_of_getElem? (i := 537) (by decide +kernel)) (by decide +kernel)
theorem q_538 : Cond.fieldLink "NodeMakerModel" 78 "NodeMakerModel" "counts" "[I" ∈ wT := wT_of (List.mem_of_getElem? (i := 538) (by decide +kernel)) (by decide +kernel)
theorem q_539 : Cond.fieldLink "NodeMakerModel" 219 "NodeMakerModel" "hasWay" "Z" ∈ wT := wT_of (List.mem_of_getElem? (i := 539) (by decide +kernel)) (by decide +kernel)
theorem q_540 : Cond.fieldLink "NodeMakerModel" 222 "NodeMakerModel" "ex" "I" ∈ wT := wT_of (List.mem_of_getElem? (i := 540) (by decide +kernel)) (by decide +kernel)
theorem q_541 : Cond.fieldLink "NodeMakerModel" 225 "NodeMakerModel" "ey" "I" ∈ wT := wT_of (List.mem_of_getElem? (i := 541) (by decide +kernel)) (by decide +kernel)
theorem q_542 : Cond.fieldLink "NodeMakerModel" 81 "NodeMakerModel" "stack" "[I" ∈ wT := wT_of (List.mem_of_getElem? (i := 542) (by decide +kernel)) (by decide +kernel)
theorem q_618 : Cond.arrayClass Jvm.ClassFile.FieldType.boolean ∈ wT := wT_of (List.mem_of_getElem? (i := 618) (by decide +kernel)) (by decide +kernel)
theorem q_619 : Cond.arrayClass Jvm.ClassFile.FieldType.long ∈ wT := wT_of (List.mem_of_getElem? (i := 619) (by decide +kernel)) (by decide +kernel)
theorem q_620 : Cond.methodLink "NodeMakerLaw" 17 yM_put ∈ wT := wT_of (List.mem_of_getElem? (i := 620) (by decide +kernel)) (by decide +kernel)
theorem q_621 : Cond.instanceMethod yM_put ∈ wT := wT_of (List.mem_of_getElem? (i := 621) (by decide +kernel)) (by decide +kernel)
theorem q_622 : Cond.selects "NodeMakerModel" yM_put yM_put ∈ wT := wT_of (List.mem_of_getElem? (i := 622) (by decide +kernel)) (by decide +kernel)
theorem q_623 : Cond.code yM_put kM_put 7 (some .int) ∈ wT := wT_of (List.mem_of_getElem? (i := 623) (by decide +kernel)) (by decide +kernel)
theorem q_624 : Cond.methodLink "NodeMakerModel" 117 yM_free ∈ wT := wT_of (List.mem_of_getElem? (i := 624) (by decide +kernel)) (by decide +kernel)
theorem q_626 : Cond.instanceMethod yM_free ∈ wT := wT_of (List.mem_of_getElem? (i := 626) (by decide +kernel)) (by decide +kernel)
theorem q_627 : Cond.code yM_free kM_free 2 (some .int) ∈ wT := wT_of (List.mem_of_getElem? (i := 627) (by decide +kernel)) (by decide +kernel)
theorem q_628 : Cond.methodLink "NodeMakerModel" 121 yM_isPlace ∈ wT := wT_of (List.mem_of_getElem? (i := 628) (by decide +kernel)) (by decide +kernel)
theorem q_629 : Cond.static yM_isPlace ∈ wT := wT_of (List.mem_of_getElem? (i := 629) (by decide +kernel)) (by decide +kernel)
theorem q_630 : Cond.code yM_isPlace kM_isPlace 1 (some .boolean) ∈ wT := wT_of (List.mem_of_getElem? (i := 630) (by decide +kernel)) (by decide +kernel)
theorem q_631 : Cond.methodLink "NodeMakerModel" 125 yM_touch ∈ wT := wT_of (List.mem_of_getElem? (i := 631) (by decide +kernel)) (by decide +kernel)
theorem q_633 : Cond.instanceMethod yM_touch ∈ wT := wT_of (List.mem_of_getElem? (i := 633) (by decide +kernel)) (by decide +kernel)
theorem q_634 : Cond.code yM_touch kM_touch 5 (some .boolean) ∈ wT := wT_of (List.mem_of_getElem? (i := 634) (by decide +kernel)) (by decide +kernel)
theorem q_635 : Cond.methodLink "NodeMakerModel" 102 yM_isEnd ∈ wT := wT_of (List.mem_of_getElem? (i := 635) (by decide +kernel)) (by decide +kernel)
theorem q_637 : Cond.instanceMethod yM_isEnd ∈ wT := wT_of (List.mem_of_getElem? (i := 637) (by decide +kernel)) (by decide +kernel)
theorem q_638 : Cond.code yM_isEnd kM_isEnd 4 (some .boolean) ∈ wT := wT_of (List.mem_of_getElem? (i := 638) (by decide +kernel)) (by decide +kernel)
theorem q_639 : Cond.methodLink "NodeMakerModel" 106 yM_sideOf ∈ wT := wT_of (List.mem_of_getElem? (i := 639) (by decide +kernel)) (by decide +kernel)
theorem q_641 : Cond.instanceMethod yM_sideOf ∈ wT := wT_of (List.mem_of_getElem? (i := 641) (by decide +kernel)) (by decide +kernel)
theorem q_642 : Cond.code yM_sideOf kM_sideOf 6 (some .long) ∈ wT := wT_of (List.mem_of_getElem? (i := 642) (by decide +kernel)) (by decide +kernel)
theorem q_643 : Cond.methodLink "NodeMakerModel" 98 yM_cross ∈ wT := wT_of (List.mem_of_getElem? (i := 643) (by decide +kernel)) (by decide +kernel)
theorem q_644 : Cond.static yM_cross ∈ wT := wT_of (List.mem_of_getElem? (i := 644) (by decide +kernel)) (by decide +kernel)
theorem q_645 : Cond.code yM_cross kM_cross 8 (some .long) ∈ wT := wT_of (List.mem_of_getElem? (i := 645) (by decide +kernel)) (by decide +kernel)
theorem q_646 : Cond.methodLink "NodeMakerModel" 110 yM_areOpposite ∈ wT := wT_of (List.mem_of_getElem? (i := 646) (by decide +kernel)) (by decide +kernel)
theorem q_647 : Cond.static yM_areOpposite ∈ wT := wT_of (List.mem_of_getElem? (i := 647) (by decide +kernel)) (by decide +kernel)
theorem q_648 : Cond.code yM_areOpposite kM_areOpposite 4 (some .boolean) ∈ wT := wT_of (List.mem_of_getElem? (i := 648) (by decide +kernel)) (by decide +kernel)
theorem q_649 : Cond.methodLink "NodeMakerModel" 114 yM_lies ∈ wT := wT_of (List.mem_of_getElem? (i := 649) (by decide +kernel)) (by decide +kernel)
theorem q_651 : Cond.instanceMethod yM_lies ∈ wT := wT_of (List.mem_of_getElem? (i := 651) (by decide +kernel)) (by decide +kernel)
theorem q_652 : Cond.code yM_lies kM_lies 4 (some .boolean) ∈ wT := wT_of (List.mem_of_getElem? (i := 652) (by decide +kernel)) (by decide +kernel)
theorem q_653 : Cond.methodLink "NodeMakerLaw" 22 yM_take ∈ wT := wT_of (List.mem_of_getElem? (i := 653) (by decide +kernel)) (by decide +kernel)
theorem q_654 : Cond.instanceMethod yM_take ∈ wT := wT_of (List.mem_of_getElem? (i := 654) (by decide +kernel)) (by decide +kernel)
theorem q_655 : Cond.selects "NodeMakerModel" yM_take yM_take ∈ wT := wT_of (List.mem_of_getElem? (i := 655) (by decide +kernel)) (by decide +kernel)
theorem q_656 : Cond.code yM_take kM_take 2 (some .boolean) ∈ wT := wT_of (List.mem_of_getElem? (i := 656) (by decide +kernel)) (by decide +kernel)
theorem q_657 : Cond.methodLink "NodeMakerModel" 136 yM_isWall ∈ wT := wT_of (List.mem_of_getElem? (i := 657) (by decide +kernel)) (by decide +kernel)
theorem q_659 : Cond.instanceMethod yM_isWall ∈ wT := wT_of (List.mem_of_getElem? (i := 659) (by decide +kernel)) (by decide +kernel)
theorem q_660 : Cond.code yM_isWall kM_isWall 2 (some .boolean) ∈ wT := wT_of (List.mem_of_getElem? (i := 660) (by decide +kernel)) (by decide +kernel)
theorem q_661 : Cond.methodLink "NodeMakerLaw" 26 yM_clear ∈ wT := wT_of (List.mem_of_getElem? (i := 661) (by decide +kernel)) (by decide +kernel)
theorem q_662 : Cond.instanceMethod yM_clear ∈ wT := wT_of (List.mem_of_getElem? (i := 662) (by decide +kernel)) (by decide +kernel)
theorem q_663 : Cond.selects "NodeMakerModel" yM_clear yM_clear ∈ wT := wT_of (List.mem_of_getElem? (i := 663) (by decide +kernel)) (by decide +kernel)
theorem q_664 : Cond.code yM_clear kM_clear 2 none ∈ wT := wT_of (List.mem_of_getElem? (i := 664) (by decide +kernel)) (by decide +kernel)
theorem q_665 : Cond.methodLink "NodeMakerLaw" 31 yM_node ∈ wT := wT_of (List.mem_of_getElem? (i := 665) (by decide +kernel)) (by decide +kernel)
theorem q_666 : Cond.instanceMethod yM_node ∈ wT := wT_of (List.mem_of_getElem? (i := 666) (by decide +kernel)) (by decide +kernel)
theorem q_667 : Cond.selects "NodeMakerModel" yM_node yM_node ∈ wT := wT_of (List.mem_of_getElem? (i := 667) (by decide +kernel)) (by decide +kernel)
theorem q_668 : Cond.code yM_node kM_node 3 (some .int) ∈ wT := wT_of (List.mem_of_getElem? (i := 668) (by decide +kernel)) (by decide +kernel)
theorem q_669 : Cond.methodLink "NodeMakerModel" 201 yM_isNode ∈ wT := wT_of (List.mem_of_getElem? (i := 669) (by decide +kernel)) (by decide +kernel)
theorem q_671 : Cond.instanceMethod yM_isNode ∈ wT := wT_of (List.mem_of_getElem? (i := 671) (by decide +kernel)) (by decide +kernel)
theorem q_672 : Cond.code yM_isNode kM_isNode 2 (some .boolean) ∈ wT := wT_of (List.mem_of_getElem? (i := 672) (by decide +kernel)) (by decide +kernel)
theorem q_673 : Cond.methodLink "NodeMakerModel" 198 yM_know ∈ wT := wT_of (List.mem_of_getElem? (i := 673) (by decide +kernel)) (by decide +kernel)
theorem q_675 : Cond.instanceMethod yM_know ∈ wT := wT_of (List.mem_of_getElem? (i := 675) (by decide +kernel)) (by decide +kernel)
theorem q_676 : Cond.code yM_know kM_know 1 none ∈ wT := wT_of (List.mem_of_getElem? (i := 676) (by decide +kernel)) (by decide +kernel)
theorem q_677 : Cond.methodLink "NodeMakerModel" 195 yM_make ∈ wT := wT_of (List.mem_of_getElem? (i := 677) (by decide +kernel)) (by decide +kernel)
theorem q_679 : Cond.instanceMethod yM_make ∈ wT := wT_of (List.mem_of_getElem? (i := 679) (by decide +kernel)) (by decide +kernel)
theorem q_680 : Cond.code yM_make kM_make 3 none ∈ wT := wT_of (List.mem_of_getElem? (i := 680) (by decide +kernel)) (by decide +kernel)
theorem q_681 : Cond.methodLink "NodeMakerModel" 158 yM_piece ∈ wT := wT_of (List.mem_of_getElem? (i := 681) (by decide +kernel)) (by decide +kernel)
theorem q_683 : Cond.instanceMethod yM_piece ∈ wT := wT_of (List.mem_of_getElem? (i := 683) (by decide +kernel)) (by decide +kernel)
theorem q_684 : Cond.code yM_piece kM_piece 10 (some .int) ∈ wT := wT_of (List.mem_of_getElem? (i := 684) (by decide +kernel)) (by decide +kernel)
theorem q_685 : Cond.methodLink "NodeMakerModel" 177 yM_push ∈ wT := wT_of (List.mem_of_getElem? (i := 685) (by decide +kernel)) (by decide +kernel)
theorem q_687 : Cond.instanceMethod yM_push ∈ wT := wT_of (List.mem_of_getElem? (i := 687) (by decide +kernel)) (by decide +kernel)
theorem q_688 : Cond.code yM_push kM_push 5 none ∈ wT := wT_of (List.mem_of_getElem? (i := 688) (by decide +kernel)) (by decide +kernel)
theorem q_689 : Cond.methodLink "NodeMakerModel" 181 yM_divide ∈ wT := wT_of (List.mem_of_getElem? (i := 689) (by decide +kernel)) (by decide +kernel)
theorem q_691 : Cond.instanceMethod yM_divide ∈ wT := wT_of (List.mem_of_getElem? (i := 691) (by decide +kernel)) (by decide +kernel)
theorem q_692 : Cond.code yM_divide kM_divide 12 none ∈ wT := wT_of (List.mem_of_getElem? (i := 692) (by decide +kernel)) (by decide +kernel)
theorem q_693 : Cond.methodLink "NodeMakerModel" 184 yM_bestOf ∈ wT := wT_of (List.mem_of_getElem? (i := 693) (by decide +kernel)) (by decide +kernel)
theorem q_695 : Cond.instanceMethod yM_bestOf ∈ wT := wT_of (List.mem_of_getElem? (i := 695) (by decide +kernel)) (by decide +kernel)
theorem q_696 : Cond.code yM_bestOf kM_bestOf 11 (some .int) ∈ wT := wT_of (List.mem_of_getElem? (i := 696) (by decide +kernel)) (by decide +kernel)
theorem q_697 : Cond.constant "NodeMakerModel" 150 1073741824 ∈ wT := wT_of (List.mem_of_getElem? (i := 697) (by decide +kernel)) (by decide +kernel)
theorem q_698 : Cond.methodLink "NodeMakerModel" 151 yM_lieOf ∈ wT := wT_of (List.mem_of_getElem? (i := 698) (by decide +kernel)) (by decide +kernel)
theorem q_700 : Cond.instanceMethod yM_lieOf ∈ wT := wT_of (List.mem_of_getElem? (i := 700) (by decide +kernel)) (by decide +kernel)
theorem q_701 : Cond.code yM_lieOf kM_lieOf 6 (some .int) ∈ wT := wT_of (List.mem_of_getElem? (i := 701) (by decide +kernel)) (by decide +kernel)
theorem q_702 : Cond.methodLink "NodeMakerModel" 146 yM_sideAt ∈ wT := wT_of (List.mem_of_getElem? (i := 702) (by decide +kernel)) (by decide +kernel)
theorem q_704 : Cond.instanceMethod yM_sideAt ∈ wT := wT_of (List.mem_of_getElem? (i := 704) (by decide +kernel)) (by decide +kernel)
theorem q_705 : Cond.code yM_sideAt kM_sideAt 11 (some .int) ∈ wT := wT_of (List.mem_of_getElem? (i := 705) (by decide +kernel)) (by decide +kernel)
theorem q_706 : Cond.methodLink "NodeMakerModel" 142 yM_order ∈ wT := wT_of (List.mem_of_getElem? (i := 706) (by decide +kernel)) (by decide +kernel)
theorem q_707 : Cond.static yM_order ∈ wT := wT_of (List.mem_of_getElem? (i := 707) (by decide +kernel)) (by decide +kernel)
theorem q_708 : Cond.code yM_order kM_order 16 (some .int) ∈ wT := wT_of (List.mem_of_getElem? (i := 708) (by decide +kernel)) (by decide +kernel)
theorem q_709 : Cond.methodLink "NodeMakerModel" 88 yH_multiplyHigh ∈ wT := wT_of (List.mem_of_getElem? (i := 709) (by decide +kernel)) (by decide +kernel)
theorem q_710 : Cond.static yH_multiplyHigh ∈ wT := wT_of (List.mem_of_getElem? (i := 710) (by decide +kernel)) (by decide +kernel)
theorem q_711 : Cond.code yH_multiplyHigh kH_multiplyHigh 20 (some .long) ∈ wT := wT_of (List.mem_of_getElem? (i := 711) (by decide +kernel)) (by decide +kernel)
theorem q_712 : Cond.constantLong "java/lang/Math" 138 4294967295 ∈ wT := wT_of (List.mem_of_getElem? (i := 712) (by decide +kernel)) (by decide +kernel)
theorem q_713 : Cond.constantLong "NodeMakerModel" 96 (-9223372036854775808) ∈ wT := wT_of (List.mem_of_getElem? (i := 713) (by decide +kernel)) (by decide +kernel)
theorem q_714 : Cond.methodLink "NodeMakerModel" 187 yM_collect ∈ wT := wT_of (List.mem_of_getElem? (i := 714) (by decide +kernel)) (by decide +kernel)
theorem q_716 : Cond.instanceMethod yM_collect ∈ wT := wT_of (List.mem_of_getElem? (i := 716) (by decide +kernel)) (by decide +kernel)
theorem q_717 : Cond.code yM_collect kM_collect 10 (some .int) ∈ wT := wT_of (List.mem_of_getElem? (i := 717) (by decide +kernel)) (by decide +kernel)
theorem q_718 : Cond.methodLink "NodeMakerModel" 191 yM_part ∈ wT := wT_of (List.mem_of_getElem? (i := 718) (by decide +kernel)) (by decide +kernel)
theorem q_720 : Cond.instanceMethod yM_part ∈ wT := wT_of (List.mem_of_getElem? (i := 720) (by decide +kernel)) (by decide +kernel)
theorem q_721 : Cond.code yM_part kM_part 10 (some .int) ∈ wT := wT_of (List.mem_of_getElem? (i := 721) (by decide +kernel)) (by decide +kernel)
theorem q_722 : Cond.methodLink "NodeMakerModel" 204 yM_within ∈ wT := wT_of (List.mem_of_getElem? (i := 722) (by decide +kernel)) (by decide +kernel)
theorem q_724 : Cond.instanceMethod yM_within ∈ wT := wT_of (List.mem_of_getElem? (i := 724) (by decide +kernel)) (by decide +kernel)
theorem q_725 : Cond.code yM_within kM_within 3 (some .int) ∈ wT := wT_of (List.mem_of_getElem? (i := 725) (by decide +kernel)) (by decide +kernel)
theorem q_726 : Cond.methodLink "NodeMakerLaw" 35 yM_wall ∈ wT := wT_of (List.mem_of_getElem? (i := 726) (by decide +kernel)) (by decide +kernel)
theorem q_727 : Cond.instanceMethod yM_wall ∈ wT := wT_of (List.mem_of_getElem? (i := 727) (by decide +kernel)) (by decide +kernel)
theorem q_728 : Cond.selects "NodeMakerModel" yM_wall yM_wall ∈ wT := wT_of (List.mem_of_getElem? (i := 728) (by decide +kernel)) (by decide +kernel)
theorem q_729 : Cond.code yM_wall kM_wall 3 (some .int) ∈ wT := wT_of (List.mem_of_getElem? (i := 729) (by decide +kernel)) (by decide +kernel)
theorem q_730 : Cond.methodLink "NodeMakerModel" 208 yM_isOn ∈ wT := wT_of (List.mem_of_getElem? (i := 730) (by decide +kernel)) (by decide +kernel)
theorem q_732 : Cond.instanceMethod yM_isOn ∈ wT := wT_of (List.mem_of_getElem? (i := 732) (by decide +kernel)) (by decide +kernel)
theorem q_733 : Cond.code yM_isOn kM_isOn 3 (some .boolean) ∈ wT := wT_of (List.mem_of_getElem? (i := 733) (by decide +kernel)) (by decide +kernel)
theorem q_734 : Cond.methodLink "NodeMakerLaw" 40 yM_quotient ∈ wT := wT_of (List.mem_of_getElem? (i := 734) (by decide +kernel)) (by decide +kernel)
theorem q_735 : Cond.instanceMethod yM_quotient ∈ wT := wT_of (List.mem_of_getElem? (i := 735) (by decide +kernel)) (by decide +kernel)
theorem q_736 : Cond.selects "NodeMakerModel" yM_quotient yM_quotient ∈ wT := wT_of (List.mem_of_getElem? (i := 736) (by decide +kernel)) (by decide +kernel)
theorem q_737 : Cond.code yM_quotient kM_quotient 9 (some .long) ∈ wT := wT_of (List.mem_of_getElem? (i := 737) (by decide +kernel)) (by decide +kernel)
theorem q_738 : Cond.constantLong "NodeMakerModel" 211 (-1) ∈ wT := wT_of (List.mem_of_getElem? (i := 738) (by decide +kernel)) (by decide +kernel)
theorem q_739 : Cond.methodLink "NodeMakerModel" 213 yM_common ∈ wT := wT_of (List.mem_of_getElem? (i := 739) (by decide +kernel)) (by decide +kernel)
theorem q_740 : Cond.static yM_common ∈ wT := wT_of (List.mem_of_getElem? (i := 740) (by decide +kernel)) (by decide +kernel)
theorem q_741 : Cond.code yM_common kM_common 10 (some .long) ∈ wT := wT_of (List.mem_of_getElem? (i := 741) (by decide +kernel)) (by decide +kernel)
theorem q_742 : Cond.methodLink "NodeMakerLaw" 44 yM_leaf ∈ wT := wT_of (List.mem_of_getElem? (i := 742) (by decide +kernel)) (by decide +kernel)
theorem q_743 : Cond.instanceMethod yM_leaf ∈ wT := wT_of (List.mem_of_getElem? (i := 743) (by decide +kernel)) (by decide +kernel)
theorem q_744 : Cond.selects "NodeMakerModel" yM_leaf yM_leaf ∈ wT := wT_of (List.mem_of_getElem? (i := 744) (by decide +kernel)) (by decide +kernel)
theorem q_745 : Cond.code yM_leaf kM_leaf 4 (some .int) ∈ wT := wT_of (List.mem_of_getElem? (i := 745) (by decide +kernel)) (by decide +kernel)
theorem q_746 : Cond.methodLink "NodeMakerModel" 216 yM_isLeft ∈ wT := wT_of (List.mem_of_getElem? (i := 746) (by decide +kernel)) (by decide +kernel)
theorem q_748 : Cond.instanceMethod yM_isLeft ∈ wT := wT_of (List.mem_of_getElem? (i := 748) (by decide +kernel)) (by decide +kernel)
theorem q_749 : Cond.code yM_isLeft kM_isLeft 4 (some .boolean) ∈ wT := wT_of (List.mem_of_getElem? (i := 749) (by decide +kernel)) (by decide +kernel)
theorem q_750 : Cond.methodLink "NodeMakerLaw" 48 yM_way ∈ wT := wT_of (List.mem_of_getElem? (i := 750) (by decide +kernel)) (by decide +kernel)
theorem q_751 : Cond.instanceMethod yM_way ∈ wT := wT_of (List.mem_of_getElem? (i := 751) (by decide +kernel)) (by decide +kernel)
theorem q_752 : Cond.selects "NodeMakerModel" yM_way yM_way ∈ wT := wT_of (List.mem_of_getElem? (i := 752) (by decide +kernel)) (by decide +kernel)
theorem q_753 : Cond.code yM_way kM_way 3 (some .int) ∈ wT := wT_of (List.mem_of_getElem? (i := 753) (by decide +kernel)) (by decide +kernel)
theorem q_754 : Cond.methodLink "NodeMakerLaw" 52 yM_step ∈ wT := wT_of (List.mem_of_getElem? (i := 754) (by decide +kernel)) (by decide +kernel)
theorem q_755 : Cond.instanceMethod yM_step ∈ wT := wT_of (List.mem_of_getElem? (i := 755) (by decide +kernel)) (by decide +kernel)
theorem q_756 : Cond.selects "NodeMakerModel" yM_step yM_step ∈ wT := wT_of (List.mem_of_getElem? (i := 756) (by decide +kernel)) (by decide +kernel)
theorem q_757 : Cond.code yM_step kM_step 5 (some .int) ∈ wT := wT_of (List.mem_of_getElem? (i := 757) (by decide +kernel)) (by decide +kernel)
theorem q_758 : Cond.methodLink "NodeMakerModel" 228 yM_nodeOf ∈ wT := wT_of (List.mem_of_getElem? (i := 758) (by decide +kernel)) (by decide +kernel)
theorem q_760 : Cond.instanceMethod yM_nodeOf ∈ wT := wT_of (List.mem_of_getElem? (i := 760) (by decide +kernel)) (by decide +kernel)
theorem q_761 : Cond.code yM_nodeOf kM_nodeOf 7 (some .int) ∈ wT := wT_of (List.mem_of_getElem? (i := 761) (by decide +kernel)) (by decide +kernel)
theorem q_762 : Cond.methodLink "NodeMakerModel" 231 yM_aheadOf ∈ wT := wT_of (List.mem_of_getElem? (i := 762) (by decide +kernel)) (by decide +kernel)
theorem q_764 : Cond.instanceMethod yM_aheadOf ∈ wT := wT_of (List.mem_of_getElem? (i := 764) (by decide +kernel)) (by decide +kernel)
theorem q_765 : Cond.code yM_aheadOf kM_aheadOf 3 (some .int) ∈ wT := wT_of (List.mem_of_getElem? (i := 765) (by decide +kernel)) (by decide +kernel)
theorem q_766 : Cond.methodLink "NodeMakerLaw" 56 yM_of ∈ wT := wT_of (List.mem_of_getElem? (i := 766) (by decide +kernel)) (by decide +kernel)
theorem q_767 : Cond.instanceMethod yM_of ∈ wT := wT_of (List.mem_of_getElem? (i := 767) (by decide +kernel)) (by decide +kernel)
theorem q_768 : Cond.selects "NodeMakerModel" yM_of yM_of ∈ wT := wT_of (List.mem_of_getElem? (i := 768) (by decide +kernel)) (by decide +kernel)
theorem q_769 : Cond.code yM_of kM_of 3 (some .int) ∈ wT := wT_of (List.mem_of_getElem? (i := 769) (by decide +kernel)) (by decide +kernel)
theorem q_770 : Cond.constant "NodeMakerModel" 234 100000 ∈ wT := wT_of (List.mem_of_getElem? (i := 770) (by decide +kernel)) (by decide +kernel)
theorem q_771 : Cond.methodLink "NodeMakerLaw" 61 yM_look ∈ wT := wT_of (List.mem_of_getElem? (i := 771) (by decide +kernel)) (by decide +kernel)
theorem q_772 : Cond.instanceMethod yM_look ∈ wT := wT_of (List.mem_of_getElem? (i := 772) (by decide +kernel)) (by decide +kernel)
theorem q_773 : Cond.selects "NodeMakerModel" yM_look yM_look ∈ wT := wT_of (List.mem_of_getElem? (i := 773) (by decide +kernel)) (by decide +kernel)
theorem q_774 : Cond.code yM_look kM_look 2 (some .int) ∈ wT := wT_of (List.mem_of_getElem? (i := 774) (by decide +kernel)) (by decide +kernel)
theorem q_0 : Cond.selects "NodeMaker$Tree" yT_fell yT_fell ∈ wT := wT_of (List.mem_of_getElem? (i := 0) (by decide +kernel)) (by decide +kernel)
theorem q_1 : Cond.selects "NodeMaker$Tree" yT_plant yT_plant ∈ wT := wT_of (List.mem_of_getElem? (i := 1) (by decide +kernel)) (by decide +kernel)
theorem q_2 : Cond.selects "NodeMaker$Tree" yT_bestLine yT_bestLine ∈ wT := wT_of (List.mem_of_getElem? (i := 2) (by decide +kernel)) (by decide +kernel)
theorem q_3 : Cond.selects "NodeMaker$Tree" yT_whereLies yT_whereLies ∈ wT := wT_of (List.mem_of_getElem? (i := 3) (by decide +kernel)) (by decide +kernel)
theorem q_4 : Cond.selects "NodeMaker$Tree" yT_sideOfEnd yT_sideOfEnd ∈ wT := wT_of (List.mem_of_getElem? (i := 4) (by decide +kernel)) (by decide +kernel)
theorem q_5 : Cond.selects "NodeMaker$Tree" yT_divide yT_divide ∈ wT := wT_of (List.mem_of_getElem? (i := 5) (by decide +kernel)) (by decide +kernel)
theorem q_6 : Cond.selects "NodeMaker$Tree" yT_firstPieceFrom yT_firstPieceFrom ∈ wT := wT_of (List.mem_of_getElem? (i := 6) (by decide +kernel)) (by decide +kernel)
theorem q_7 : Cond.selects "NodeMaker$Tree" yT_liesLeft yT_liesLeft ∈ wT := wT_of (List.mem_of_getElem? (i := 7) (by decide +kernel)) (by decide +kernel)
theorem q_8 : Cond.selects "NodeMaker$Tree" yT_piecesIn yT_piecesIn ∈ wT := wT_of (List.mem_of_getElem? (i := 8) (by decide +kernel)) (by decide +kernel)
theorem q_9 : Cond.selects "NodeMakerModel" yM_free yM_free ∈ wT := wT_of (List.mem_of_getElem? (i := 9) (by decide +kernel)) (by decide +kernel)
theorem q_10 : Cond.selects "NodeMakerModel" yM_touch yM_touch ∈ wT := wT_of (List.mem_of_getElem? (i := 10) (by decide +kernel)) (by decide +kernel)
theorem q_11 : Cond.selects "NodeMakerModel" yM_isEnd yM_isEnd ∈ wT := wT_of (List.mem_of_getElem? (i := 11) (by decide +kernel)) (by decide +kernel)
theorem q_12 : Cond.selects "NodeMakerModel" yM_sideOf yM_sideOf ∈ wT := wT_of (List.mem_of_getElem? (i := 12) (by decide +kernel)) (by decide +kernel)
theorem q_13 : Cond.selects "NodeMakerModel" yM_lies yM_lies ∈ wT := wT_of (List.mem_of_getElem? (i := 13) (by decide +kernel)) (by decide +kernel)
theorem q_14 : Cond.selects "NodeMakerModel" yM_isWall yM_isWall ∈ wT := wT_of (List.mem_of_getElem? (i := 14) (by decide +kernel)) (by decide +kernel)
theorem q_15 : Cond.selects "NodeMakerModel" yM_isNode yM_isNode ∈ wT := wT_of (List.mem_of_getElem? (i := 15) (by decide +kernel)) (by decide +kernel)
theorem q_16 : Cond.selects "NodeMakerModel" yM_know yM_know ∈ wT := wT_of (List.mem_of_getElem? (i := 16) (by decide +kernel)) (by decide +kernel)
theorem q_17 : Cond.selects "NodeMakerModel" yM_make yM_make ∈ wT := wT_of (List.mem_of_getElem? (i := 17) (by decide +kernel)) (by decide +kernel)
theorem q_18 : Cond.selects "NodeMakerModel" yM_piece yM_piece ∈ wT := wT_of (List.mem_of_getElem? (i := 18) (by decide +kernel)) (by decide +kernel)
theorem q_19 : Cond.selects "NodeMakerModel" yM_push yM_push ∈ wT := wT_of (List.mem_of_getElem? (i := 19) (by decide +kernel)) (by decide +kernel)
theorem q_20 : Cond.selects "NodeMakerModel" yM_divide yM_divide ∈ wT := wT_of (List.mem_of_getElem? (i := 20) (by decide +kernel)) (by decide +kernel)
theorem q_21 : Cond.selects "NodeMakerModel" yM_bestOf yM_bestOf ∈ wT := wT_of (List.mem_of_getElem? (i := 21) (by decide +kernel)) (by decide +kernel)
theorem q_22 : Cond.selects "NodeMakerModel" yM_lieOf yM_lieOf ∈ wT := wT_of (List.mem_of_getElem? (i := 22) (by decide +kernel)) (by decide +kernel)
theorem q_23 : Cond.selects "NodeMakerModel" yM_sideAt yM_sideAt ∈ wT := wT_of (List.mem_of_getElem? (i := 23) (by decide +kernel)) (by decide +kernel)
theorem q_24 : Cond.selects "NodeMakerModel" yM_collect yM_collect ∈ wT := wT_of (List.mem_of_getElem? (i := 24) (by decide +kernel)) (by decide +kernel)
theorem q_25 : Cond.selects "NodeMakerModel" yM_part yM_part ∈ wT := wT_of (List.mem_of_getElem? (i := 25) (by decide +kernel)) (by decide +kernel)
theorem q_26 : Cond.selects "NodeMakerModel" yM_within yM_within ∈ wT := wT_of (List.mem_of_getElem? (i := 26) (by decide +kernel)) (by decide +kernel)
theorem q_27 : Cond.selects "NodeMakerModel" yM_isOn yM_isOn ∈ wT := wT_of (List.mem_of_getElem? (i := 27) (by decide +kernel)) (by decide +kernel)
theorem q_28 : Cond.selects "NodeMakerModel" yM_isLeft yM_isLeft ∈ wT := wT_of (List.mem_of_getElem? (i := 28) (by decide +kernel)) (by decide +kernel)
theorem q_29 : Cond.selects "NodeMakerModel" yM_nodeOf yM_nodeOf ∈ wT := wT_of (List.mem_of_getElem? (i := 29) (by decide +kernel)) (by decide +kernel)
theorem q_30 : Cond.selects "NodeMakerModel" yM_aheadOf yM_aheadOf ∈ wT := wT_of (List.mem_of_getElem? (i := 30) (by decide +kernel)) (by decide +kernel)
end
section
theorem dR_init_0 : decode kR_init 0 = .ok (.aload_n 0, 1) := by decide +kernel
theorem dR_init_1 : decode kR_init 1 = .ok (.invokespecial 3, 3) := by decide +kernel
theorem dR_init_4 : decode kR_init 4 = .ok (.aload_n 0, 1) := by decide +kernel
theorem dR_init_5 : decode kR_init 5 = .ok (.bipush 64, 2) := by decide +kernel
theorem dR_init_7 : decode kR_init 7 = .ok (.newarray .int, 2) := by decide +kernel
theorem dR_init_9 : decode kR_init 9 = .ok (.putfield 9, 3) := by decide +kernel
theorem dR_init_12 : decode kR_init 12 = .ok (.return_, 1) := by decide +kernel
theorem dR_shorten_0 : decode kR_shorten 0 = .ok (.iload_n 1, 1) := by decide +kernel
theorem dR_shorten_1 : decode kR_shorten 1 = .ok (.ifCond .lt 16, 3) := by decide +kernel
theorem dR_shorten_4 : decode kR_shorten 4 = .ok (.iload_n 1, 1) := by decide +kernel
theorem dR_shorten_5 : decode kR_shorten 5 = .ok (.aload_n 0, 1) := by decide +kernel
theorem dR_shorten_6 : decode kR_shorten 6 = .ok (.getfield 15, 3) := by decide +kernel
theorem dR_shorten_9 : decode kR_shorten 9 = .ok (.if_icmp .ge 8, 3) := by decide +kernel
theorem dR_shorten_12 : decode kR_shorten 12 = .ok (.aload_n 0, 1) := by decide +kernel
theorem dR_shorten_13 : decode kR_shorten 13 = .ok (.iload_n 1, 1) := by decide +kernel
theorem dR_shorten_14 : decode kR_shorten 14 = .ok (.putfield 15, 3) := by decide +kernel
theorem dR_shorten_17 : decode kR_shorten 17 = .ok (.return_, 1) := by decide +kernel
theorem dR_add_0 : decode kR_add 0 = .ok (.aload_n 0, 1) := by decide +kernel
theorem dR_add_1 : decode kR_add 1 = .ok (.getfield 15, 3) := by decide +kernel
theorem dR_add_4 : decode kR_add 4 = .ok (.sipush 4096, 3) := by decide +kernel
theorem dR_add_7 : decode kR_add 7 = .ok (.if_icmp .lt 4, 3) := by decide +kernel
theorem dR_add_10 : decode kR_add 10 = .ok (.return_, 1) := by decide +kernel
theorem dR_add_11 : decode kR_add 11 = .ok (.aload_n 0, 1) := by decide +kernel
theorem dR_add_12 : decode kR_add 12 = .ok (.getfield 15, 3) := by decide +kernel
theorem dR_add_15 : decode kR_add 15 = .ok (.aload_n 0, 1) := by decide +kernel
theorem dR_add_16 : decode kR_add 16 = .ok (.getfield 9, 3) := by decide +kernel
theorem dR_add_19 : decode kR_add 19 = .ok (.arraylength, 1) := by decide +kernel
theorem dR_add_20 : decode kR_add 20 = .ok (.if_icmp .lt 21, 3) := by decide +kernel
theorem dR_add_23 : decode kR_add 23 = .ok (.aload_n 0, 1) := by decide +kernel
theorem dR_add_24 : decode kR_add 24 = .ok (.aload_n 0, 1) := by decide +kernel
theorem dR_add_25 : decode kR_add 25 = .ok (.getfield 9, 3) := by decide +kernel
theorem dR_add_28 : decode kR_add 28 = .ok (.iconst 2, 1) := by decide +kernel
theorem dR_add_29 : decode kR_add 29 = .ok (.aload_n 0, 1) := by decide +kernel
theorem dR_add_30 : decode kR_add 30 = .ok (.getfield 9, 3) := by decide +kernel
theorem dR_add_33 : decode kR_add 33 = .ok (.arraylength, 1) := by decide +kernel
theorem dR_add_34 : decode kR_add 34 = .ok (.imul, 1) := by decide +kernel
theorem dR_add_35 : decode kR_add 35 = .ok (.invokestatic 19, 3) := by decide +kernel
theorem dR_add_38 : decode kR_add 38 = .ok (.putfield 9, 3) := by decide +kernel
theorem dR_add_41 : decode kR_add 41 = .ok (.aload_n 0, 1) := by decide +kernel
theorem dR_add_42 : decode kR_add 42 = .ok (.getfield 9, 3) := by decide +kernel
theorem dR_add_45 : decode kR_add 45 = .ok (.aload_n 0, 1) := by decide +kernel
theorem dR_add_46 : decode kR_add 46 = .ok (.getfield 15, 3) := by decide +kernel
theorem dR_add_49 : decode kR_add 49 = .ok (.iload_n 1, 1) := by decide +kernel
theorem dR_add_50 : decode kR_add 50 = .ok (.iastore, 1) := by decide +kernel
theorem dR_add_51 : decode kR_add 51 = .ok (.aload_n 0, 1) := by decide +kernel
theorem dR_add_52 : decode kR_add 52 = .ok (.dup, 1) := by decide +kernel
theorem dR_add_53 : decode kR_add 53 = .ok (.getfield 15, 3) := by decide +kernel
theorem dR_add_56 : decode kR_add 56 = .ok (.iconst 1, 1) := by decide +kernel
theorem dR_add_57 : decode kR_add 57 = .ok (.iadd, 1) := by decide +kernel
theorem dR_add_58 : decode kR_add 58 = .ok (.putfield 15, 3) := by decide +kernel
theorem dR_add_61 : decode kR_add 61 = .ok (.return_, 1) := by decide +kernel
theorem dR_count_0 : decode kR_count 0 = .ok (.aload_n 0, 1) := by decide +kernel
theorem dR_count_1 : decode kR_count 1 = .ok (.getfield 15, 3) := by decide +kernel
theorem dR_count_4 : decode kR_count 4 = .ok (.ireturn, 1) := by decide +kernel
theorem dR_at_0 : decode kR_at 0 = .ok (.iload_n 1, 1) := by decide +kernel
theorem dR_at_1 : decode kR_at 1 = .ok (.ifCond .lt 20, 3) := by decide +kernel
theorem dR_at_4 : decode kR_at 4 = .ok (.iload_n 1, 1) := by decide +kernel
theorem dR_at_5 : decode kR_at 5 = .ok (.aload_n 0, 1) := by decide +kernel
theorem dR_at_6 : decode kR_at 6 = .ok (.getfield 15, 3) := by decide +kernel
theorem dR_at_9 : decode kR_at 9 = .ok (.if_icmp .ge 12, 3) := by decide +kernel
theorem dR_at_12 : decode kR_at 12 = .ok (.aload_n 0, 1) := by decide +kernel
theorem dR_at_13 : decode kR_at 13 = .ok (.getfield 9, 3) := by decide +kernel
theorem dR_at_16 : decode kR_at 16 = .ok (.iload_n 1, 1) := by decide +kernel
theorem dR_at_17 : decode kR_at 17 = .ok (.iaload, 1) := by decide +kernel
theorem dR_at_18 : decode kR_at 18 = .ok (.goto 4, 3) := by decide +kernel
theorem dR_at_21 : decode kR_at 21 = .ok (.iconst (-1), 1) := by decide +kernel
theorem dR_at_22 : decode kR_at 22 = .ok (.ireturn, 1) := by decide +kernel
theorem dR_set_0 : decode kR_set 0 = .ok (.iload_n 1, 1) := by decide +kernel
theorem dR_set_1 : decode kR_set 1 = .ok (.ifCond .lt 18, 3) := by decide +kernel
theorem dR_set_4 : decode kR_set 4 = .ok (.iload_n 1, 1) := by decide +kernel
theorem dR_set_5 : decode kR_set 5 = .ok (.aload_n 0, 1) := by decide +kernel
theorem dR_set_6 : decode kR_set 6 = .ok (.getfield 15, 3) := by decide +kernel
theorem dR_set_9 : decode kR_set 9 = .ok (.if_icmp .ge 10, 3) := by decide +kernel
theorem dR_set_12 : decode kR_set 12 = .ok (.aload_n 0, 1) := by decide +kernel
theorem dR_set_13 : decode kR_set 13 = .ok (.getfield 9, 3) := by decide +kernel
theorem dR_set_16 : decode kR_set 16 = .ok (.iload_n 1, 1) := by decide +kernel
theorem dR_set_17 : decode kR_set 17 = .ok (.iload_n 2, 1) := by decide +kernel
theorem dR_set_18 : decode kR_set 18 = .ok (.iastore, 1) := by decide +kernel
theorem dR_set_19 : decode kR_set 19 = .ok (.return_, 1) := by decide +kernel
theorem dP_init_0 : decode kP_init 0 = .ok (.aload_n 0, 1) := by decide +kernel
theorem dP_init_1 : decode kP_init 1 = .ok (.invokespecial 1, 3) := by decide +kernel
theorem dP_init_4 : decode kP_init 4 = .ok (.aload_n 0, 1) := by decide +kernel
theorem dP_init_5 : decode kP_init 5 = .ok (.new 7, 3) := by decide +kernel
theorem dP_init_8 : decode kP_init 8 = .ok (.dup, 1) := by decide +kernel
theorem dP_init_9 : decode kP_init 9 = .ok (.invokespecial 9, 3) := by decide +kernel
theorem dP_init_12 : decode kP_init 12 = .ok (.putfield 10, 3) := by decide +kernel
theorem dP_init_15 : decode kP_init 15 = .ok (.aload_n 0, 1) := by decide +kernel
theorem dP_init_16 : decode kP_init 16 = .ok (.new 7, 3) := by decide +kernel
theorem dP_init_19 : decode kP_init 19 = .ok (.dup, 1) := by decide +kernel
theorem dP_init_20 : decode kP_init 20 = .ok (.invokespecial 9, 3) := by decide +kernel
theorem dP_init_23 : decode kP_init 23 = .ok (.putfield 16, 3) := by decide +kernel
theorem dP_init_26 : decode kP_init 26 = .ok (.aload_n 0, 1) := by decide +kernel
theorem dP_init_27 : decode kP_init 27 = .ok (.new 7, 3) := by decide +kernel
theorem dP_init_30 : decode kP_init 30 = .ok (.dup, 1) := by decide +kernel
theorem dP_init_31 : decode kP_init 31 = .ok (.invokespecial 9, 3) := by decide +kernel
theorem dP_init_34 : decode kP_init 34 = .ok (.putfield 19, 3) := by decide +kernel
theorem dP_init_37 : decode kP_init 37 = .ok (.return_, 1) := by decide +kernel
theorem dP_shorten_0 : decode kP_shorten 0 = .ok (.aload_n 0, 1) := by decide +kernel
theorem dP_shorten_1 : decode kP_shorten 1 = .ok (.getfield 10, 3) := by decide +kernel
theorem dP_shorten_4 : decode kP_shorten 4 = .ok (.iload_n 1, 1) := by decide +kernel
theorem dP_shorten_5 : decode kP_shorten 5 = .ok (.invokevirtual 38, 3) := by decide +kernel
theorem dP_shorten_8 : decode kP_shorten 8 = .ok (.aload_n 0, 1) := by decide +kernel
theorem dP_shorten_9 : decode kP_shorten 9 = .ok (.getfield 16, 3) := by decide +kernel
theorem dP_shorten_12 : decode kP_shorten 12 = .ok (.iload_n 1, 1) := by decide +kernel
theorem dP_shorten_13 : decode kP_shorten 13 = .ok (.invokevirtual 38, 3) := by decide +kernel
theorem dP_shorten_16 : decode kP_shorten 16 = .ok (.aload_n 0, 1) := by decide +kernel
theorem dP_shorten_17 : decode kP_shorten 17 = .ok (.getfield 19, 3) := by decide +kernel
theorem dP_shorten_20 : decode kP_shorten 20 = .ok (.iload_n 1, 1) := by decide +kernel
theorem dP_shorten_21 : decode kP_shorten 21 = .ok (.invokevirtual 38, 3) := by decide +kernel
theorem dP_shorten_24 : decode kP_shorten 24 = .ok (.return_, 1) := by decide +kernel
theorem dP_add_0 : decode kP_add 0 = .ok (.aload_n 0, 1) := by decide +kernel
theorem dP_add_1 : decode kP_add 1 = .ok (.getfield 10, 3) := by decide +kernel
theorem dP_add_4 : decode kP_add 4 = .ok (.iload_n 1, 1) := by decide +kernel
theorem dP_add_5 : decode kP_add 5 = .ok (.invokevirtual 30, 3) := by decide +kernel
theorem dP_add_8 : decode kP_add 8 = .ok (.aload_n 0, 1) := by decide +kernel
theorem dP_add_9 : decode kP_add 9 = .ok (.getfield 16, 3) := by decide +kernel
theorem dP_add_12 : decode kP_add 12 = .ok (.iload_n 2, 1) := by decide +kernel
theorem dP_add_13 : decode kP_add 13 = .ok (.invokevirtual 30, 3) := by decide +kernel
theorem dP_add_16 : decode kP_add 16 = .ok (.aload_n 0, 1) := by decide +kernel
theorem dP_add_17 : decode kP_add 17 = .ok (.getfield 19, 3) := by decide +kernel
theorem dP_add_20 : decode kP_add 20 = .ok (.iload_n 3, 1) := by decide +kernel
theorem dP_add_21 : decode kP_add 21 = .ok (.invokevirtual 30, 3) := by decide +kernel
theorem dP_add_24 : decode kP_add 24 = .ok (.return_, 1) := by decide +kernel
theorem dP_count_0 : decode kP_count 0 = .ok (.aload_n 0, 1) := by decide +kernel
theorem dP_count_1 : decode kP_count 1 = .ok (.getfield 10, 3) := by decide +kernel
theorem dP_count_4 : decode kP_count 4 = .ok (.invokevirtual 22, 3) := by decide +kernel
theorem dP_count_7 : decode kP_count 7 = .ok (.ireturn, 1) := by decide +kernel
theorem dP_wallAt_0 : decode kP_wallAt 0 = .ok (.aload_n 0, 1) := by decide +kernel
theorem dP_wallAt_1 : decode kP_wallAt 1 = .ok (.getfield 10, 3) := by decide +kernel
theorem dP_wallAt_4 : decode kP_wallAt 4 = .ok (.iload_n 1, 1) := by decide +kernel
theorem dP_wallAt_5 : decode kP_wallAt 5 = .ok (.invokevirtual 26, 3) := by decide +kernel
theorem dP_wallAt_8 : decode kP_wallAt 8 = .ok (.ireturn, 1) := by decide +kernel
theorem dP_firstAt_0 : decode kP_firstAt 0 = .ok (.aload_n 0, 1) := by decide +kernel
theorem dP_firstAt_1 : decode kP_firstAt 1 = .ok (.getfield 16, 3) := by decide +kernel
theorem dP_firstAt_4 : decode kP_firstAt 4 = .ok (.iload_n 1, 1) := by decide +kernel
theorem dP_firstAt_5 : decode kP_firstAt 5 = .ok (.invokevirtual 26, 3) := by decide +kernel
theorem dP_firstAt_8 : decode kP_firstAt 8 = .ok (.ireturn, 1) := by decide +kernel
theorem dP_lastAt_0 : decode kP_lastAt 0 = .ok (.aload_n 0, 1) := by decide +kernel
theorem dP_lastAt_1 : decode kP_lastAt 1 = .ok (.getfield 19, 3) := by decide +kernel
theorem dP_lastAt_4 : decode kP_lastAt 4 = .ok (.iload_n 1, 1) := by decide +kernel
theorem dP_lastAt_5 : decode kP_lastAt 5 = .ok (.invokevirtual 26, 3) := by decide +kernel
theorem dP_lastAt_8 : decode kP_lastAt 8 = .ok (.ireturn, 1) := by decide +kernel
theorem dP_set_0 : decode kP_set 0 = .ok (.aload_n 0, 1) := by decide +kernel
theorem dP_set_1 : decode kP_set 1 = .ok (.getfield 10, 3) := by decide +kernel
theorem dP_set_4 : decode kP_set 4 = .ok (.iload_n 1, 1) := by decide +kernel
theorem dP_set_5 : decode kP_set 5 = .ok (.iload_n 2, 1) := by decide +kernel
theorem dP_set_6 : decode kP_set 6 = .ok (.invokevirtual 34, 3) := by decide +kernel
theorem dP_set_9 : decode kP_set 9 = .ok (.aload_n 0, 1) := by decide +kernel
theorem dP_set_10 : decode kP_set 10 = .ok (.getfield 16, 3) := by decide +kernel
theorem dP_set_13 : decode kP_set 13 = .ok (.iload_n 1, 1) := by decide +kernel
theorem dP_set_14 : decode kP_set 14 = .ok (.iload_n 3, 1) := by decide +kernel
theorem dP_set_15 : decode kP_set 15 = .ok (.invokevirtual 34, 3) := by decide +kernel
theorem dP_set_18 : decode kP_set 18 = .ok (.aload_n 0, 1) := by decide +kernel
theorem dP_set_19 : decode kP_set 19 = .ok (.getfield 19, 3) := by decide +kernel
theorem dP_set_22 : decode kP_set 22 = .ok (.iload_n 1, 1) := by decide +kernel
theorem dP_set_23 : decode kP_set 23 = .ok (.iload 4, 2) := by decide +kernel
theorem dP_set_25 : decode kP_set 25 = .ok (.invokevirtual 34, 3) := by decide +kernel
theorem dP_set_28 : decode kP_set 28 = .ok (.return_, 1) := by decide +kernel
theorem dW_init_0 : decode kW_init 0 = .ok (.aload_n 0, 1) := by decide +kernel
theorem dW_init_1 : decode kW_init 1 = .ok (.invokespecial 1, 3) := by decide +kernel
theorem dW_init_4 : decode kW_init 4 = .ok (.aload_n 0, 1) := by decide +kernel
theorem dW_init_5 : decode kW_init 5 = .ok (.iload_n 1, 1) := by decide +kernel
theorem dW_init_6 : decode kW_init 6 = .ok (.putfield 7, 3) := by decide +kernel
theorem dW_init_9 : decode kW_init 9 = .ok (.aload_n 0, 1) := by decide +kernel
theorem dW_init_10 : decode kW_init 10 = .ok (.iload_n 2, 1) := by decide +kernel
theorem dW_init_11 : decode kW_init 11 = .ok (.putfield 13, 3) := by decide +kernel
theorem dW_init_14 : decode kW_init 14 = .ok (.aload_n 0, 1) := by decide +kernel
theorem dW_init_15 : decode kW_init 15 = .ok (.iload_n 3, 1) := by decide +kernel
theorem dW_init_16 : decode kW_init 16 = .ok (.putfield 16, 3) := by decide +kernel
theorem dW_init_19 : decode kW_init 19 = .ok (.aload_n 0, 1) := by decide +kernel
theorem dW_init_20 : decode kW_init 20 = .ok (.iload 4, 2) := by decide +kernel
theorem dW_init_22 : decode kW_init 22 = .ok (.putfield 19, 3) := by decide +kernel
theorem dW_init_25 : decode kW_init 25 = .ok (.return_, 1) := by decide +kernel
theorem dW_clashes_0 : decode kW_clashes 0 = .ok (.aload_n 0, 1) := by decide +kernel
theorem dW_clashes_1 : decode kW_clashes 1 = .ok (.aload_n 1, 1) := by decide +kernel
theorem dW_clashes_2 : decode kW_clashes 2 = .ok (.getfield 7, 3) := by decide +kernel
theorem dW_clashes_5 : decode kW_clashes 5 = .ok (.aload_n 1, 1) := by decide +kernel
theorem dW_clashes_6 : decode kW_clashes 6 = .ok (.getfield 13, 3) := by decide +kernel
theorem dW_clashes_9 : decode kW_clashes 9 = .ok (.invokevirtual 26, 3) := by decide +kernel
theorem dW_clashes_12 : decode kW_clashes 12 = .ok (.ifCond .eq 20, 3) := by decide +kernel
theorem dW_clashes_15 : decode kW_clashes 15 = .ok (.aload_n 0, 1) := by decide +kernel
theorem dW_clashes_16 : decode kW_clashes 16 = .ok (.aload_n 1, 1) := by decide +kernel
theorem dW_clashes_17 : decode kW_clashes 17 = .ok (.getfield 16, 3) := by decide +kernel
theorem dW_clashes_20 : decode kW_clashes 20 = .ok (.aload_n 1, 1) := by decide +kernel
theorem dW_clashes_21 : decode kW_clashes 21 = .ok (.getfield 19, 3) := by decide +kernel
theorem dW_clashes_24 : decode kW_clashes 24 = .ok (.invokevirtual 26, 3) := by decide +kernel
theorem dW_clashes_27 : decode kW_clashes 27 = .ok (.ifCond .eq 5, 3) := by decide +kernel
theorem dW_clashes_30 : decode kW_clashes 30 = .ok (.iconst 1, 1) := by decide +kernel
theorem dW_clashes_31 : decode kW_clashes 31 = .ok (.ireturn, 1) := by decide +kernel
theorem dW_clashes_32 : decode kW_clashes 32 = .ok (.aload_n 0, 1) := by decide +kernel
theorem dW_clashes_33 : decode kW_clashes 33 = .ok (.aload_n 1, 1) := by decide +kernel
theorem dW_clashes_34 : decode kW_clashes 34 = .ok (.invokevirtual 39, 3) := by decide +kernel
theorem dW_clashes_37 : decode kW_clashes 37 = .ok (.ifCond .eq 11, 3) := by decide +kernel
theorem dW_clashes_40 : decode kW_clashes 40 = .ok (.aload_n 1, 1) := by decide +kernel
theorem dW_clashes_41 : decode kW_clashes 41 = .ok (.aload_n 0, 1) := by decide +kernel
theorem dW_clashes_42 : decode kW_clashes 42 = .ok (.invokevirtual 39, 3) := by decide +kernel
theorem dW_clashes_45 : decode kW_clashes 45 = .ok (.ifCond .ne 63, 3) := by decide +kernel
theorem dW_clashes_48 : decode kW_clashes 48 = .ok (.aload_n 0, 1) := by decide +kernel
theorem dW_clashes_49 : decode kW_clashes 49 = .ok (.aload_n 1, 1) := by decide +kernel
theorem dW_clashes_50 : decode kW_clashes 50 = .ok (.getfield 7, 3) := by decide +kernel
theorem dW_clashes_53 : decode kW_clashes 53 = .ok (.aload_n 1, 1) := by decide +kernel
theorem dW_clashes_54 : decode kW_clashes 54 = .ok (.getfield 13, 3) := by decide +kernel
theorem dW_clashes_57 : decode kW_clashes 57 = .ok (.invokevirtual 43, 3) := by decide +kernel
theorem dW_clashes_60 : decode kW_clashes 60 = .ok (.ifCond .ne 48, 3) := by decide +kernel
theorem dW_clashes_63 : decode kW_clashes 63 = .ok (.aload_n 0, 1) := by decide +kernel
theorem dW_clashes_64 : decode kW_clashes 64 = .ok (.aload_n 1, 1) := by decide +kernel
theorem dW_clashes_65 : decode kW_clashes 65 = .ok (.getfield 16, 3) := by decide +kernel
theorem dW_clashes_68 : decode kW_clashes 68 = .ok (.aload_n 1, 1) := by decide +kernel
theorem dW_clashes_69 : decode kW_clashes 69 = .ok (.getfield 19, 3) := by decide +kernel
theorem dW_clashes_72 : decode kW_clashes 72 = .ok (.invokevirtual 43, 3) := by decide +kernel
theorem dW_clashes_75 : decode kW_clashes 75 = .ok (.ifCond .ne 33, 3) := by decide +kernel
theorem dW_clashes_78 : decode kW_clashes 78 = .ok (.aload_n 1, 1) := by decide +kernel
theorem dW_clashes_79 : decode kW_clashes 79 = .ok (.aload_n 0, 1) := by decide +kernel
theorem dW_clashes_80 : decode kW_clashes 80 = .ok (.getfield 7, 3) := by decide +kernel
theorem dW_clashes_83 : decode kW_clashes 83 = .ok (.aload_n 0, 1) := by decide +kernel
theorem dW_clashes_84 : decode kW_clashes 84 = .ok (.getfield 13, 3) := by decide +kernel
theorem dW_clashes_87 : decode kW_clashes 87 = .ok (.invokevirtual 43, 3) := by decide +kernel
theorem dW_clashes_90 : decode kW_clashes 90 = .ok (.ifCond .ne 18, 3) := by decide +kernel
theorem dW_clashes_93 : decode kW_clashes 93 = .ok (.aload_n 1, 1) := by decide +kernel
theorem dW_clashes_94 : decode kW_clashes 94 = .ok (.aload_n 0, 1) := by decide +kernel
theorem dW_clashes_95 : decode kW_clashes 95 = .ok (.getfield 16, 3) := by decide +kernel
theorem dW_clashes_98 : decode kW_clashes 98 = .ok (.aload_n 0, 1) := by decide +kernel
theorem dW_clashes_99 : decode kW_clashes 99 = .ok (.getfield 19, 3) := by decide +kernel
theorem dW_clashes_102 : decode kW_clashes 102 = .ok (.invokevirtual 43, 3) := by decide +kernel
theorem dW_clashes_105 : decode kW_clashes 105 = .ok (.ifCond .eq 7, 3) := by decide +kernel
theorem dW_clashes_108 : decode kW_clashes 108 = .ok (.iconst 1, 1) := by decide +kernel
theorem dW_clashes_109 : decode kW_clashes 109 = .ok (.goto 4, 3) := by decide +kernel
theorem dW_clashes_112 : decode kW_clashes 112 = .ok (.iconst 0, 1) := by decide +kernel
theorem dW_clashes_113 : decode kW_clashes 113 = .ok (.ireturn, 1) := by decide +kernel
theorem dW_hasEnd_0 : decode kW_hasEnd 0 = .ok (.iload_n 1, 1) := by decide +kernel
theorem dW_hasEnd_1 : decode kW_hasEnd 1 = .ok (.aload_n 0, 1) := by decide +kernel
theorem dW_hasEnd_2 : decode kW_hasEnd 2 = .ok (.getfield 7, 3) := by decide +kernel
theorem dW_hasEnd_5 : decode kW_hasEnd 5 = .ok (.if_icmp .ne 11, 3) := by decide +kernel
theorem dW_hasEnd_8 : decode kW_hasEnd 8 = .ok (.iload_n 2, 1) := by decide +kernel
theorem dW_hasEnd_9 : decode kW_hasEnd 9 = .ok (.aload_n 0, 1) := by decide +kernel
theorem dW_hasEnd_10 : decode kW_hasEnd 10 = .ok (.getfield 13, 3) := by decide +kernel
theorem dW_hasEnd_13 : decode kW_hasEnd 13 = .ok (.if_icmp .eq 19, 3) := by decide +kernel
theorem dW_hasEnd_16 : decode kW_hasEnd 16 = .ok (.iload_n 1, 1) := by decide +kernel
theorem dW_hasEnd_17 : decode kW_hasEnd 17 = .ok (.aload_n 0, 1) := by decide +kernel
theorem dW_hasEnd_18 : decode kW_hasEnd 18 = .ok (.getfield 16, 3) := by decide +kernel
theorem dW_hasEnd_21 : decode kW_hasEnd 21 = .ok (.if_icmp .ne 15, 3) := by decide +kernel
theorem dW_hasEnd_24 : decode kW_hasEnd 24 = .ok (.iload_n 2, 1) := by decide +kernel
theorem dW_hasEnd_25 : decode kW_hasEnd 25 = .ok (.aload_n 0, 1) := by decide +kernel
theorem dW_hasEnd_26 : decode kW_hasEnd 26 = .ok (.getfield 19, 3) := by decide +kernel
theorem dW_hasEnd_29 : decode kW_hasEnd 29 = .ok (.if_icmp .ne 7, 3) := by decide +kernel
theorem dW_hasEnd_32 : decode kW_hasEnd 32 = .ok (.iconst 1, 1) := by decide +kernel
theorem dW_hasEnd_33 : decode kW_hasEnd 33 = .ok (.goto 4, 3) := by decide +kernel
theorem dW_hasEnd_36 : decode kW_hasEnd 36 = .ok (.iconst 0, 1) := by decide +kernel
theorem dW_hasEnd_37 : decode kW_hasEnd 37 = .ok (.ireturn, 1) := by decide +kernel
theorem dW_parts_0 : decode kW_parts 0 = .ok (.aload_n 0, 1) := by decide +kernel
theorem dW_parts_1 : decode kW_parts 1 = .ok (.aload_n 1, 1) := by decide +kernel
theorem dW_parts_2 : decode kW_parts 2 = .ok (.getfield 7, 3) := by decide +kernel
theorem dW_parts_5 : decode kW_parts 5 = .ok (.aload_n 1, 1) := by decide +kernel
theorem dW_parts_6 : decode kW_parts 6 = .ok (.getfield 13, 3) := by decide +kernel
theorem dW_parts_9 : decode kW_parts 9 = .ok (.invokevirtual 22, 3) := by decide +kernel
theorem dW_parts_12 : decode kW_parts 12 = .ok (.lstore_n 2, 1) := by decide +kernel
theorem dW_parts_13 : decode kW_parts 13 = .ok (.aload_n 0, 1) := by decide +kernel
theorem dW_parts_14 : decode kW_parts 14 = .ok (.aload_n 1, 1) := by decide +kernel
theorem dW_parts_15 : decode kW_parts 15 = .ok (.getfield 16, 3) := by decide +kernel
theorem dW_parts_18 : decode kW_parts 18 = .ok (.aload_n 1, 1) := by decide +kernel
theorem dW_parts_19 : decode kW_parts 19 = .ok (.getfield 19, 3) := by decide +kernel
theorem dW_parts_22 : decode kW_parts 22 = .ok (.invokevirtual 22, 3) := by decide +kernel
theorem dW_parts_25 : decode kW_parts 25 = .ok (.lstore 4, 2) := by decide +kernel
theorem dW_parts_27 : decode kW_parts 27 = .ok (.lload_n 2, 1) := by decide +kernel
theorem dW_parts_28 : decode kW_parts 28 = .ok (.lconst 0, 1) := by decide +kernel
theorem dW_parts_29 : decode kW_parts 29 = .ok (.lcmp, 1) := by decide +kernel
theorem dW_parts_30 : decode kW_parts 30 = .ok (.ifCond .le 10, 3) := by decide +kernel
theorem dW_parts_33 : decode kW_parts 33 = .ok (.lload 4, 2) := by decide +kernel
theorem dW_parts_35 : decode kW_parts 35 = .ok (.lconst 0, 1) := by decide +kernel
theorem dW_parts_36 : decode kW_parts 36 = .ok (.lcmp, 1) := by decide +kernel
theorem dW_parts_37 : decode kW_parts 37 = .ok (.ifCond .lt 16, 3) := by decide +kernel
theorem dW_parts_40 : decode kW_parts 40 = .ok (.lload_n 2, 1) := by decide +kernel
theorem dW_parts_41 : decode kW_parts 41 = .ok (.lconst 0, 1) := by decide +kernel
theorem dW_parts_42 : decode kW_parts 42 = .ok (.lcmp, 1) := by decide +kernel
theorem dW_parts_43 : decode kW_parts 43 = .ok (.ifCond .ge 14, 3) := by decide +kernel
theorem dW_parts_46 : decode kW_parts 46 = .ok (.lload 4, 2) := by decide +kernel
theorem dW_parts_48 : decode kW_parts 48 = .ok (.lconst 0, 1) := by decide +kernel
theorem dW_parts_49 : decode kW_parts 49 = .ok (.lcmp, 1) := by decide +kernel
theorem dW_parts_50 : decode kW_parts 50 = .ok (.ifCond .le 7, 3) := by decide +kernel
theorem dW_parts_53 : decode kW_parts 53 = .ok (.iconst 1, 1) := by decide +kernel
theorem dW_parts_54 : decode kW_parts 54 = .ok (.goto 4, 3) := by decide +kernel
theorem dW_parts_57 : decode kW_parts 57 = .ok (.iconst 0, 1) := by decide +kernel
theorem dW_parts_58 : decode kW_parts 58 = .ok (.ireturn, 1) := by decide +kernel
theorem dW_side_0 : decode kW_side 0 = .ok (.aload_n 0, 1) := by decide +kernel
theorem dW_side_1 : decode kW_side 1 = .ok (.getfield 16, 3) := by decide +kernel
theorem dW_side_4 : decode kW_side 4 = .ok (.aload_n 0, 1) := by decide +kernel
theorem dW_side_5 : decode kW_side 5 = .ok (.getfield 7, 3) := by decide +kernel
theorem dW_side_8 : decode kW_side 8 = .ok (.isub, 1) := by decide +kernel
theorem dW_side_9 : decode kW_side 9 = .ok (.i2l, 1) := by decide +kernel
theorem dW_side_10 : decode kW_side 10 = .ok (.iload_n 2, 1) := by decide +kernel
theorem dW_side_11 : decode kW_side 11 = .ok (.aload_n 0, 1) := by decide +kernel
theorem dW_side_12 : decode kW_side 12 = .ok (.getfield 13, 3) := by decide +kernel
theorem dW_side_15 : decode kW_side 15 = .ok (.isub, 1) := by decide +kernel
theorem dW_side_16 : decode kW_side 16 = .ok (.i2l, 1) := by decide +kernel
theorem dW_side_17 : decode kW_side 17 = .ok (.lmul, 1) := by decide +kernel
theorem dW_side_18 : decode kW_side 18 = .ok (.aload_n 0, 1) := by decide +kernel
theorem dW_side_19 : decode kW_side 19 = .ok (.getfield 19, 3) := by decide +kernel
theorem dW_side_22 : decode kW_side 22 = .ok (.aload_n 0, 1) := by decide +kernel
theorem dW_side_23 : decode kW_side 23 = .ok (.getfield 13, 3) := by decide +kernel
theorem dW_side_26 : decode kW_side 26 = .ok (.isub, 1) := by decide +kernel
theorem dW_side_27 : decode kW_side 27 = .ok (.i2l, 1) := by decide +kernel
theorem dW_side_28 : decode kW_side 28 = .ok (.iload_n 1, 1) := by decide +kernel
theorem dW_side_29 : decode kW_side 29 = .ok (.aload_n 0, 1) := by decide +kernel
theorem dW_side_30 : decode kW_side 30 = .ok (.getfield 7, 3) := by decide +kernel
theorem dW_side_33 : decode kW_side 33 = .ok (.isub, 1) := by decide +kernel
theorem dW_side_34 : decode kW_side 34 = .ok (.i2l, 1) := by decide +kernel
theorem dW_side_35 : decode kW_side 35 = .ok (.lmul, 1) := by decide +kernel
theorem dW_side_36 : decode kW_side 36 = .ok (.lsub, 1) := by decide +kernel
theorem dW_side_37 : decode kW_side 37 = .ok (.lreturn, 1) := by decide +kernel
theorem dW_hasWithin_0 : decode kW_hasWithin 0 = .ok (.aload_n 0, 1) := by decide +kernel
theorem dW_hasWithin_1 : decode kW_hasWithin 1 = .ok (.iload_n 1, 1) := by decide +kernel
theorem dW_hasWithin_2 : decode kW_hasWithin 2 = .ok (.iload_n 2, 1) := by decide +kernel
theorem dW_hasWithin_3 : decode kW_hasWithin 3 = .ok (.invokevirtual 22, 3) := by decide +kernel
theorem dW_hasWithin_6 : decode kW_hasWithin 6 = .ok (.lconst 0, 1) := by decide +kernel
theorem dW_hasWithin_7 : decode kW_hasWithin 7 = .ok (.lcmp, 1) := by decide +kernel
theorem dW_hasWithin_8 : decode kW_hasWithin 8 = .ok (.ifCond .ne 76, 3) := by decide +kernel
theorem dW_hasWithin_11 : decode kW_hasWithin 11 = .ok (.aload_n 0, 1) := by decide +kernel
theorem dW_hasWithin_12 : decode kW_hasWithin 12 = .ok (.iload_n 1, 1) := by decide +kernel
theorem dW_hasWithin_13 : decode kW_hasWithin 13 = .ok (.iload_n 2, 1) := by decide +kernel
theorem dW_hasWithin_14 : decode kW_hasWithin 14 = .ok (.invokevirtual 26, 3) := by decide +kernel
theorem dW_hasWithin_17 : decode kW_hasWithin 17 = .ok (.ifCond .ne 67, 3) := by decide +kernel
theorem dW_hasWithin_20 : decode kW_hasWithin 20 = .ok (.iload_n 1, 1) := by decide +kernel
theorem dW_hasWithin_21 : decode kW_hasWithin 21 = .ok (.aload_n 0, 1) := by decide +kernel
theorem dW_hasWithin_22 : decode kW_hasWithin 22 = .ok (.getfield 7, 3) := by decide +kernel
theorem dW_hasWithin_25 : decode kW_hasWithin 25 = .ok (.aload_n 0, 1) := by decide +kernel
theorem dW_hasWithin_26 : decode kW_hasWithin 26 = .ok (.getfield 16, 3) := by decide +kernel
theorem dW_hasWithin_29 : decode kW_hasWithin 29 = .ok (.invokestatic 30, 3) := by decide +kernel
theorem dW_hasWithin_32 : decode kW_hasWithin 32 = .ok (.if_icmp .lt 52, 3) := by decide +kernel
theorem dW_hasWithin_35 : decode kW_hasWithin 35 = .ok (.iload_n 1, 1) := by decide +kernel
theorem dW_hasWithin_36 : decode kW_hasWithin 36 = .ok (.aload_n 0, 1) := by decide +kernel
theorem dW_hasWithin_37 : decode kW_hasWithin 37 = .ok (.getfield 7, 3) := by decide +kernel
theorem dW_hasWithin_40 : decode kW_hasWithin 40 = .ok (.aload_n 0, 1) := by decide +kernel
theorem dW_hasWithin_41 : decode kW_hasWithin 41 = .ok (.getfield 16, 3) := by decide +kernel
theorem dW_hasWithin_44 : decode kW_hasWithin 44 = .ok (.invokestatic 36, 3) := by decide +kernel
theorem dW_hasWithin_47 : decode kW_hasWithin 47 = .ok (.if_icmp .gt 37, 3) := by decide +kernel
theorem dW_hasWithin_50 : decode kW_hasWithin 50 = .ok (.iload_n 2, 1) := by decide +kernel
theorem dW_hasWithin_51 : decode kW_hasWithin 51 = .ok (.aload_n 0, 1) := by decide +kernel
theorem dW_hasWithin_52 : decode kW_hasWithin 52 = .ok (.getfield 13, 3) := by decide +kernel
theorem dW_hasWithin_55 : decode kW_hasWithin 55 = .ok (.aload_n 0, 1) := by decide +kernel
theorem dW_hasWithin_56 : decode kW_hasWithin 56 = .ok (.getfield 19, 3) := by decide +kernel
theorem dW_hasWithin_59 : decode kW_hasWithin 59 = .ok (.invokestatic 30, 3) := by decide +kernel
theorem dW_hasWithin_62 : decode kW_hasWithin 62 = .ok (.if_icmp .lt 22, 3) := by decide +kernel
theorem dW_hasWithin_65 : decode kW_hasWithin 65 = .ok (.iload_n 2, 1) := by decide +kernel
theorem dW_hasWithin_66 : decode kW_hasWithin 66 = .ok (.aload_n 0, 1) := by decide +kernel
theorem dW_hasWithin_67 : decode kW_hasWithin 67 = .ok (.getfield 13, 3) := by decide +kernel
theorem dW_hasWithin_70 : decode kW_hasWithin 70 = .ok (.aload_n 0, 1) := by decide +kernel
theorem dW_hasWithin_71 : decode kW_hasWithin 71 = .ok (.getfield 19, 3) := by decide +kernel
theorem dW_hasWithin_74 : decode kW_hasWithin 74 = .ok (.invokestatic 36, 3) := by decide +kernel
theorem dW_hasWithin_77 : decode kW_hasWithin 77 = .ok (.if_icmp .gt 7, 3) := by decide +kernel
theorem dW_hasWithin_80 : decode kW_hasWithin 80 = .ok (.iconst 1, 1) := by decide +kernel
theorem dW_hasWithin_81 : decode kW_hasWithin 81 = .ok (.goto 4, 3) := by decide +kernel
theorem dW_hasWithin_84 : decode kW_hasWithin 84 = .ok (.iconst 0, 1) := by decide +kernel
theorem dW_hasWithin_85 : decode kW_hasWithin 85 = .ok (.ireturn, 1) := by decide +kernel
theorem dS_init_0 : decode kS_init 0 = .ok (.aload_n 0, 1) := by decide +kernel
theorem dS_init_1 : decode kS_init 1 = .ok (.invokespecial 3, 3) := by decide +kernel
theorem dS_init_4 : decode kS_init 4 = .ok (.aload_n 0, 1) := by decide +kernel
theorem dS_init_5 : decode kS_init 5 = .ok (.bipush 64, 2) := by decide +kernel
theorem dS_init_7 : decode kS_init 7 = .ok (.anewarray 9, 3) := by decide +kernel
theorem dS_init_10 : decode kS_init 10 = .ok (.putfield 11, 3) := by decide +kernel
theorem dS_init_13 : decode kS_init 13 = .ok (.return_, 1) := by decide +kernel
theorem dS_add_0 : decode kS_add 0 = .ok (.iconst (-1), 1) := by decide +kernel
theorem dS_add_1 : decode kS_add 1 = .ok (.istore_n 2, 1) := by decide +kernel
theorem dS_add_2 : decode kS_add 2 = .ok (.bipush 63, 2) := by decide +kernel
theorem dS_add_4 : decode kS_add 4 = .ok (.istore_n 3, 1) := by decide +kernel
theorem dS_add_5 : decode kS_add 5 = .ok (.iload_n 3, 1) := by decide +kernel
theorem dS_add_6 : decode kS_add 6 = .ok (.ifCond .lt 38, 3) := by decide +kernel
theorem dS_add_9 : decode kS_add 9 = .ok (.aload_n 0, 1) := by decide +kernel
theorem dS_add_10 : decode kS_add 10 = .ok (.getfield 11, 3) := by decide +kernel
theorem dS_add_13 : decode kS_add 13 = .ok (.iload_n 3, 1) := by decide +kernel
theorem dS_add_14 : decode kS_add 14 = .ok (.aaload, 1) := by decide +kernel
theorem dS_add_15 : decode kS_add 15 = .ok (.astore 4, 2) := by decide +kernel
theorem dS_add_17 : decode kS_add 17 = .ok (.aload 4, 2) := by decide +kernel
theorem dS_add_19 : decode kS_add 19 = .ok (.ifnonnull 8, 3) := by decide +kernel
theorem dS_add_22 : decode kS_add 22 = .ok (.iload_n 3, 1) := by decide +kernel
theorem dS_add_23 : decode kS_add 23 = .ok (.istore_n 2, 1) := by decide +kernel
theorem dS_add_24 : decode kS_add 24 = .ok (.goto 14, 3) := by decide +kernel
theorem dS_add_27 : decode kS_add 27 = .ok (.aload 4, 2) := by decide +kernel
theorem dS_add_29 : decode kS_add 29 = .ok (.aload_n 1, 1) := by decide +kernel
theorem dS_add_30 : decode kS_add 30 = .ok (.invokevirtual 21, 3) := by decide +kernel
theorem dS_add_33 : decode kS_add 33 = .ok (.ifCond .eq 5, 3) := by decide +kernel
theorem dS_add_36 : decode kS_add 36 = .ok (.iconst (-1), 1) := by decide +kernel
theorem dS_add_37 : decode kS_add 37 = .ok (.ireturn, 1) := by decide +kernel
theorem dS_add_38 : decode kS_add 38 = .ok (.iinc 3 (-1), 3) := by decide +kernel
theorem dS_add_41 : decode kS_add 41 = .ok (.goto (-36), 3) := by decide +kernel
theorem dS_add_44 : decode kS_add 44 = .ok (.iload_n 2, 1) := by decide +kernel
theorem dS_add_45 : decode kS_add 45 = .ok (.iconst (-1), 1) := by decide +kernel
theorem dS_add_46 : decode kS_add 46 = .ok (.if_icmp .eq 20, 3) := by decide +kernel
theorem dS_add_49 : decode kS_add 49 = .ok (.aload_n 0, 1) := by decide +kernel
theorem dS_add_50 : decode kS_add 50 = .ok (.getfield 11, 3) := by decide +kernel
theorem dS_add_53 : decode kS_add 53 = .ok (.iload_n 2, 1) := by decide +kernel
theorem dS_add_54 : decode kS_add 54 = .ok (.aload_n 1, 1) := by decide +kernel
theorem dS_add_55 : decode kS_add 55 = .ok (.aastore, 1) := by decide +kernel
theorem dS_add_56 : decode kS_add 56 = .ok (.aload_n 0, 1) := by decide +kernel
theorem dS_add_57 : decode kS_add 57 = .ok (.dup, 1) := by decide +kernel
theorem dS_add_58 : decode kS_add 58 = .ok (.getfield 17, 3) := by decide +kernel
theorem dS_add_61 : decode kS_add 61 = .ok (.iconst 1, 1) := by decide +kernel
theorem dS_add_62 : decode kS_add 62 = .ok (.iadd, 1) := by decide +kernel
theorem dS_add_63 : decode kS_add 63 = .ok (.putfield 17, 3) := by decide +kernel
theorem dS_add_66 : decode kS_add 66 = .ok (.iload_n 2, 1) := by decide +kernel
theorem dS_add_67 : decode kS_add 67 = .ok (.ireturn, 1) := by decide +kernel
theorem dS_drop_0 : decode kS_drop 0 = .ok (.aload_n 0, 1) := by decide +kernel
theorem dS_drop_1 : decode kS_drop 1 = .ok (.iload_n 1, 1) := by decide +kernel
theorem dS_drop_2 : decode kS_drop 2 = .ok (.invokevirtual 25, 3) := by decide +kernel
theorem dS_drop_5 : decode kS_drop 5 = .ok (.ifnonnull 5, 3) := by decide +kernel
theorem dS_drop_8 : decode kS_drop 8 = .ok (.iconst 0, 1) := by decide +kernel
theorem dS_drop_9 : decode kS_drop 9 = .ok (.ireturn, 1) := by decide +kernel
theorem dS_drop_10 : decode kS_drop 10 = .ok (.aload_n 0, 1) := by decide +kernel
theorem dS_drop_11 : decode kS_drop 11 = .ok (.getfield 11, 3) := by decide +kernel
theorem dS_drop_14 : decode kS_drop 14 = .ok (.iload_n 1, 1) := by decide +kernel
theorem dS_drop_15 : decode kS_drop 15 = .ok (.aconst_null, 1) := by decide +kernel
theorem dS_drop_16 : decode kS_drop 16 = .ok (.aastore, 1) := by decide +kernel
theorem dS_drop_17 : decode kS_drop 17 = .ok (.aload_n 0, 1) := by decide +kernel
theorem dS_drop_18 : decode kS_drop 18 = .ok (.dup, 1) := by decide +kernel
theorem dS_drop_19 : decode kS_drop 19 = .ok (.getfield 17, 3) := by decide +kernel
theorem dS_drop_22 : decode kS_drop 22 = .ok (.iconst 1, 1) := by decide +kernel
theorem dS_drop_23 : decode kS_drop 23 = .ok (.isub, 1) := by decide +kernel
theorem dS_drop_24 : decode kS_drop 24 = .ok (.putfield 17, 3) := by decide +kernel
theorem dS_drop_27 : decode kS_drop 27 = .ok (.iconst 1, 1) := by decide +kernel
theorem dS_drop_28 : decode kS_drop 28 = .ok (.ireturn, 1) := by decide +kernel
theorem dS_at_0 : decode kS_at 0 = .ok (.iload_n 1, 1) := by decide +kernel
theorem dS_at_1 : decode kS_at 1 = .ok (.ifCond .lt 18, 3) := by decide +kernel
theorem dS_at_4 : decode kS_at 4 = .ok (.iload_n 1, 1) := by decide +kernel
theorem dS_at_5 : decode kS_at 5 = .ok (.bipush 64, 2) := by decide +kernel
theorem dS_at_7 : decode kS_at 7 = .ok (.if_icmp .ge 12, 3) := by decide +kernel
theorem dS_at_10 : decode kS_at 10 = .ok (.aload_n 0, 1) := by decide +kernel
theorem dS_at_11 : decode kS_at 11 = .ok (.getfield 11, 3) := by decide +kernel
theorem dS_at_14 : decode kS_at 14 = .ok (.iload_n 1, 1) := by decide +kernel
theorem dS_at_15 : decode kS_at 15 = .ok (.aaload, 1) := by decide +kernel
theorem dS_at_16 : decode kS_at 16 = .ok (.goto 4, 3) := by decide +kernel
theorem dS_at_19 : decode kS_at 19 = .ok (.aconst_null, 1) := by decide +kernel
theorem dS_at_20 : decode kS_at 20 = .ok (.areturn, 1) := by decide +kernel
theorem dS_dropAll_0 : decode kS_dropAll 0 = .ok (.iconst 0, 1) := by decide +kernel
theorem dS_dropAll_1 : decode kS_dropAll 1 = .ok (.istore_n 1, 1) := by decide +kernel
theorem dS_dropAll_2 : decode kS_dropAll 2 = .ok (.iload_n 1, 1) := by decide +kernel
theorem dS_dropAll_3 : decode kS_dropAll 3 = .ok (.bipush 64, 2) := by decide +kernel
theorem dS_dropAll_5 : decode kS_dropAll 5 = .ok (.if_icmp .ge 16, 3) := by decide +kernel
theorem dS_dropAll_8 : decode kS_dropAll 8 = .ok (.aload_n 0, 1) := by decide +kernel
theorem dS_dropAll_9 : decode kS_dropAll 9 = .ok (.getfield 11, 3) := by decide +kernel
theorem dS_dropAll_12 : decode kS_dropAll 12 = .ok (.iload_n 1, 1) := by decide +kernel
theorem dS_dropAll_13 : decode kS_dropAll 13 = .ok (.aconst_null, 1) := by decide +kernel
theorem dS_dropAll_14 : decode kS_dropAll 14 = .ok (.aastore, 1) := by decide +kernel
theorem dS_dropAll_15 : decode kS_dropAll 15 = .ok (.iinc 1 1, 3) := by decide +kernel
theorem dS_dropAll_18 : decode kS_dropAll 18 = .ok (.goto (-16), 3) := by decide +kernel
theorem dS_dropAll_21 : decode kS_dropAll 21 = .ok (.aload_n 0, 1) := by decide +kernel
theorem dS_dropAll_22 : decode kS_dropAll 22 = .ok (.iconst 0, 1) := by decide +kernel
theorem dS_dropAll_23 : decode kS_dropAll 23 = .ok (.putfield 17, 3) := by decide +kernel
theorem dS_dropAll_26 : decode kS_dropAll 26 = .ok (.return_, 1) := by decide +kernel
theorem dS_count_0 : decode kS_count 0 = .ok (.aload_n 0, 1) := by decide +kernel
theorem dS_count_1 : decode kS_count 1 = .ok (.getfield 17, 3) := by decide +kernel
theorem dS_count_4 : decode kS_count 4 = .ok (.ireturn, 1) := by decide +kernel
theorem dN_init_0 : decode kN_init 0 = .ok (.aload_n 0, 1) := by decide +kernel
theorem dN_init_1 : decode kN_init 1 = .ok (.invokespecial 3, 3) := by decide +kernel
theorem dN_init_4 : decode kN_init 4 = .ok (.aload_n 0, 1) := by decide +kernel
theorem dN_init_5 : decode kN_init 5 = .ok (.new 9, 3) := by decide +kernel
theorem dN_init_8 : decode kN_init 8 = .ok (.dup, 1) := by decide +kernel
theorem dN_init_9 : decode kN_init 9 = .ok (.invokespecial 11, 3) := by decide +kernel
theorem dN_init_12 : decode kN_init 12 = .ok (.putfield 12, 3) := by decide +kernel
theorem dN_init_15 : decode kN_init 15 = .ok (.return_, 1) := by decide +kernel
theorem dN_put_0 : decode kN_put 0 = .ok (.iload_n 1, 1) := by decide +kernel
theorem dN_put_1 : decode kN_put 1 = .ok (.iload_n 2, 1) := by decide +kernel
theorem dN_put_2 : decode kN_put 2 = .ok (.invokestatic 16, 3) := by decide +kernel
theorem dN_put_5 : decode kN_put 5 = .ok (.ifCond .eq 23, 3) := by decide +kernel
theorem dN_put_8 : decode kN_put 8 = .ok (.iload_n 3, 1) := by decide +kernel
theorem dN_put_9 : decode kN_put 9 = .ok (.iload 4, 2) := by decide +kernel
theorem dN_put_11 : decode kN_put 11 = .ok (.invokestatic 16, 3) := by decide +kernel
theorem dN_put_14 : decode kN_put 14 = .ok (.ifCond .eq 14, 3) := by decide +kernel
theorem dN_put_17 : decode kN_put 17 = .ok (.iload_n 1, 1) := by decide +kernel
theorem dN_put_18 : decode kN_put 18 = .ok (.iload_n 3, 1) := by decide +kernel
theorem dN_put_19 : decode kN_put 19 = .ok (.if_icmp .ne 11, 3) := by decide +kernel
theorem dN_put_22 : decode kN_put 22 = .ok (.iload_n 2, 1) := by decide +kernel
theorem dN_put_23 : decode kN_put 23 = .ok (.iload 4, 2) := by decide +kernel
theorem dN_put_25 : decode kN_put 25 = .ok (.if_icmp .ne 5, 3) := by decide +kernel
theorem dN_put_28 : decode kN_put 28 = .ok (.iconst (-1), 1) := by decide +kernel
theorem dN_put_29 : decode kN_put 29 = .ok (.ireturn, 1) := by decide +kernel
theorem dN_put_30 : decode kN_put 30 = .ok (.aload_n 0, 1) := by decide +kernel
theorem dN_put_31 : decode kN_put 31 = .ok (.getfield 12, 3) := by decide +kernel
theorem dN_put_34 : decode kN_put 34 = .ok (.new 20, 3) := by decide +kernel
theorem dN_put_37 : decode kN_put 37 = .ok (.dup, 1) := by decide +kernel
theorem dN_put_38 : decode kN_put 38 = .ok (.iload_n 1, 1) := by decide +kernel
theorem dN_put_39 : decode kN_put 39 = .ok (.iload_n 2, 1) := by decide +kernel
theorem dN_put_40 : decode kN_put 40 = .ok (.iload_n 3, 1) := by decide +kernel
theorem dN_put_41 : decode kN_put 41 = .ok (.iload 4, 2) := by decide +kernel
theorem dN_put_43 : decode kN_put 43 = .ok (.invokespecial 22, 3) := by decide +kernel
theorem dN_put_46 : decode kN_put 46 = .ok (.invokevirtual 25, 3) := by decide +kernel
theorem dN_put_49 : decode kN_put 49 = .ok (.ireturn, 1) := by decide +kernel
theorem dN_isPlace_0 : decode kN_isPlace 0 = .ok (.iload_n 0, 1) := by decide +kernel
theorem dN_isPlace_1 : decode kN_isPlace 1 = .ok (.sipush (-32768), 3) := by decide +kernel
theorem dN_isPlace_4 : decode kN_isPlace 4 = .ok (.if_icmp .lt 28, 3) := by decide +kernel
theorem dN_isPlace_7 : decode kN_isPlace 7 = .ok (.iload_n 0, 1) := by decide +kernel
theorem dN_isPlace_8 : decode kN_isPlace 8 = .ok (.sipush 32767, 3) := by decide +kernel
theorem dN_isPlace_11 : decode kN_isPlace 11 = .ok (.if_icmp .gt 21, 3) := by decide +kernel
theorem dN_isPlace_14 : decode kN_isPlace 14 = .ok (.iload_n 1, 1) := by decide +kernel
theorem dN_isPlace_15 : decode kN_isPlace 15 = .ok (.sipush (-32768), 3) := by decide +kernel
theorem dN_isPlace_18 : decode kN_isPlace 18 = .ok (.if_icmp .lt 14, 3) := by decide +kernel
theorem dN_isPlace_21 : decode kN_isPlace 21 = .ok (.iload_n 1, 1) := by decide +kernel
theorem dN_isPlace_22 : decode kN_isPlace 22 = .ok (.sipush 32767, 3) := by decide +kernel
theorem dN_isPlace_25 : decode kN_isPlace 25 = .ok (.if_icmp .gt 7, 3) := by decide +kernel
theorem dN_isPlace_28 : decode kN_isPlace 28 = .ok (.iconst 1, 1) := by decide +kernel
theorem dN_isPlace_29 : decode kN_isPlace 29 = .ok (.goto 4, 3) := by decide +kernel
theorem dN_isPlace_32 : decode kN_isPlace 32 = .ok (.iconst 0, 1) := by decide +kernel
theorem dN_isPlace_33 : decode kN_isPlace 33 = .ok (.ireturn, 1) := by decide +kernel
theorem dN_take_0 : decode kN_take 0 = .ok (.aload_n 0, 1) := by decide +kernel
theorem dN_take_1 : decode kN_take 1 = .ok (.getfield 12, 3) := by decide +kernel
theorem dN_take_4 : decode kN_take 4 = .ok (.iload_n 1, 1) := by decide +kernel
theorem dN_take_5 : decode kN_take 5 = .ok (.invokevirtual 29, 3) := by decide +kernel
theorem dN_take_8 : decode kN_take 8 = .ok (.ireturn, 1) := by decide +kernel
theorem dN_clear_0 : decode kN_clear 0 = .ok (.aload_n 0, 1) := by decide +kernel
theorem dN_clear_1 : decode kN_clear 1 = .ok (.getfield 12, 3) := by decide +kernel
theorem dN_clear_4 : decode kN_clear 4 = .ok (.invokevirtual 33, 3) := by decide +kernel
theorem dN_clear_7 : decode kN_clear 7 = .ok (.return_, 1) := by decide +kernel
theorem dN_node_0 : decode kN_node 0 = .ok (.aload_n 0, 1) := by decide +kernel
theorem dN_node_1 : decode kN_node 1 = .ok (.getfield 12, 3) := by decide +kernel
theorem dN_node_4 : decode kN_node 4 = .ok (.invokevirtual 36, 3) := by decide +kernel
theorem dN_node_7 : decode kN_node 7 = .ok (.aload_n 0, 1) := by decide +kernel
theorem dN_node_8 : decode kN_node 8 = .ok (.getfield 12, 3) := by decide +kernel
theorem dN_node_11 : decode kN_node 11 = .ok (.iload_n 1, 1) := by decide +kernel
theorem dN_node_12 : decode kN_node 12 = .ok (.invokevirtual 39, 3) := by decide +kernel
theorem dN_node_15 : decode kN_node 15 = .ok (.ifCond .ne 5, 3) := by decide +kernel
theorem dN_node_18 : decode kN_node 18 = .ok (.iconst (-1), 1) := by decide +kernel
theorem dN_node_19 : decode kN_node 19 = .ok (.ireturn, 1) := by decide +kernel
theorem dN_node_20 : decode kN_node 20 = .ok (.iload_n 2, 1) := by decide +kernel
theorem dN_node_21 : decode kN_node 21 = .ok (.tableswitch 93 0 5 #[39, 48, 57, 66, 75, 84], 39) := by decide +kernel
theorem dN_node_60 : decode kN_node 60 = .ok (.aload_n 0, 1) := by decide +kernel
theorem dN_node_61 : decode kN_node 61 = .ok (.getfield 12, 3) := by decide +kernel
theorem dN_node_64 : decode kN_node 64 = .ok (.iload_n 1, 1) := by decide +kernel
theorem dN_node_65 : decode kN_node 65 = .ok (.invokevirtual 42, 3) := by decide +kernel
theorem dN_node_68 : decode kN_node 68 = .ok (.ireturn, 1) := by decide +kernel
theorem dN_node_69 : decode kN_node 69 = .ok (.aload_n 0, 1) := by decide +kernel
theorem dN_node_70 : decode kN_node 70 = .ok (.getfield 12, 3) := by decide +kernel
theorem dN_node_73 : decode kN_node 73 = .ok (.iload_n 1, 1) := by decide +kernel
theorem dN_node_74 : decode kN_node 74 = .ok (.invokevirtual 46, 3) := by decide +kernel
theorem dN_node_77 : decode kN_node 77 = .ok (.ireturn, 1) := by decide +kernel
theorem dN_node_78 : decode kN_node 78 = .ok (.aload_n 0, 1) := by decide +kernel
theorem dN_node_79 : decode kN_node 79 = .ok (.getfield 12, 3) := by decide +kernel
theorem dN_node_82 : decode kN_node 82 = .ok (.iload_n 1, 1) := by decide +kernel
theorem dN_node_83 : decode kN_node 83 = .ok (.invokevirtual 49, 3) := by decide +kernel
theorem dN_node_86 : decode kN_node 86 = .ok (.ireturn, 1) := by decide +kernel
theorem dN_node_87 : decode kN_node 87 = .ok (.aload_n 0, 1) := by decide +kernel
theorem dN_node_88 : decode kN_node 88 = .ok (.getfield 12, 3) := by decide +kernel
theorem dN_node_91 : decode kN_node 91 = .ok (.iload_n 1, 1) := by decide +kernel
theorem dN_node_92 : decode kN_node 92 = .ok (.invokevirtual 52, 3) := by decide +kernel
theorem dN_node_95 : decode kN_node 95 = .ok (.ireturn, 1) := by decide +kernel
theorem dN_node_96 : decode kN_node 96 = .ok (.aload_n 0, 1) := by decide +kernel
theorem dN_node_97 : decode kN_node 97 = .ok (.getfield 12, 3) := by decide +kernel
theorem dN_node_100 : decode kN_node 100 = .ok (.iload_n 1, 1) := by decide +kernel
theorem dN_node_101 : decode kN_node 101 = .ok (.invokevirtual 55, 3) := by decide +kernel
theorem dN_node_104 : decode kN_node 104 = .ok (.ireturn, 1) := by decide +kernel
theorem dN_node_105 : decode kN_node 105 = .ok (.aload_n 0, 1) := by decide +kernel
theorem dN_node_106 : decode kN_node 106 = .ok (.getfield 12, 3) := by decide +kernel
theorem dN_node_109 : decode kN_node 109 = .ok (.iload_n 1, 1) := by decide +kernel
theorem dN_node_110 : decode kN_node 110 = .ok (.invokevirtual 58, 3) := by decide +kernel
theorem dN_node_113 : decode kN_node 113 = .ok (.ireturn, 1) := by decide +kernel
theorem dN_node_114 : decode kN_node 114 = .ok (.iconst (-1), 1) := by decide +kernel
theorem dN_node_115 : decode kN_node 115 = .ok (.ireturn, 1) := by decide +kernel
theorem dN_wall_0 : decode kN_wall 0 = .ok (.aload_n 0, 1) := by decide +kernel
theorem dN_wall_1 : decode kN_wall 1 = .ok (.getfield 12, 3) := by decide +kernel
theorem dN_wall_4 : decode kN_wall 4 = .ok (.invokevirtual 36, 3) := by decide +kernel
theorem dN_wall_7 : decode kN_wall 7 = .ok (.aload_n 0, 1) := by decide +kernel
theorem dN_wall_8 : decode kN_wall 8 = .ok (.getfield 12, 3) := by decide +kernel
theorem dN_wall_11 : decode kN_wall 11 = .ok (.aload_n 0, 1) := by decide +kernel
theorem dN_wall_12 : decode kN_wall 12 = .ok (.getfield 12, 3) := by decide +kernel
theorem dN_wall_15 : decode kN_wall 15 = .ok (.iload_n 1, 1) := by decide +kernel
theorem dN_wall_16 : decode kN_wall 16 = .ok (.iload_n 2, 1) := by decide +kernel
theorem dN_wall_17 : decode kN_wall 17 = .ok (.invokevirtual 61, 3) := by decide +kernel
theorem dN_wall_20 : decode kN_wall 20 = .ok (.invokevirtual 65, 3) := by decide +kernel
theorem dN_wall_23 : decode kN_wall 23 = .ok (.ireturn, 1) := by decide +kernel
theorem dN_quotient_0 : decode kN_quotient 0 = .ok (.aload_n 0, 1) := by decide +kernel
theorem dN_quotient_1 : decode kN_quotient 1 = .ok (.getfield 12, 3) := by decide +kernel
theorem dN_quotient_4 : decode kN_quotient 4 = .ok (.invokevirtual 36, 3) := by decide +kernel
theorem dN_quotient_7 : decode kN_quotient 7 = .ok (.aload_n 0, 1) := by decide +kernel
theorem dN_quotient_8 : decode kN_quotient 8 = .ok (.getfield 12, 3) := by decide +kernel
theorem dN_quotient_11 : decode kN_quotient 11 = .ok (.iload_n 1, 1) := by decide +kernel
theorem dN_quotient_12 : decode kN_quotient 12 = .ok (.iload_n 2, 1) := by decide +kernel
theorem dN_quotient_13 : decode kN_quotient 13 = .ok (.invokevirtual 61, 3) := by decide +kernel
theorem dN_quotient_16 : decode kN_quotient 16 = .ok (.istore 4, 2) := by decide +kernel
theorem dN_quotient_18 : decode kN_quotient 18 = .ok (.iload 4, 2) := by decide +kernel
theorem dN_quotient_20 : decode kN_quotient 20 = .ok (.iconst (-1), 1) := by decide +kernel
theorem dN_quotient_21 : decode kN_quotient 21 = .ok (.if_icmp .eq 12, 3) := by decide +kernel
theorem dN_quotient_24 : decode kN_quotient 24 = .ok (.iload_n 3, 1) := by decide +kernel
theorem dN_quotient_25 : decode kN_quotient 25 = .ok (.ifCond .lt 8, 3) := by decide +kernel
theorem dN_quotient_28 : decode kN_quotient 28 = .ok (.iload_n 3, 1) := by decide +kernel
theorem dN_quotient_29 : decode kN_quotient 29 = .ok (.iconst 3, 1) := by decide +kernel
theorem dN_quotient_30 : decode kN_quotient 30 = .ok (.if_icmp .le 7, 3) := by decide +kernel
theorem dN_quotient_33 : decode kN_quotient 33 = .ok (.ldc2_w 68, 3) := by decide +kernel
theorem dN_quotient_36 : decode kN_quotient 36 = .ok (.lreturn, 1) := by decide +kernel
theorem dN_quotient_37 : decode kN_quotient 37 = .ok (.aload_n 0, 1) := by decide +kernel
theorem dN_quotient_38 : decode kN_quotient 38 = .ok (.getfield 12, 3) := by decide +kernel
theorem dN_quotient_41 : decode kN_quotient 41 = .ok (.iload 4, 2) := by decide +kernel
theorem dN_quotient_43 : decode kN_quotient 43 = .ok (.iload_n 3, 1) := by decide +kernel
theorem dN_quotient_44 : decode kN_quotient 44 = .ok (.iconst 2, 1) := by decide +kernel
theorem dN_quotient_45 : decode kN_quotient 45 = .ok (.if_icmp .lt 7, 3) := by decide +kernel
theorem dN_quotient_48 : decode kN_quotient 48 = .ok (.iconst 1, 1) := by decide +kernel
theorem dN_quotient_49 : decode kN_quotient 49 = .ok (.goto 4, 3) := by decide +kernel
theorem dN_quotient_52 : decode kN_quotient 52 = .ok (.iconst 0, 1) := by decide +kernel
theorem dN_quotient_53 : decode kN_quotient 53 = .ok (.iload_n 3, 1) := by decide +kernel
theorem dN_quotient_54 : decode kN_quotient 54 = .ok (.iconst 2, 1) := by decide +kernel
theorem dN_quotient_55 : decode kN_quotient 55 = .ok (.irem, 1) := by decide +kernel
theorem dN_quotient_56 : decode kN_quotient 56 = .ok (.ifCond .ne 7, 3) := by decide +kernel
theorem dN_quotient_59 : decode kN_quotient 59 = .ok (.iconst 1, 1) := by decide +kernel
theorem dN_quotient_60 : decode kN_quotient 60 = .ok (.goto 4, 3) := by decide +kernel
theorem dN_quotient_63 : decode kN_quotient 63 = .ok (.iconst 0, 1) := by decide +kernel
theorem dN_quotient_64 : decode kN_quotient 64 = .ok (.invokevirtual 70, 3) := by decide +kernel
theorem dN_quotient_67 : decode kN_quotient 67 = .ok (.lreturn, 1) := by decide +kernel
theorem dN_leaf_0 : decode kN_leaf 0 = .ok (.iload_n 1, 1) := by decide +kernel
theorem dN_leaf_1 : decode kN_leaf 1 = .ok (.iload_n 2, 1) := by decide +kernel
theorem dN_leaf_2 : decode kN_leaf 2 = .ok (.invokestatic 16, 3) := by decide +kernel
theorem dN_leaf_5 : decode kN_leaf 5 = .ok (.ifCond .ne 5, 3) := by decide +kernel
theorem dN_leaf_8 : decode kN_leaf 8 = .ok (.iconst (-1), 1) := by decide +kernel
theorem dN_leaf_9 : decode kN_leaf 9 = .ok (.ireturn, 1) := by decide +kernel
theorem dN_leaf_10 : decode kN_leaf 10 = .ok (.aload_n 0, 1) := by decide +kernel
theorem dN_leaf_11 : decode kN_leaf 11 = .ok (.getfield 12, 3) := by decide +kernel
theorem dN_leaf_14 : decode kN_leaf 14 = .ok (.invokevirtual 36, 3) := by decide +kernel
theorem dN_leaf_17 : decode kN_leaf 17 = .ok (.aload_n 0, 1) := by decide +kernel
theorem dN_leaf_18 : decode kN_leaf 18 = .ok (.getfield 12, 3) := by decide +kernel
theorem dN_leaf_21 : decode kN_leaf 21 = .ok (.iload_n 1, 1) := by decide +kernel
theorem dN_leaf_22 : decode kN_leaf 22 = .ok (.iload_n 2, 1) := by decide +kernel
theorem dN_leaf_23 : decode kN_leaf 23 = .ok (.invokevirtual 74, 3) := by decide +kernel
theorem dN_leaf_26 : decode kN_leaf 26 = .ok (.ireturn, 1) := by decide +kernel
theorem dN_way_0 : decode kN_way 0 = .ok (.iload_n 1, 1) := by decide +kernel
theorem dN_way_1 : decode kN_way 1 = .ok (.iload_n 2, 1) := by decide +kernel
theorem dN_way_2 : decode kN_way 2 = .ok (.invokestatic 16, 3) := by decide +kernel
theorem dN_way_5 : decode kN_way 5 = .ok (.ifCond .ne 5, 3) := by decide +kernel
theorem dN_way_8 : decode kN_way 8 = .ok (.iconst (-1), 1) := by decide +kernel
theorem dN_way_9 : decode kN_way 9 = .ok (.ireturn, 1) := by decide +kernel
theorem dN_way_10 : decode kN_way 10 = .ok (.aload_n 0, 1) := by decide +kernel
theorem dN_way_11 : decode kN_way 11 = .ok (.iconst 1, 1) := by decide +kernel
theorem dN_way_12 : decode kN_way 12 = .ok (.putfield 77, 3) := by decide +kernel
theorem dN_way_15 : decode kN_way 15 = .ok (.aload_n 0, 1) := by decide +kernel
theorem dN_way_16 : decode kN_way 16 = .ok (.iload_n 1, 1) := by decide +kernel
theorem dN_way_17 : decode kN_way 17 = .ok (.putfield 81, 3) := by decide +kernel
theorem dN_way_20 : decode kN_way 20 = .ok (.aload_n 0, 1) := by decide +kernel
theorem dN_way_21 : decode kN_way 21 = .ok (.iload_n 2, 1) := by decide +kernel
theorem dN_way_22 : decode kN_way 22 = .ok (.putfield 85, 3) := by decide +kernel
theorem dN_way_25 : decode kN_way 25 = .ok (.aload_n 0, 1) := by decide +kernel
theorem dN_way_26 : decode kN_way 26 = .ok (.getfield 12, 3) := by decide +kernel
theorem dN_way_29 : decode kN_way 29 = .ok (.invokevirtual 36, 3) := by decide +kernel
theorem dN_way_32 : decode kN_way 32 = .ok (.aload_n 0, 1) := by decide +kernel
theorem dN_way_33 : decode kN_way 33 = .ok (.getfield 12, 3) := by decide +kernel
theorem dN_way_36 : decode kN_way 36 = .ok (.invokevirtual 88, 3) := by decide +kernel
theorem dN_way_39 : decode kN_way 39 = .ok (.ireturn, 1) := by decide +kernel
theorem dN_step_0 : decode kN_step 0 = .ok (.aload_n 0, 1) := by decide +kernel
theorem dN_step_1 : decode kN_step 1 = .ok (.getfield 77, 3) := by decide +kernel
theorem dN_step_4 : decode kN_step 4 = .ok (.ifCond .ne 5, 3) := by decide +kernel
theorem dN_step_7 : decode kN_step 7 = .ok (.iconst (-1), 1) := by decide +kernel
theorem dN_step_8 : decode kN_step 8 = .ok (.ireturn, 1) := by decide +kernel
theorem dN_step_9 : decode kN_step 9 = .ok (.aload_n 0, 1) := by decide +kernel
theorem dN_step_10 : decode kN_step 10 = .ok (.getfield 12, 3) := by decide +kernel
theorem dN_step_13 : decode kN_step 13 = .ok (.invokevirtual 36, 3) := by decide +kernel
theorem dN_step_16 : decode kN_step 16 = .ok (.aload_n 0, 1) := by decide +kernel
theorem dN_step_17 : decode kN_step 17 = .ok (.getfield 12, 3) := by decide +kernel
theorem dN_step_20 : decode kN_step 20 = .ok (.aload_n 0, 1) := by decide +kernel
theorem dN_step_21 : decode kN_step 21 = .ok (.getfield 81, 3) := by decide +kernel
theorem dN_step_24 : decode kN_step 24 = .ok (.aload_n 0, 1) := by decide +kernel
theorem dN_step_25 : decode kN_step 25 = .ok (.getfield 85, 3) := by decide +kernel
theorem dN_step_28 : decode kN_step 28 = .ok (.iload_n 1, 1) := by decide +kernel
theorem dN_step_29 : decode kN_step 29 = .ok (.invokevirtual 92, 3) := by decide +kernel
theorem dN_step_32 : decode kN_step 32 = .ok (.istore_n 3, 1) := by decide +kernel
theorem dN_step_33 : decode kN_step 33 = .ok (.iload_n 2, 1) := by decide +kernel
theorem dN_step_34 : decode kN_step 34 = .ok (.tableswitch 53 0 2 #[26, 35, 44], 26) := by decide +kernel
theorem dN_step_60 : decode kN_step 60 = .ok (.aload_n 0, 1) := by decide +kernel
theorem dN_step_61 : decode kN_step 61 = .ok (.getfield 12, 3) := by decide +kernel
theorem dN_step_64 : decode kN_step 64 = .ok (.iload_n 3, 1) := by decide +kernel
theorem dN_step_65 : decode kN_step 65 = .ok (.invokevirtual 65, 3) := by decide +kernel
theorem dN_step_68 : decode kN_step 68 = .ok (.ireturn, 1) := by decide +kernel
theorem dN_step_69 : decode kN_step 69 = .ok (.aload_n 0, 1) := by decide +kernel
theorem dN_step_70 : decode kN_step 70 = .ok (.getfield 12, 3) := by decide +kernel
theorem dN_step_73 : decode kN_step 73 = .ok (.iload_n 3, 1) := by decide +kernel
theorem dN_step_74 : decode kN_step 74 = .ok (.invokevirtual 96, 3) := by decide +kernel
theorem dN_step_77 : decode kN_step 77 = .ok (.ireturn, 1) := by decide +kernel
theorem dN_step_78 : decode kN_step 78 = .ok (.aload_n 0, 1) := by decide +kernel
theorem dN_step_79 : decode kN_step 79 = .ok (.getfield 12, 3) := by decide +kernel
theorem dN_step_82 : decode kN_step 82 = .ok (.iload_n 3, 1) := by decide +kernel
theorem dN_step_83 : decode kN_step 83 = .ok (.invokevirtual 99, 3) := by decide +kernel
theorem dN_step_86 : decode kN_step 86 = .ok (.ireturn, 1) := by decide +kernel
theorem dN_step_87 : decode kN_step 87 = .ok (.iconst (-1), 1) := by decide +kernel
theorem dN_step_88 : decode kN_step 88 = .ok (.ireturn, 1) := by decide +kernel
theorem dN_of_0 : decode kN_of 0 = .ok (.aload_n 0, 1) := by decide +kernel
theorem dN_of_1 : decode kN_of 1 = .ok (.getfield 12, 3) := by decide +kernel
theorem dN_of_4 : decode kN_of 4 = .ok (.iload_n 1, 1) := by decide +kernel
theorem dN_of_5 : decode kN_of 5 = .ok (.invokevirtual 102, 3) := by decide +kernel
theorem dN_of_8 : decode kN_of 8 = .ok (.astore_n 3, 1) := by decide +kernel
theorem dN_of_9 : decode kN_of 9 = .ok (.aload_n 3, 1) := by decide +kernel
theorem dN_of_10 : decode kN_of 10 = .ok (.ifnonnull 6, 3) := by decide +kernel
theorem dN_of_13 : decode kN_of 13 = .ok (.ldc 106, 2) := by decide +kernel
theorem dN_of_15 : decode kN_of 15 = .ok (.ireturn, 1) := by decide +kernel
theorem dN_of_16 : decode kN_of 16 = .ok (.iload_n 2, 1) := by decide +kernel
theorem dN_of_17 : decode kN_of 17 = .ok (.tableswitch 71 0 4 #[35, 40, 45, 50, 55], 35) := by decide +kernel
theorem dN_of_52 : decode kN_of 52 = .ok (.aload_n 3, 1) := by decide +kernel
theorem dN_of_53 : decode kN_of 53 = .ok (.getfield 107, 3) := by decide +kernel
theorem dN_of_56 : decode kN_of 56 = .ok (.ireturn, 1) := by decide +kernel
theorem dN_of_57 : decode kN_of 57 = .ok (.aload_n 3, 1) := by decide +kernel
theorem dN_of_58 : decode kN_of 58 = .ok (.getfield 110, 3) := by decide +kernel
theorem dN_of_61 : decode kN_of 61 = .ok (.ireturn, 1) := by decide +kernel
theorem dN_of_62 : decode kN_of 62 = .ok (.aload_n 3, 1) := by decide +kernel
theorem dN_of_63 : decode kN_of 63 = .ok (.getfield 113, 3) := by decide +kernel
theorem dN_of_66 : decode kN_of 66 = .ok (.ireturn, 1) := by decide +kernel
theorem dN_of_67 : decode kN_of 67 = .ok (.aload_n 3, 1) := by decide +kernel
theorem dN_of_68 : decode kN_of 68 = .ok (.getfield 116, 3) := by decide +kernel
theorem dN_of_71 : decode kN_of 71 = .ok (.ireturn, 1) := by decide +kernel
theorem dN_of_72 : decode kN_of 72 = .ok (.aload_n 0, 1) := by decide +kernel
theorem dN_of_73 : decode kN_of 73 = .ok (.getfield 12, 3) := by decide +kernel
theorem dN_of_76 : decode kN_of 76 = .ok (.invokevirtual 36, 3) := by decide +kernel
theorem dN_of_79 : decode kN_of 79 = .ok (.aload_n 0, 1) := by decide +kernel
theorem dN_of_80 : decode kN_of 80 = .ok (.getfield 12, 3) := by decide +kernel
theorem dN_of_83 : decode kN_of 83 = .ok (.iload_n 1, 1) := by decide +kernel
theorem dN_of_84 : decode kN_of 84 = .ok (.invokevirtual 119, 3) := by decide +kernel
theorem dN_of_87 : decode kN_of 87 = .ok (.ireturn, 1) := by decide +kernel
theorem dN_of_88 : decode kN_of 88 = .ok (.ldc 106, 2) := by decide +kernel
theorem dN_of_90 : decode kN_of 90 = .ok (.ireturn, 1) := by decide +kernel
theorem dN_look_0 : decode kN_look 0 = .ok (.aload_n 0, 1) := by decide +kernel
theorem dN_look_1 : decode kN_look 1 = .ok (.getfield 12, 3) := by decide +kernel
theorem dN_look_4 : decode kN_look 4 = .ok (.invokevirtual 36, 3) := by decide +kernel
theorem dN_look_7 : decode kN_look 7 = .ok (.iload_n 1, 1) := by decide +kernel
theorem dN_look_8 : decode kN_look 8 = .ok (.tableswitch 98 0 5 #[40, 48, 56, 66, 74, 82], 40) := by decide +kernel
theorem dN_look_48 : decode kN_look 48 = .ok (.aload_n 0, 1) := by decide +kernel
theorem dN_look_49 : decode kN_look 49 = .ok (.getfield 12, 3) := by decide +kernel
theorem dN_look_52 : decode kN_look 52 = .ok (.invokevirtual 122, 3) := by decide +kernel
theorem dN_look_55 : decode kN_look 55 = .ok (.ireturn, 1) := by decide +kernel
theorem dN_look_56 : decode kN_look 56 = .ok (.aload_n 0, 1) := by decide +kernel
theorem dN_look_57 : decode kN_look 57 = .ok (.getfield 12, 3) := by decide +kernel
theorem dN_look_60 : decode kN_look 60 = .ok (.invokevirtual 125, 3) := by decide +kernel
theorem dN_look_63 : decode kN_look 63 = .ok (.ireturn, 1) := by decide +kernel
theorem dN_look_64 : decode kN_look 64 = .ok (.aload_n 0, 1) := by decide +kernel
theorem dN_look_65 : decode kN_look 65 = .ok (.getfield 12, 3) := by decide +kernel
theorem dN_look_68 : decode kN_look 68 = .ok (.invokevirtual 125, 3) := by decide +kernel
theorem dN_look_71 : decode kN_look 71 = .ok (.iconst 1, 1) := by decide +kernel
theorem dN_look_72 : decode kN_look 72 = .ok (.iadd, 1) := by decide +kernel
theorem dN_look_73 : decode kN_look 73 = .ok (.ireturn, 1) := by decide +kernel
theorem dN_look_74 : decode kN_look 74 = .ok (.aload_n 0, 1) := by decide +kernel
theorem dN_look_75 : decode kN_look 75 = .ok (.getfield 12, 3) := by decide +kernel
theorem dN_look_78 : decode kN_look 78 = .ok (.invokevirtual 88, 3) := by decide +kernel
theorem dN_look_81 : decode kN_look 81 = .ok (.ireturn, 1) := by decide +kernel
theorem dN_look_82 : decode kN_look 82 = .ok (.aload_n 0, 1) := by decide +kernel
theorem dN_look_83 : decode kN_look 83 = .ok (.getfield 12, 3) := by decide +kernel
theorem dN_look_86 : decode kN_look 86 = .ok (.invokevirtual 128, 3) := by decide +kernel
theorem dN_look_89 : decode kN_look 89 = .ok (.ireturn, 1) := by decide +kernel
theorem dN_look_90 : decode kN_look 90 = .ok (.aload_n 0, 1) := by decide +kernel
theorem dN_look_91 : decode kN_look 91 = .ok (.getfield 12, 3) := by decide +kernel
theorem dN_look_94 : decode kN_look 94 = .ok (.invokevirtual 88, 3) := by decide +kernel
theorem dN_look_97 : decode kN_look 97 = .ok (.aload_n 0, 1) := by decide +kernel
theorem dN_look_98 : decode kN_look 98 = .ok (.getfield 12, 3) := by decide +kernel
theorem dN_look_101 : decode kN_look 101 = .ok (.invokevirtual 122, 3) := by decide +kernel
theorem dN_look_104 : decode kN_look 104 = .ok (.isub, 1) := by decide +kernel
theorem dN_look_105 : decode kN_look 105 = .ok (.ireturn, 1) := by decide +kernel
theorem dN_look_106 : decode kN_look 106 = .ok (.iconst (-1), 1) := by decide +kernel
theorem dN_look_107 : decode kN_look 107 = .ok (.ireturn, 1) := by decide +kernel
theorem dA_copyOf_0 : decode kA_copyOf 0 = .ok (.iload_n 1, 1) := by decide +kernel
theorem dA_copyOf_1 : decode kA_copyOf 1 = .ok (.aload_n 0, 1) := by decide +kernel
theorem dA_copyOf_2 : decode kA_copyOf 2 = .ok (.arraylength, 1) := by decide +kernel
theorem dA_copyOf_3 : decode kA_copyOf 3 = .ok (.if_icmp .ne 11, 3) := by decide +kernel
theorem dA_copyOf_6 : decode kA_copyOf 6 = .ok (.aload_n 0, 1) := by decide +kernel
theorem dA_copyOf_7 : decode kA_copyOf 7 = .ok (.invokevirtual 316, 3) := by decide +kernel
theorem dA_copyOf_10 : decode kA_copyOf 10 = .ok (.checkcast 317, 3) := by decide +kernel
theorem dA_copyOf_13 : decode kA_copyOf 13 = .ok (.areturn, 1) := by decide +kernel
theorem dA_copyOf_14 : decode kA_copyOf 14 = .ok (.iload_n 1, 1) := by decide +kernel
theorem dA_copyOf_15 : decode kA_copyOf 15 = .ok (.newarray .int, 2) := by decide +kernel
theorem dA_copyOf_17 : decode kA_copyOf 17 = .ok (.astore_n 2, 1) := by decide +kernel
theorem dA_copyOf_18 : decode kA_copyOf 18 = .ok (.aload_n 0, 1) := by decide +kernel
theorem dA_copyOf_19 : decode kA_copyOf 19 = .ok (.iconst 0, 1) := by decide +kernel
theorem dA_copyOf_20 : decode kA_copyOf 20 = .ok (.aload_n 2, 1) := by decide +kernel
theorem dA_copyOf_21 : decode kA_copyOf 21 = .ok (.iconst 0, 1) := by decide +kernel
theorem dA_copyOf_22 : decode kA_copyOf 22 = .ok (.aload_n 0, 1) := by decide +kernel
theorem dA_copyOf_23 : decode kA_copyOf 23 = .ok (.arraylength, 1) := by decide +kernel
theorem dA_copyOf_24 : decode kA_copyOf 24 = .ok (.iload_n 1, 1) := by decide +kernel
theorem dA_copyOf_25 : decode kA_copyOf 25 = .ok (.invokestatic 304, 3) := by decide +kernel
theorem dA_copyOf_28 : decode kA_copyOf 28 = .ok (.invokestatic 150, 3) := by decide +kernel
theorem dA_copyOf_31 : decode kA_copyOf 31 = .ok (.aload_n 2, 1) := by decide +kernel
theorem dA_copyOf_32 : decode kA_copyOf 32 = .ok (.areturn, 1) := by decide +kernel
theorem dH_multiplyHigh_0 : decode kH_multiplyHigh 0 = .ok (.lload_n 0, 1) := by decide +kernel
theorem dH_multiplyHigh_1 : decode kH_multiplyHigh 1 = .ok (.bipush 32, 2) := by decide +kernel
theorem dH_multiplyHigh_3 : decode kH_multiplyHigh 3 = .ok (.lshr, 1) := by decide +kernel
theorem dH_multiplyHigh_4 : decode kH_multiplyHigh 4 = .ok (.lstore 4, 2) := by decide +kernel
theorem dH_multiplyHigh_6 : decode kH_multiplyHigh 6 = .ok (.lload_n 0, 1) := by decide +kernel
theorem dH_multiplyHigh_7 : decode kH_multiplyHigh 7 = .ok (.ldc2_w 138, 3) := by decide +kernel
theorem dH_multiplyHigh_10 : decode kH_multiplyHigh 10 = .ok (.land, 1) := by decide +kernel
theorem dH_multiplyHigh_11 : decode kH_multiplyHigh 11 = .ok (.lstore 6, 2) := by decide +kernel
theorem dH_multiplyHigh_13 : decode kH_multiplyHigh 13 = .ok (.lload_n 2, 1) := by decide +kernel
theorem dH_multiplyHigh_14 : decode kH_multiplyHigh 14 = .ok (.bipush 32, 2) := by decide +kernel
theorem dH_multiplyHigh_16 : decode kH_multiplyHigh 16 = .ok (.lshr, 1) := by decide +kernel
theorem dH_multiplyHigh_17 : decode kH_multiplyHigh 17 = .ok (.lstore 8, 2) := by decide +kernel
theorem dH_multiplyHigh_19 : decode kH_multiplyHigh 19 = .ok (.lload_n 2, 1) := by decide +kernel
theorem dH_multiplyHigh_20 : decode kH_multiplyHigh 20 = .ok (.ldc2_w 138, 3) := by decide +kernel
theorem dH_multiplyHigh_23 : decode kH_multiplyHigh 23 = .ok (.land, 1) := by decide +kernel
theorem dH_multiplyHigh_24 : decode kH_multiplyHigh 24 = .ok (.lstore 10, 2) := by decide +kernel
theorem dH_multiplyHigh_26 : decode kH_multiplyHigh 26 = .ok (.lload 6, 2) := by decide +kernel
theorem dH_multiplyHigh_28 : decode kH_multiplyHigh 28 = .ok (.lload 10, 2) := by decide +kernel
theorem dH_multiplyHigh_30 : decode kH_multiplyHigh 30 = .ok (.lmul, 1) := by decide +kernel
theorem dH_multiplyHigh_31 : decode kH_multiplyHigh 31 = .ok (.lstore 12, 2) := by decide +kernel
theorem dH_multiplyHigh_33 : decode kH_multiplyHigh 33 = .ok (.lload 4, 2) := by decide +kernel
theorem dH_multiplyHigh_35 : decode kH_multiplyHigh 35 = .ok (.lload 10, 2) := by decide +kernel
theorem dH_multiplyHigh_37 : decode kH_multiplyHigh 37 = .ok (.lmul, 1) := by decide +kernel
theorem dH_multiplyHigh_38 : decode kH_multiplyHigh 38 = .ok (.lload 12, 2) := by decide +kernel
theorem dH_multiplyHigh_40 : decode kH_multiplyHigh 40 = .ok (.bipush 32, 2) := by decide +kernel
theorem dH_multiplyHigh_42 : decode kH_multiplyHigh 42 = .ok (.lushr, 1) := by decide +kernel
theorem dH_multiplyHigh_43 : decode kH_multiplyHigh 43 = .ok (.ladd, 1) := by decide +kernel
theorem dH_multiplyHigh_44 : decode kH_multiplyHigh 44 = .ok (.lstore 14, 2) := by decide +kernel
theorem dH_multiplyHigh_46 : decode kH_multiplyHigh 46 = .ok (.lload 14, 2) := by decide +kernel
theorem dH_multiplyHigh_48 : decode kH_multiplyHigh 48 = .ok (.ldc2_w 138, 3) := by decide +kernel
theorem dH_multiplyHigh_51 : decode kH_multiplyHigh 51 = .ok (.land, 1) := by decide +kernel
theorem dH_multiplyHigh_52 : decode kH_multiplyHigh 52 = .ok (.lstore 16, 2) := by decide +kernel
theorem dH_multiplyHigh_54 : decode kH_multiplyHigh 54 = .ok (.lload 14, 2) := by decide +kernel
theorem dH_multiplyHigh_56 : decode kH_multiplyHigh 56 = .ok (.bipush 32, 2) := by decide +kernel
theorem dH_multiplyHigh_58 : decode kH_multiplyHigh 58 = .ok (.lshr, 1) := by decide +kernel
theorem dH_multiplyHigh_59 : decode kH_multiplyHigh 59 = .ok (.lstore 18, 2) := by decide +kernel
theorem dH_multiplyHigh_61 : decode kH_multiplyHigh 61 = .ok (.lload 16, 2) := by decide +kernel
theorem dH_multiplyHigh_63 : decode kH_multiplyHigh 63 = .ok (.lload 6, 2) := by decide +kernel
theorem dH_multiplyHigh_65 : decode kH_multiplyHigh 65 = .ok (.lload 8, 2) := by decide +kernel
theorem dH_multiplyHigh_67 : decode kH_multiplyHigh 67 = .ok (.lmul, 1) := by decide +kernel
theorem dH_multiplyHigh_68 : decode kH_multiplyHigh 68 = .ok (.ladd, 1) := by decide +kernel
theorem dH_multiplyHigh_69 : decode kH_multiplyHigh 69 = .ok (.lstore 16, 2) := by decide +kernel
theorem dH_multiplyHigh_71 : decode kH_multiplyHigh 71 = .ok (.lload 4, 2) := by decide +kernel
theorem dH_multiplyHigh_73 : decode kH_multiplyHigh 73 = .ok (.lload 8, 2) := by decide +kernel
theorem dH_multiplyHigh_75 : decode kH_multiplyHigh 75 = .ok (.lmul, 1) := by decide +kernel
theorem dH_multiplyHigh_76 : decode kH_multiplyHigh 76 = .ok (.lload 18, 2) := by decide +kernel
theorem dH_multiplyHigh_78 : decode kH_multiplyHigh 78 = .ok (.ladd, 1) := by decide +kernel
theorem dH_multiplyHigh_79 : decode kH_multiplyHigh 79 = .ok (.lload 16, 2) := by decide +kernel
theorem dH_multiplyHigh_81 : decode kH_multiplyHigh 81 = .ok (.bipush 32, 2) := by decide +kernel
theorem dH_multiplyHigh_83 : decode kH_multiplyHigh 83 = .ok (.lshr, 1) := by decide +kernel
theorem dH_multiplyHigh_84 : decode kH_multiplyHigh 84 = .ok (.ladd, 1) := by decide +kernel
theorem dH_multiplyHigh_85 : decode kH_multiplyHigh 85 = .ok (.lreturn, 1) := by decide +kernel
end
section
theorem dT_init_0 : decode kT_init 0 = .ok (.aload_n 0, 1) := by decide +kernel
theorem dT_init_1 : decode kT_init 1 = .ok (.invokespecial 3, 3) := by decide +kernel
theorem dT_init_4 : decode kT_init 4 = .ok (.aload_n 0, 1) := by decide +kernel
theorem dT_init_5 : decode kT_init 5 = .ok (.new 9, 3) := by decide +kernel
theorem dT_init_8 : decode kT_init 8 = .ok (.dup, 1) := by decide +kernel
theorem dT_init_9 : decode kT_init 9 = .ok (.invokespecial 11, 3) := by decide +kernel
theorem dT_init_12 : decode kT_init 12 = .ok (.putfield 12, 3) := by decide +kernel
theorem dT_init_15 : decode kT_init 15 = .ok (.aload_n 0, 1) := by decide +kernel
theorem dT_init_16 : decode kT_init 16 = .ok (.new 18, 3) := by decide +kernel
theorem dT_init_19 : decode kT_init 19 = .ok (.dup, 1) := by decide +kernel
theorem dT_init_20 : decode kT_init 20 = .ok (.invokespecial 20, 3) := by decide +kernel
theorem dT_init_23 : decode kT_init 23 = .ok (.putfield 21, 3) := by decide +kernel
theorem dT_init_26 : decode kT_init 26 = .ok (.aload_n 0, 1) := by decide +kernel
theorem dT_init_27 : decode kT_init 27 = .ok (.new 18, 3) := by decide +kernel
theorem dT_init_30 : decode kT_init 30 = .ok (.dup, 1) := by decide +kernel
theorem dT_init_31 : decode kT_init 31 = .ok (.invokespecial 20, 3) := by decide +kernel
theorem dT_init_34 : decode kT_init 34 = .ok (.putfield 25, 3) := by decide +kernel
theorem dT_init_37 : decode kT_init 37 = .ok (.aload_n 0, 1) := by decide +kernel
theorem dT_init_38 : decode kT_init 38 = .ok (.new 18, 3) := by decide +kernel
theorem dT_init_41 : decode kT_init 41 = .ok (.dup, 1) := by decide +kernel
theorem dT_init_42 : decode kT_init 42 = .ok (.invokespecial 20, 3) := by decide +kernel
theorem dT_init_45 : decode kT_init 45 = .ok (.putfield 28, 3) := by decide +kernel
theorem dT_init_48 : decode kT_init 48 = .ok (.aload_n 0, 1) := by decide +kernel
theorem dT_init_49 : decode kT_init 49 = .ok (.new 18, 3) := by decide +kernel
theorem dT_init_52 : decode kT_init 52 = .ok (.dup, 1) := by decide +kernel
theorem dT_init_53 : decode kT_init 53 = .ok (.invokespecial 20, 3) := by decide +kernel
theorem dT_init_56 : decode kT_init 56 = .ok (.putfield 31, 3) := by decide +kernel
theorem dT_init_59 : decode kT_init 59 = .ok (.aload_n 0, 1) := by decide +kernel
theorem dT_init_60 : decode kT_init 60 = .ok (.new 18, 3) := by decide +kernel
theorem dT_init_63 : decode kT_init 63 = .ok (.dup, 1) := by decide +kernel
theorem dT_init_64 : decode kT_init 64 = .ok (.invokespecial 20, 3) := by decide +kernel
theorem dT_init_67 : decode kT_init 67 = .ok (.putfield 34, 3) := by decide +kernel
theorem dT_init_70 : decode kT_init 70 = .ok (.aload_n 0, 1) := by decide +kernel
theorem dT_init_71 : decode kT_init 71 = .ok (.new 18, 3) := by decide +kernel
theorem dT_init_74 : decode kT_init 74 = .ok (.dup, 1) := by decide +kernel
theorem dT_init_75 : decode kT_init 75 = .ok (.invokespecial 20, 3) := by decide +kernel
theorem dT_init_78 : decode kT_init 78 = .ok (.putfield 37, 3) := by decide +kernel
theorem dT_init_81 : decode kT_init 81 = .ok (.aload_n 0, 1) := by decide +kernel
theorem dT_init_82 : decode kT_init 82 = .ok (.new 40, 3) := by decide +kernel
theorem dT_init_85 : decode kT_init 85 = .ok (.dup, 1) := by decide +kernel
theorem dT_init_86 : decode kT_init 86 = .ok (.invokespecial 42, 3) := by decide +kernel
theorem dT_init_89 : decode kT_init 89 = .ok (.putfield 43, 3) := by decide +kernel
theorem dT_init_92 : decode kT_init 92 = .ok (.aload_n 0, 1) := by decide +kernel
theorem dT_init_93 : decode kT_init 93 = .ok (.new 18, 3) := by decide +kernel
theorem dT_init_96 : decode kT_init 96 = .ok (.dup, 1) := by decide +kernel
theorem dT_init_97 : decode kT_init 97 = .ok (.invokespecial 20, 3) := by decide +kernel
theorem dT_init_100 : decode kT_init 100 = .ok (.putfield 47, 3) := by decide +kernel
theorem dT_init_103 : decode kT_init 103 = .ok (.aload_n 0, 1) := by decide +kernel
theorem dT_init_104 : decode kT_init 104 = .ok (.new 40, 3) := by decide +kernel
theorem dT_init_107 : decode kT_init 107 = .ok (.dup, 1) := by decide +kernel
theorem dT_init_108 : decode kT_init 108 = .ok (.invokespecial 42, 3) := by decide +kernel
theorem dT_init_111 : decode kT_init 111 = .ok (.putfield 50, 3) := by decide +kernel
theorem dT_init_114 : decode kT_init 114 = .ok (.aload_n 0, 1) := by decide +kernel
theorem dT_init_115 : decode kT_init 115 = .ok (.new 40, 3) := by decide +kernel
theorem dT_init_118 : decode kT_init 118 = .ok (.dup, 1) := by decide +kernel
theorem dT_init_119 : decode kT_init 119 = .ok (.invokespecial 42, 3) := by decide +kernel
theorem dT_init_122 : decode kT_init 122 = .ok (.putfield 53, 3) := by decide +kernel
theorem dT_init_125 : decode kT_init 125 = .ok (.return_, 1) := by decide +kernel
theorem dT_addWall_0 : decode kT_addWall 0 = .ok (.aload_n 0, 1) := by decide +kernel
theorem dT_addWall_1 : decode kT_addWall 1 = .ok (.getfield 12, 3) := by decide +kernel
theorem dT_addWall_4 : decode kT_addWall 4 = .ok (.aload_n 1, 1) := by decide +kernel
theorem dT_addWall_5 : decode kT_addWall 5 = .ok (.invokevirtual 64, 3) := by decide +kernel
theorem dT_addWall_8 : decode kT_addWall 8 = .ok (.istore_n 2, 1) := by decide +kernel
theorem dT_addWall_9 : decode kT_addWall 9 = .ok (.aload_n 0, 1) := by decide +kernel
theorem dT_addWall_10 : decode kT_addWall 10 = .ok (.aload_n 0, 1) := by decide +kernel
theorem dT_addWall_11 : decode kT_addWall 11 = .ok (.getfield 68, 3) := by decide +kernel
theorem dT_addWall_14 : decode kT_addWall 14 = .ok (.ifCond .ne 8, 3) := by decide +kernel
theorem dT_addWall_17 : decode kT_addWall 17 = .ok (.iload_n 2, 1) := by decide +kernel
theorem dT_addWall_18 : decode kT_addWall 18 = .ok (.iconst (-1), 1) := by decide +kernel
theorem dT_addWall_19 : decode kT_addWall 19 = .ok (.if_icmp .eq 7, 3) := by decide +kernel
theorem dT_addWall_22 : decode kT_addWall 22 = .ok (.iconst 1, 1) := by decide +kernel
theorem dT_addWall_23 : decode kT_addWall 23 = .ok (.goto 4, 3) := by decide +kernel
theorem dT_addWall_26 : decode kT_addWall 26 = .ok (.iconst 0, 1) := by decide +kernel
theorem dT_addWall_27 : decode kT_addWall 27 = .ok (.putfield 68, 3) := by decide +kernel
theorem dT_addWall_30 : decode kT_addWall 30 = .ok (.iload_n 2, 1) := by decide +kernel
theorem dT_addWall_31 : decode kT_addWall 31 = .ok (.ireturn, 1) := by decide +kernel
theorem dT_dropWall_0 : decode kT_dropWall 0 = .ok (.aload_n 0, 1) := by decide +kernel
theorem dT_dropWall_1 : decode kT_dropWall 1 = .ok (.getfield 12, 3) := by decide +kernel
theorem dT_dropWall_4 : decode kT_dropWall 4 = .ok (.iload_n 1, 1) := by decide +kernel
theorem dT_dropWall_5 : decode kT_dropWall 5 = .ok (.invokevirtual 72, 3) := by decide +kernel
theorem dT_dropWall_8 : decode kT_dropWall 8 = .ok (.istore_n 2, 1) := by decide +kernel
theorem dT_dropWall_9 : decode kT_dropWall 9 = .ok (.aload_n 0, 1) := by decide +kernel
theorem dT_dropWall_10 : decode kT_dropWall 10 = .ok (.aload_n 0, 1) := by decide +kernel
theorem dT_dropWall_11 : decode kT_dropWall 11 = .ok (.getfield 68, 3) := by decide +kernel
theorem dT_dropWall_14 : decode kT_dropWall 14 = .ok (.ifCond .ne 7, 3) := by decide +kernel
theorem dT_dropWall_17 : decode kT_dropWall 17 = .ok (.iload_n 2, 1) := by decide +kernel
theorem dT_dropWall_18 : decode kT_dropWall 18 = .ok (.ifCond .eq 7, 3) := by decide +kernel
theorem dT_dropWall_21 : decode kT_dropWall 21 = .ok (.iconst 1, 1) := by decide +kernel
theorem dT_dropWall_22 : decode kT_dropWall 22 = .ok (.goto 4, 3) := by decide +kernel
theorem dT_dropWall_25 : decode kT_dropWall 25 = .ok (.iconst 0, 1) := by decide +kernel
theorem dT_dropWall_26 : decode kT_dropWall 26 = .ok (.putfield 68, 3) := by decide +kernel
theorem dT_dropWall_29 : decode kT_dropWall 29 = .ok (.iload_n 2, 1) := by decide +kernel
theorem dT_dropWall_30 : decode kT_dropWall 30 = .ok (.ireturn, 1) := by decide +kernel
theorem dT_dropAllWalls_0 : decode kT_dropAllWalls 0 = .ok (.aload_n 0, 1) := by decide +kernel
theorem dT_dropAllWalls_1 : decode kT_dropAllWalls 1 = .ok (.getfield 12, 3) := by decide +kernel
theorem dT_dropAllWalls_4 : decode kT_dropAllWalls 4 = .ok (.invokevirtual 76, 3) := by decide +kernel
theorem dT_dropAllWalls_7 : decode kT_dropAllWalls 7 = .ok (.aload_n 0, 1) := by decide +kernel
theorem dT_dropAllWalls_8 : decode kT_dropAllWalls 8 = .ok (.iconst 1, 1) := by decide +kernel
theorem dT_dropAllWalls_9 : decode kT_dropAllWalls 9 = .ok (.putfield 68, 3) := by decide +kernel
theorem dT_dropAllWalls_12 : decode kT_dropAllWalls 12 = .ok (.return_, 1) := by decide +kernel
theorem dT_grow_0 : decode kT_grow 0 = .ok (.aload_n 0, 1) := by decide +kernel
theorem dT_grow_1 : decode kT_grow 1 = .ok (.getfield 68, 3) := by decide +kernel
theorem dT_grow_4 : decode kT_grow 4 = .ok (.ifCond .ne 4, 3) := by decide +kernel
theorem dT_grow_7 : decode kT_grow 7 = .ok (.return_, 1) := by decide +kernel
theorem dT_grow_8 : decode kT_grow 8 = .ok (.aload_n 0, 1) := by decide +kernel
theorem dT_grow_9 : decode kT_grow 9 = .ok (.invokevirtual 79, 3) := by decide +kernel
theorem dT_grow_12 : decode kT_grow 12 = .ok (.iconst 0, 1) := by decide +kernel
theorem dT_grow_13 : decode kT_grow 13 = .ok (.istore_n 1, 1) := by decide +kernel
theorem dT_grow_14 : decode kT_grow 14 = .ok (.iload_n 1, 1) := by decide +kernel
theorem dT_grow_15 : decode kT_grow 15 = .ok (.bipush 64, 2) := by decide +kernel
theorem dT_grow_17 : decode kT_grow 17 = .ok (.if_icmp .ge 30, 3) := by decide +kernel
theorem dT_grow_20 : decode kT_grow 20 = .ok (.aload_n 0, 1) := by decide +kernel
theorem dT_grow_21 : decode kT_grow 21 = .ok (.getfield 12, 3) := by decide +kernel
theorem dT_grow_24 : decode kT_grow 24 = .ok (.iload_n 1, 1) := by decide +kernel
theorem dT_grow_25 : decode kT_grow 25 = .ok (.invokevirtual 56, 3) := by decide +kernel
theorem dT_grow_28 : decode kT_grow 28 = .ok (.ifnull 13, 3) := by decide +kernel
theorem dT_grow_31 : decode kT_grow 31 = .ok (.aload_n 0, 1) := by decide +kernel
theorem dT_grow_32 : decode kT_grow 32 = .ok (.getfield 50, 3) := by decide +kernel
theorem dT_grow_35 : decode kT_grow 35 = .ok (.iload_n 1, 1) := by decide +kernel
theorem dT_grow_36 : decode kT_grow 36 = .ok (.iconst (-1), 1) := by decide +kernel
theorem dT_grow_37 : decode kT_grow 37 = .ok (.iconst (-1), 1) := by decide +kernel
theorem dT_grow_38 : decode kT_grow 38 = .ok (.invokevirtual 82, 3) := by decide +kernel
theorem dT_grow_41 : decode kT_grow 41 = .ok (.iinc 1 1, 3) := by decide +kernel
theorem dT_grow_44 : decode kT_grow 44 = .ok (.goto (-30), 3) := by decide +kernel
theorem dT_grow_47 : decode kT_grow 47 = .ok (.aload_n 0, 1) := by decide +kernel
theorem dT_grow_48 : decode kT_grow 48 = .ok (.iconst 0, 1) := by decide +kernel
theorem dT_grow_49 : decode kT_grow 49 = .ok (.iconst 0, 1) := by decide +kernel
theorem dT_grow_50 : decode kT_grow 50 = .ok (.invokevirtual 85, 3) := by decide +kernel
theorem dT_grow_53 : decode kT_grow 53 = .ok (.pop, 1) := by decide +kernel
theorem dT_grow_54 : decode kT_grow 54 = .ok (.aload_n 0, 1) := by decide +kernel
theorem dT_grow_55 : decode kT_grow 55 = .ok (.iconst 0, 1) := by decide +kernel
theorem dT_grow_56 : decode kT_grow 56 = .ok (.putfield 68, 3) := by decide +kernel
theorem dT_grow_59 : decode kT_grow 59 = .ok (.return_, 1) := by decide +kernel
theorem dT_fell_0 : decode kT_fell 0 = .ok (.aload_n 0, 1) := by decide +kernel
theorem dT_fell_1 : decode kT_fell 1 = .ok (.getfield 21, 3) := by decide +kernel
theorem dT_fell_4 : decode kT_fell 4 = .ok (.iconst 0, 1) := by decide +kernel
theorem dT_fell_5 : decode kT_fell 5 = .ok (.invokevirtual 89, 3) := by decide +kernel
theorem dT_fell_8 : decode kT_fell 8 = .ok (.aload_n 0, 1) := by decide +kernel
theorem dT_fell_9 : decode kT_fell 9 = .ok (.getfield 25, 3) := by decide +kernel
theorem dT_fell_12 : decode kT_fell 12 = .ok (.iconst 0, 1) := by decide +kernel
theorem dT_fell_13 : decode kT_fell 13 = .ok (.invokevirtual 89, 3) := by decide +kernel
theorem dT_fell_16 : decode kT_fell 16 = .ok (.aload_n 0, 1) := by decide +kernel
theorem dT_fell_17 : decode kT_fell 17 = .ok (.getfield 28, 3) := by decide +kernel
theorem dT_fell_20 : decode kT_fell 20 = .ok (.iconst 0, 1) := by decide +kernel
theorem dT_fell_21 : decode kT_fell 21 = .ok (.invokevirtual 89, 3) := by decide +kernel
theorem dT_fell_24 : decode kT_fell 24 = .ok (.aload_n 0, 1) := by decide +kernel
theorem dT_fell_25 : decode kT_fell 25 = .ok (.getfield 31, 3) := by decide +kernel
theorem dT_fell_28 : decode kT_fell 28 = .ok (.iconst 0, 1) := by decide +kernel
theorem dT_fell_29 : decode kT_fell 29 = .ok (.invokevirtual 89, 3) := by decide +kernel
theorem dT_fell_32 : decode kT_fell 32 = .ok (.aload_n 0, 1) := by decide +kernel
theorem dT_fell_33 : decode kT_fell 33 = .ok (.getfield 34, 3) := by decide +kernel
theorem dT_fell_36 : decode kT_fell 36 = .ok (.iconst 0, 1) := by decide +kernel
theorem dT_fell_37 : decode kT_fell 37 = .ok (.invokevirtual 89, 3) := by decide +kernel
theorem dT_fell_40 : decode kT_fell 40 = .ok (.aload_n 0, 1) := by decide +kernel
theorem dT_fell_41 : decode kT_fell 41 = .ok (.getfield 37, 3) := by decide +kernel
theorem dT_fell_44 : decode kT_fell 44 = .ok (.iconst 0, 1) := by decide +kernel
theorem dT_fell_45 : decode kT_fell 45 = .ok (.invokevirtual 89, 3) := by decide +kernel
theorem dT_fell_48 : decode kT_fell 48 = .ok (.aload_n 0, 1) := by decide +kernel
theorem dT_fell_49 : decode kT_fell 49 = .ok (.getfield 43, 3) := by decide +kernel
theorem dT_fell_52 : decode kT_fell 52 = .ok (.iconst 0, 1) := by decide +kernel
theorem dT_fell_53 : decode kT_fell 53 = .ok (.invokevirtual 93, 3) := by decide +kernel
theorem dT_fell_56 : decode kT_fell 56 = .ok (.aload_n 0, 1) := by decide +kernel
theorem dT_fell_57 : decode kT_fell 57 = .ok (.getfield 47, 3) := by decide +kernel
theorem dT_fell_60 : decode kT_fell 60 = .ok (.iconst 0, 1) := by decide +kernel
theorem dT_fell_61 : decode kT_fell 61 = .ok (.invokevirtual 89, 3) := by decide +kernel
theorem dT_fell_64 : decode kT_fell 64 = .ok (.aload_n 0, 1) := by decide +kernel
theorem dT_fell_65 : decode kT_fell 65 = .ok (.getfield 50, 3) := by decide +kernel
theorem dT_fell_68 : decode kT_fell 68 = .ok (.iconst 0, 1) := by decide +kernel
theorem dT_fell_69 : decode kT_fell 69 = .ok (.invokevirtual 93, 3) := by decide +kernel
theorem dT_fell_72 : decode kT_fell 72 = .ok (.aload_n 0, 1) := by decide +kernel
theorem dT_fell_73 : decode kT_fell 73 = .ok (.iconst 0, 1) := by decide +kernel
theorem dT_fell_74 : decode kT_fell 74 = .ok (.putfield 94, 3) := by decide +kernel
theorem dT_fell_77 : decode kT_fell 77 = .ok (.return_, 1) := by decide +kernel
theorem dT_plant_0 : decode kT_plant 0 = .ok (.aload_n 0, 1) := by decide +kernel
theorem dT_plant_1 : decode kT_plant 1 = .ok (.getfield 50, 3) := by decide +kernel
theorem dT_plant_4 : decode kT_plant 4 = .ok (.invokevirtual 98, 3) := by decide +kernel
theorem dT_plant_7 : decode kT_plant 7 = .ok (.iload_n 1, 1) := by decide +kernel
theorem dT_plant_8 : decode kT_plant 8 = .ok (.if_icmp .le 9, 3) := by decide +kernel
theorem dT_plant_11 : decode kT_plant 11 = .ok (.iload_n 2, 1) := by decide +kernel
theorem dT_plant_12 : decode kT_plant 12 = .ok (.bipush 64, 2) := by decide +kernel
theorem dT_plant_14 : decode kT_plant 14 = .ok (.if_icmp .lt 13, 3) := by decide +kernel
theorem dT_plant_17 : decode kT_plant 17 = .ok (.aload_n 0, 1) := by decide +kernel
theorem dT_plant_18 : decode kT_plant 18 = .ok (.getfield 50, 3) := by decide +kernel
theorem dT_plant_21 : decode kT_plant 21 = .ok (.iload_n 1, 1) := by decide +kernel
theorem dT_plant_22 : decode kT_plant 22 = .ok (.invokevirtual 93, 3) := by decide +kernel
theorem dT_plant_25 : decode kT_plant 25 = .ok (.iconst (-1), 1) := by decide +kernel
theorem dT_plant_26 : decode kT_plant 26 = .ok (.ireturn, 1) := by decide +kernel
theorem dT_plant_27 : decode kT_plant 27 = .ok (.aload_n 0, 1) := by decide +kernel
theorem dT_plant_28 : decode kT_plant 28 = .ok (.getfield 21, 3) := by decide +kernel
theorem dT_plant_31 : decode kT_plant 31 = .ok (.invokevirtual 99, 3) := by decide +kernel
theorem dT_plant_34 : decode kT_plant 34 = .ok (.istore_n 3, 1) := by decide +kernel
theorem dT_plant_35 : decode kT_plant 35 = .ok (.aload_n 0, 1) := by decide +kernel
theorem dT_plant_36 : decode kT_plant 36 = .ok (.iload_n 1, 1) := by decide +kernel
theorem dT_plant_37 : decode kT_plant 37 = .ok (.invokevirtual 100, 3) := by decide +kernel
theorem dT_plant_40 : decode kT_plant 40 = .ok (.istore 4, 2) := by decide +kernel
theorem dT_plant_42 : decode kT_plant 42 = .ok (.aload_n 0, 1) := by decide +kernel
theorem dT_plant_43 : decode kT_plant 43 = .ok (.getfield 21, 3) := by decide +kernel
theorem dT_plant_46 : decode kT_plant 46 = .ok (.iload 4, 2) := by decide +kernel
theorem dT_plant_48 : decode kT_plant 48 = .ok (.invokevirtual 104, 3) := by decide +kernel
theorem dT_plant_51 : decode kT_plant 51 = .ok (.aload_n 0, 1) := by decide +kernel
theorem dT_plant_52 : decode kT_plant 52 = .ok (.getfield 34, 3) := by decide +kernel
theorem dT_plant_55 : decode kT_plant 55 = .ok (.iload_n 2, 1) := by decide +kernel
theorem dT_plant_56 : decode kT_plant 56 = .ok (.invokevirtual 104, 3) := by decide +kernel
theorem dT_plant_59 : decode kT_plant 59 = .ok (.aload_n 0, 1) := by decide +kernel
theorem dT_plant_60 : decode kT_plant 60 = .ok (.getfield 37, 3) := by decide +kernel
theorem dT_plant_63 : decode kT_plant 63 = .ok (.aload_n 0, 1) := by decide +kernel
theorem dT_plant_64 : decode kT_plant 64 = .ok (.getfield 43, 3) := by decide +kernel
theorem dT_plant_67 : decode kT_plant 67 = .ok (.invokevirtual 98, 3) := by decide +kernel
theorem dT_plant_70 : decode kT_plant 70 = .ok (.invokevirtual 104, 3) := by decide +kernel
theorem dT_plant_73 : decode kT_plant 73 = .ok (.aload_n 0, 1) := by decide +kernel
theorem dT_plant_74 : decode kT_plant 74 = .ok (.getfield 25, 3) := by decide +kernel
theorem dT_plant_77 : decode kT_plant 77 = .ok (.iconst (-1), 1) := by decide +kernel
theorem dT_plant_78 : decode kT_plant 78 = .ok (.invokevirtual 104, 3) := by decide +kernel
theorem dT_plant_81 : decode kT_plant 81 = .ok (.aload_n 0, 1) := by decide +kernel
theorem dT_plant_82 : decode kT_plant 82 = .ok (.getfield 28, 3) := by decide +kernel
theorem dT_plant_85 : decode kT_plant 85 = .ok (.iconst (-1), 1) := by decide +kernel
theorem dT_plant_86 : decode kT_plant 86 = .ok (.invokevirtual 104, 3) := by decide +kernel
theorem dT_plant_89 : decode kT_plant 89 = .ok (.aload_n 0, 1) := by decide +kernel
theorem dT_plant_90 : decode kT_plant 90 = .ok (.getfield 31, 3) := by decide +kernel
theorem dT_plant_93 : decode kT_plant 93 = .ok (.iconst 0, 1) := by decide +kernel
theorem dT_plant_94 : decode kT_plant 94 = .ok (.invokevirtual 104, 3) := by decide +kernel
theorem dT_plant_97 : decode kT_plant 97 = .ok (.aload_n 0, 1) := by decide +kernel
theorem dT_plant_98 : decode kT_plant 98 = .ok (.aload_n 0, 1) := by decide +kernel
theorem dT_plant_99 : decode kT_plant 99 = .ok (.getfield 94, 3) := by decide +kernel
theorem dT_plant_102 : decode kT_plant 102 = .ok (.iload_n 2, 1) := by decide +kernel
theorem dT_plant_103 : decode kT_plant 103 = .ok (.iconst 1, 1) := by decide +kernel
theorem dT_plant_104 : decode kT_plant 104 = .ok (.iadd, 1) := by decide +kernel
theorem dT_plant_105 : decode kT_plant 105 = .ok (.invokestatic 106, 3) := by decide +kernel
theorem dT_plant_108 : decode kT_plant 108 = .ok (.putfield 94, 3) := by decide +kernel
theorem dT_plant_111 : decode kT_plant 111 = .ok (.aload_n 0, 1) := by decide +kernel
theorem dT_plant_112 : decode kT_plant 112 = .ok (.iload_n 1, 1) := by decide +kernel
theorem dT_plant_113 : decode kT_plant 113 = .ok (.iload 4, 2) := by decide +kernel
theorem dT_plant_115 : decode kT_plant 115 = .ok (.iload_n 3, 1) := by decide +kernel
theorem dT_plant_116 : decode kT_plant 116 = .ok (.invokevirtual 111, 3) := by decide +kernel
theorem dT_plant_119 : decode kT_plant 119 = .ok (.istore 5, 2) := by decide +kernel
theorem dT_plant_121 : decode kT_plant 121 = .ok (.aload_n 0, 1) := by decide +kernel
theorem dT_plant_122 : decode kT_plant 122 = .ok (.getfield 25, 3) := by decide +kernel
theorem dT_plant_125 : decode kT_plant 125 = .ok (.iload_n 3, 1) := by decide +kernel
theorem dT_plant_126 : decode kT_plant 126 = .ok (.aload_n 0, 1) := by decide +kernel
theorem dT_plant_127 : decode kT_plant 127 = .ok (.iload 5, 2) := by decide +kernel
theorem dT_plant_129 : decode kT_plant 129 = .ok (.iload_n 2, 1) := by decide +kernel
theorem dT_plant_130 : decode kT_plant 130 = .ok (.iconst 1, 1) := by decide +kernel
theorem dT_plant_131 : decode kT_plant 131 = .ok (.iadd, 1) := by decide +kernel
theorem dT_plant_132 : decode kT_plant 132 = .ok (.invokevirtual 85, 3) := by decide +kernel
theorem dT_plant_135 : decode kT_plant 135 = .ok (.invokevirtual 115, 3) := by decide +kernel
theorem dT_plant_138 : decode kT_plant 138 = .ok (.aload_n 0, 1) := by decide +kernel
theorem dT_plant_139 : decode kT_plant 139 = .ok (.getfield 28, 3) := by decide +kernel
theorem dT_plant_142 : decode kT_plant 142 = .ok (.iload_n 3, 1) := by decide +kernel
theorem dT_plant_143 : decode kT_plant 143 = .ok (.aload_n 0, 1) := by decide +kernel
theorem dT_plant_144 : decode kT_plant 144 = .ok (.iload_n 1, 1) := by decide +kernel
theorem dT_plant_145 : decode kT_plant 145 = .ok (.iload_n 2, 1) := by decide +kernel
theorem dT_plant_146 : decode kT_plant 146 = .ok (.iconst 1, 1) := by decide +kernel
theorem dT_plant_147 : decode kT_plant 147 = .ok (.iadd, 1) := by decide +kernel
theorem dT_plant_148 : decode kT_plant 148 = .ok (.invokevirtual 85, 3) := by decide +kernel
theorem dT_plant_151 : decode kT_plant 151 = .ok (.invokevirtual 115, 3) := by decide +kernel
theorem dT_plant_154 : decode kT_plant 154 = .ok (.aload_n 0, 1) := by decide +kernel
theorem dT_plant_155 : decode kT_plant 155 = .ok (.getfield 31, 3) := by decide +kernel
theorem dT_plant_158 : decode kT_plant 158 = .ok (.iload_n 3, 1) := by decide +kernel
theorem dT_plant_159 : decode kT_plant 159 = .ok (.aload_n 0, 1) := by decide +kernel
theorem dT_plant_160 : decode kT_plant 160 = .ok (.getfield 21, 3) := by decide +kernel
theorem dT_plant_163 : decode kT_plant 163 = .ok (.invokevirtual 99, 3) := by decide +kernel
theorem dT_plant_166 : decode kT_plant 166 = .ok (.iload_n 3, 1) := by decide +kernel
theorem dT_plant_167 : decode kT_plant 167 = .ok (.isub, 1) := by decide +kernel
theorem dT_plant_168 : decode kT_plant 168 = .ok (.invokevirtual 115, 3) := by decide +kernel
theorem dT_plant_171 : decode kT_plant 171 = .ok (.iload_n 3, 1) := by decide +kernel
theorem dT_plant_172 : decode kT_plant 172 = .ok (.ireturn, 1) := by decide +kernel
theorem dT_bestLine_0 : decode kT_bestLine 0 = .ok (.aload_n 0, 1) := by decide +kernel
theorem dT_bestLine_1 : decode kT_bestLine 1 = .ok (.getfield 50, 3) := by decide +kernel
theorem dT_bestLine_4 : decode kT_bestLine 4 = .ok (.invokevirtual 98, 3) := by decide +kernel
theorem dT_bestLine_7 : decode kT_bestLine 7 = .ok (.istore_n 2, 1) := by decide +kernel
theorem dT_bestLine_8 : decode kT_bestLine 8 = .ok (.iconst (-1), 1) := by decide +kernel
theorem dT_bestLine_9 : decode kT_bestLine 9 = .ok (.istore_n 3, 1) := by decide +kernel
theorem dT_bestLine_10 : decode kT_bestLine 10 = .ok (.iconst 0, 1) := by decide +kernel
theorem dT_bestLine_11 : decode kT_bestLine 11 = .ok (.istore 4, 2) := by decide +kernel
theorem dT_bestLine_13 : decode kT_bestLine 13 = .ok (.iload_n 1, 1) := by decide +kernel
theorem dT_bestLine_14 : decode kT_bestLine 14 = .ok (.istore 5, 2) := by decide +kernel
theorem dT_bestLine_16 : decode kT_bestLine 16 = .ok (.iload 5, 2) := by decide +kernel
theorem dT_bestLine_18 : decode kT_bestLine 18 = .ok (.iload_n 2, 1) := by decide +kernel
theorem dT_bestLine_19 : decode kT_bestLine 19 = .ok (.if_icmp .ge 141, 3) := by decide +kernel
theorem dT_bestLine_22 : decode kT_bestLine 22 = .ok (.iload 5, 2) := by decide +kernel
theorem dT_bestLine_24 : decode kT_bestLine 24 = .ok (.iload_n 1, 1) := by decide +kernel
theorem dT_bestLine_25 : decode kT_bestLine 25 = .ok (.bipush 16, 2) := by decide +kernel
theorem dT_bestLine_27 : decode kT_bestLine 27 = .ok (.iadd, 1) := by decide +kernel
theorem dT_bestLine_28 : decode kT_bestLine 28 = .ok (.if_icmp .ge 132, 3) := by decide +kernel
theorem dT_bestLine_31 : decode kT_bestLine 31 = .ok (.aload_n 0, 1) := by decide +kernel
theorem dT_bestLine_32 : decode kT_bestLine 32 = .ok (.getfield 50, 3) := by decide +kernel
theorem dT_bestLine_35 : decode kT_bestLine 35 = .ok (.iload 5, 2) := by decide +kernel
theorem dT_bestLine_37 : decode kT_bestLine 37 = .ok (.invokevirtual 119, 3) := by decide +kernel
theorem dT_bestLine_40 : decode kT_bestLine 40 = .ok (.istore 6, 2) := by decide +kernel
theorem dT_bestLine_42 : decode kT_bestLine 42 = .ok (.iconst 0, 1) := by decide +kernel
theorem dT_bestLine_43 : decode kT_bestLine 43 = .ok (.istore 7, 2) := by decide +kernel
theorem dT_bestLine_45 : decode kT_bestLine 45 = .ok (.iconst 0, 1) := by decide +kernel
theorem dT_bestLine_46 : decode kT_bestLine 46 = .ok (.istore 8, 2) := by decide +kernel
theorem dT_bestLine_48 : decode kT_bestLine 48 = .ok (.iload_n 1, 1) := by decide +kernel
theorem dT_bestLine_49 : decode kT_bestLine 49 = .ok (.istore 9, 2) := by decide +kernel
theorem dT_bestLine_51 : decode kT_bestLine 51 = .ok (.iload 9, 2) := by decide +kernel
theorem dT_bestLine_53 : decode kT_bestLine 53 = .ok (.iload_n 2, 1) := by decide +kernel
theorem dT_bestLine_54 : decode kT_bestLine 54 = .ok (.if_icmp .ge 69, 3) := by decide +kernel
theorem dT_bestLine_57 : decode kT_bestLine 57 = .ok (.aload_n 0, 1) := by decide +kernel
theorem dT_bestLine_58 : decode kT_bestLine 58 = .ok (.iload 6, 2) := by decide +kernel
theorem dT_bestLine_60 : decode kT_bestLine 60 = .ok (.iload 9, 2) := by decide +kernel
theorem dT_bestLine_62 : decode kT_bestLine 62 = .ok (.invokevirtual 122, 3) := by decide +kernel
theorem dT_bestLine_65 : decode kT_bestLine 65 = .ok (.istore 10, 2) := by decide +kernel
theorem dT_bestLine_67 : decode kT_bestLine 67 = .ok (.iload 7, 2) := by decide +kernel
theorem dT_bestLine_69 : decode kT_bestLine 69 = .ok (.iload 10, 2) := by decide +kernel
theorem dT_bestLine_71 : decode kT_bestLine 71 = .ok (.iconst 3, 1) := by decide +kernel
theorem dT_bestLine_72 : decode kT_bestLine 72 = .ok (.if_icmp .ne 7, 3) := by decide +kernel
theorem dT_bestLine_75 : decode kT_bestLine 75 = .ok (.iconst 1, 1) := by decide +kernel
theorem dT_bestLine_76 : decode kT_bestLine 76 = .ok (.goto 4, 3) := by decide +kernel
theorem dT_bestLine_79 : decode kT_bestLine 79 = .ok (.iconst 0, 1) := by decide +kernel
theorem dT_bestLine_80 : decode kT_bestLine 80 = .ok (.iadd, 1) := by decide +kernel
theorem dT_bestLine_81 : decode kT_bestLine 81 = .ok (.istore 7, 2) := by decide +kernel
theorem dT_bestLine_83 : decode kT_bestLine 83 = .ok (.iload 8, 2) := by decide +kernel
theorem dT_bestLine_85 : decode kT_bestLine 85 = .ok (.iload 10, 2) := by decide +kernel
theorem dT_bestLine_87 : decode kT_bestLine 87 = .ok (.iconst 1, 1) := by decide +kernel
theorem dT_bestLine_88 : decode kT_bestLine 88 = .ok (.iand, 1) := by decide +kernel
theorem dT_bestLine_89 : decode kT_bestLine 89 = .ok (.ifCond .eq 7, 3) := by decide +kernel
theorem dT_bestLine_92 : decode kT_bestLine 92 = .ok (.iconst 1, 1) := by decide +kernel
theorem dT_bestLine_93 : decode kT_bestLine 93 = .ok (.goto 4, 3) := by decide +kernel
theorem dT_bestLine_96 : decode kT_bestLine 96 = .ok (.iconst 0, 1) := by decide +kernel
theorem dT_bestLine_97 : decode kT_bestLine 97 = .ok (.iadd, 1) := by decide +kernel
theorem dT_bestLine_98 : decode kT_bestLine 98 = .ok (.istore 8, 2) := by decide +kernel
theorem dT_bestLine_100 : decode kT_bestLine 100 = .ok (.iload 8, 2) := by decide +kernel
theorem dT_bestLine_102 : decode kT_bestLine 102 = .ok (.iload 10, 2) := by decide +kernel
theorem dT_bestLine_104 : decode kT_bestLine 104 = .ok (.iconst 2, 1) := by decide +kernel
theorem dT_bestLine_105 : decode kT_bestLine 105 = .ok (.iand, 1) := by decide +kernel
theorem dT_bestLine_106 : decode kT_bestLine 106 = .ok (.ifCond .eq 7, 3) := by decide +kernel
theorem dT_bestLine_109 : decode kT_bestLine 109 = .ok (.iconst 1, 1) := by decide +kernel
theorem dT_bestLine_110 : decode kT_bestLine 110 = .ok (.goto 4, 3) := by decide +kernel
theorem dT_bestLine_113 : decode kT_bestLine 113 = .ok (.iconst 0, 1) := by decide +kernel
theorem dT_bestLine_114 : decode kT_bestLine 114 = .ok (.isub, 1) := by decide +kernel
theorem dT_bestLine_115 : decode kT_bestLine 115 = .ok (.istore 8, 2) := by decide +kernel
theorem dT_bestLine_117 : decode kT_bestLine 117 = .ok (.iinc 9 1, 3) := by decide +kernel
theorem dT_bestLine_120 : decode kT_bestLine 120 = .ok (.goto (-69), 3) := by decide +kernel
theorem dT_bestLine_123 : decode kT_bestLine 123 = .ok (.iconst 4, 1) := by decide +kernel
theorem dT_bestLine_124 : decode kT_bestLine 124 = .ok (.iload 7, 2) := by decide +kernel
theorem dT_bestLine_126 : decode kT_bestLine 126 = .ok (.imul, 1) := by decide +kernel
theorem dT_bestLine_127 : decode kT_bestLine 127 = .ok (.iload 8, 2) := by decide +kernel
theorem dT_bestLine_129 : decode kT_bestLine 129 = .ok (.invokestatic 125, 3) := by decide +kernel
theorem dT_bestLine_132 : decode kT_bestLine 132 = .ok (.iadd, 1) := by decide +kernel
theorem dT_bestLine_133 : decode kT_bestLine 133 = .ok (.istore 9, 2) := by decide +kernel
theorem dT_bestLine_135 : decode kT_bestLine 135 = .ok (.iload_n 3, 1) := by decide +kernel
theorem dT_bestLine_136 : decode kT_bestLine 136 = .ok (.iconst (-1), 1) := by decide +kernel
theorem dT_bestLine_137 : decode kT_bestLine 137 = .ok (.if_icmp .eq 10, 3) := by decide +kernel
theorem dT_bestLine_140 : decode kT_bestLine 140 = .ok (.iload 9, 2) := by decide +kernel
theorem dT_bestLine_142 : decode kT_bestLine 142 = .ok (.iload 4, 2) := by decide +kernel
theorem dT_bestLine_144 : decode kT_bestLine 144 = .ok (.if_icmp .ge 10, 3) := by decide +kernel
theorem dT_bestLine_147 : decode kT_bestLine 147 = .ok (.iload 9, 2) := by decide +kernel
theorem dT_bestLine_149 : decode kT_bestLine 149 = .ok (.istore 4, 2) := by decide +kernel
theorem dT_bestLine_151 : decode kT_bestLine 151 = .ok (.iload 6, 2) := by decide +kernel
theorem dT_bestLine_153 : decode kT_bestLine 153 = .ok (.istore_n 3, 1) := by decide +kernel
theorem dT_bestLine_154 : decode kT_bestLine 154 = .ok (.iinc 5 1, 3) := by decide +kernel
theorem dT_bestLine_157 : decode kT_bestLine 157 = .ok (.goto (-141), 3) := by decide +kernel
theorem dT_bestLine_160 : decode kT_bestLine 160 = .ok (.iload_n 3, 1) := by decide +kernel
theorem dT_bestLine_161 : decode kT_bestLine 161 = .ok (.ireturn, 1) := by decide +kernel
theorem dT_whereLies_0 : decode kT_whereLies 0 = .ok (.aload_n 0, 1) := by decide +kernel
theorem dT_whereLies_1 : decode kT_whereLies 1 = .ok (.getfield 50, 3) := by decide +kernel
theorem dT_whereLies_4 : decode kT_whereLies 4 = .ok (.iload_n 2, 1) := by decide +kernel
theorem dT_whereLies_5 : decode kT_whereLies 5 = .ok (.invokevirtual 119, 3) := by decide +kernel
theorem dT_whereLies_8 : decode kT_whereLies 8 = .ok (.istore_n 3, 1) := by decide +kernel
theorem dT_whereLies_9 : decode kT_whereLies 9 = .ok (.aload_n 0, 1) := by decide +kernel
theorem dT_whereLies_10 : decode kT_whereLies 10 = .ok (.iload_n 1, 1) := by decide +kernel
theorem dT_whereLies_11 : decode kT_whereLies 11 = .ok (.iload_n 3, 1) := by decide +kernel
theorem dT_whereLies_12 : decode kT_whereLies 12 = .ok (.aload_n 0, 1) := by decide +kernel
theorem dT_whereLies_13 : decode kT_whereLies 13 = .ok (.getfield 50, 3) := by decide +kernel
theorem dT_whereLies_16 : decode kT_whereLies 16 = .ok (.iload_n 2, 1) := by decide +kernel
theorem dT_whereLies_17 : decode kT_whereLies 17 = .ok (.invokevirtual 128, 3) := by decide +kernel
theorem dT_whereLies_20 : decode kT_whereLies 20 = .ok (.iconst 0, 1) := by decide +kernel
theorem dT_whereLies_21 : decode kT_whereLies 21 = .ok (.invokevirtual 134, 3) := by decide +kernel
theorem dT_whereLies_24 : decode kT_whereLies 24 = .ok (.aload_n 0, 1) := by decide +kernel
theorem dT_whereLies_25 : decode kT_whereLies 25 = .ok (.iload_n 1, 1) := by decide +kernel
theorem dT_whereLies_26 : decode kT_whereLies 26 = .ok (.iload_n 3, 1) := by decide +kernel
theorem dT_whereLies_27 : decode kT_whereLies 27 = .ok (.aload_n 0, 1) := by decide +kernel
theorem dT_whereLies_28 : decode kT_whereLies 28 = .ok (.getfield 50, 3) := by decide +kernel
theorem dT_whereLies_31 : decode kT_whereLies 31 = .ok (.iload_n 2, 1) := by decide +kernel
theorem dT_whereLies_32 : decode kT_whereLies 32 = .ok (.invokevirtual 131, 3) := by decide +kernel
theorem dT_whereLies_35 : decode kT_whereLies 35 = .ok (.iconst 1, 1) := by decide +kernel
theorem dT_whereLies_36 : decode kT_whereLies 36 = .ok (.invokevirtual 134, 3) := by decide +kernel
theorem dT_whereLies_39 : decode kT_whereLies 39 = .ok (.ior, 1) := by decide +kernel
theorem dT_whereLies_40 : decode kT_whereLies 40 = .ok (.ireturn, 1) := by decide +kernel
theorem dT_sideOfEnd_0 : decode kT_sideOfEnd 0 = .ok (.aload_n 0, 1) := by decide +kernel
theorem dT_sideOfEnd_1 : decode kT_sideOfEnd 1 = .ok (.getfield 12, 3) := by decide +kernel
theorem dT_sideOfEnd_4 : decode kT_sideOfEnd 4 = .ok (.iload_n 1, 1) := by decide +kernel
theorem dT_sideOfEnd_5 : decode kT_sideOfEnd 5 = .ok (.invokevirtual 56, 3) := by decide +kernel
theorem dT_sideOfEnd_8 : decode kT_sideOfEnd 8 = .ok (.astore 5, 2) := by decide +kernel
theorem dT_sideOfEnd_10 : decode kT_sideOfEnd 10 = .ok (.aload_n 0, 1) := by decide +kernel
theorem dT_sideOfEnd_11 : decode kT_sideOfEnd 11 = .ok (.getfield 12, 3) := by decide +kernel
theorem dT_sideOfEnd_14 : decode kT_sideOfEnd 14 = .ok (.iload_n 2, 1) := by decide +kernel
theorem dT_sideOfEnd_15 : decode kT_sideOfEnd 15 = .ok (.invokevirtual 56, 3) := by decide +kernel
theorem dT_sideOfEnd_18 : decode kT_sideOfEnd 18 = .ok (.astore 6, 2) := by decide +kernel
theorem dT_sideOfEnd_20 : decode kT_sideOfEnd 20 = .ok (.aload 5, 2) := by decide +kernel
theorem dT_sideOfEnd_22 : decode kT_sideOfEnd 22 = .ok (.ifnull 8, 3) := by decide +kernel
theorem dT_sideOfEnd_25 : decode kT_sideOfEnd 25 = .ok (.aload 6, 2) := by decide +kernel
theorem dT_sideOfEnd_27 : decode kT_sideOfEnd 27 = .ok (.ifnonnull 5, 3) := by decide +kernel
theorem dT_sideOfEnd_30 : decode kT_sideOfEnd 30 = .ok (.iconst 0, 1) := by decide +kernel
theorem dT_sideOfEnd_31 : decode kT_sideOfEnd 31 = .ok (.ireturn, 1) := by decide +kernel
theorem dT_sideOfEnd_32 : decode kT_sideOfEnd 32 = .ok (.aload 5, 2) := by decide +kernel
theorem dT_sideOfEnd_34 : decode kT_sideOfEnd 34 = .ok (.aload 6, 2) := by decide +kernel
theorem dT_sideOfEnd_36 : decode kT_sideOfEnd 36 = .ok (.getfield 141, 3) := by decide +kernel
theorem dT_sideOfEnd_39 : decode kT_sideOfEnd 39 = .ok (.aload 6, 2) := by decide +kernel
theorem dT_sideOfEnd_41 : decode kT_sideOfEnd 41 = .ok (.getfield 146, 3) := by decide +kernel
theorem dT_sideOfEnd_44 : decode kT_sideOfEnd 44 = .ok (.invokevirtual 149, 3) := by decide +kernel
theorem dT_sideOfEnd_47 : decode kT_sideOfEnd 47 = .ok (.lstore 7, 2) := by decide +kernel
theorem dT_sideOfEnd_49 : decode kT_sideOfEnd 49 = .ok (.aload 5, 2) := by decide +kernel
theorem dT_sideOfEnd_51 : decode kT_sideOfEnd 51 = .ok (.aload 6, 2) := by decide +kernel
theorem dT_sideOfEnd_53 : decode kT_sideOfEnd 53 = .ok (.getfield 153, 3) := by decide +kernel
theorem dT_sideOfEnd_56 : decode kT_sideOfEnd 56 = .ok (.aload 6, 2) := by decide +kernel
theorem dT_sideOfEnd_58 : decode kT_sideOfEnd 58 = .ok (.getfield 156, 3) := by decide +kernel
theorem dT_sideOfEnd_61 : decode kT_sideOfEnd 61 = .ok (.invokevirtual 149, 3) := by decide +kernel
theorem dT_sideOfEnd_64 : decode kT_sideOfEnd 64 = .ok (.lstore 9, 2) := by decide +kernel
theorem dT_sideOfEnd_66 : decode kT_sideOfEnd 66 = .ok (.aload_n 0, 1) := by decide +kernel
theorem dT_sideOfEnd_67 : decode kT_sideOfEnd 67 = .ok (.getfield 12, 3) := by decide +kernel
theorem dT_sideOfEnd_70 : decode kT_sideOfEnd 70 = .ok (.iload_n 3, 1) := by decide +kernel
theorem dT_sideOfEnd_71 : decode kT_sideOfEnd 71 = .ok (.invokevirtual 56, 3) := by decide +kernel
theorem dT_sideOfEnd_74 : decode kT_sideOfEnd 74 = .ok (.astore 11, 2) := by decide +kernel
theorem dT_sideOfEnd_76 : decode kT_sideOfEnd 76 = .ok (.aload 11, 2) := by decide +kernel
theorem dT_sideOfEnd_78 : decode kT_sideOfEnd 78 = .ok (.ifnonnull 19, 3) := by decide +kernel
theorem dT_sideOfEnd_81 : decode kT_sideOfEnd 81 = .ok (.iload 4, 2) := by decide +kernel
theorem dT_sideOfEnd_83 : decode kT_sideOfEnd 83 = .ok (.ifCond .eq 8, 3) := by decide +kernel
theorem dT_sideOfEnd_86 : decode kT_sideOfEnd 86 = .ok (.lload 9, 2) := by decide +kernel
theorem dT_sideOfEnd_88 : decode kT_sideOfEnd 88 = .ok (.goto 5, 3) := by decide +kernel
theorem dT_sideOfEnd_91 : decode kT_sideOfEnd 91 = .ok (.lload 7, 2) := by decide +kernel
theorem dT_sideOfEnd_93 : decode kT_sideOfEnd 93 = .ok (.invokestatic 159, 3) := by decide +kernel
theorem dT_sideOfEnd_96 : decode kT_sideOfEnd 96 = .ok (.ireturn, 1) := by decide +kernel
theorem dT_sideOfEnd_97 : decode kT_sideOfEnd 97 = .ok (.lload 7, 2) := by decide +kernel
theorem dT_sideOfEnd_99 : decode kT_sideOfEnd 99 = .ok (.lload 9, 2) := by decide +kernel
theorem dT_sideOfEnd_101 : decode kT_sideOfEnd 101 = .ok (.aload 11, 2) := by decide +kernel
theorem dT_sideOfEnd_103 : decode kT_sideOfEnd 103 = .ok (.aload 6, 2) := by decide +kernel
theorem dT_sideOfEnd_105 : decode kT_sideOfEnd 105 = .ok (.getfield 141, 3) := by decide +kernel
theorem dT_sideOfEnd_108 : decode kT_sideOfEnd 108 = .ok (.aload 6, 2) := by decide +kernel
theorem dT_sideOfEnd_110 : decode kT_sideOfEnd 110 = .ok (.getfield 146, 3) := by decide +kernel
theorem dT_sideOfEnd_113 : decode kT_sideOfEnd 113 = .ok (.invokevirtual 149, 3) := by decide +kernel
theorem dT_sideOfEnd_116 : decode kT_sideOfEnd 116 = .ok (.invokestatic 163, 3) := by decide +kernel
theorem dT_sideOfEnd_119 : decode kT_sideOfEnd 119 = .ok (.aload 11, 2) := by decide +kernel
theorem dT_sideOfEnd_121 : decode kT_sideOfEnd 121 = .ok (.aload 6, 2) := by decide +kernel
theorem dT_sideOfEnd_123 : decode kT_sideOfEnd 123 = .ok (.getfield 153, 3) := by decide +kernel
theorem dT_sideOfEnd_126 : decode kT_sideOfEnd 126 = .ok (.aload 6, 2) := by decide +kernel
theorem dT_sideOfEnd_128 : decode kT_sideOfEnd 128 = .ok (.getfield 156, 3) := by decide +kernel
theorem dT_sideOfEnd_131 : decode kT_sideOfEnd 131 = .ok (.invokevirtual 149, 3) := by decide +kernel
theorem dT_sideOfEnd_134 : decode kT_sideOfEnd 134 = .ok (.invokestatic 163, 3) := by decide +kernel
theorem dT_sideOfEnd_137 : decode kT_sideOfEnd 137 = .ok (.invokestatic 166, 3) := by decide +kernel
theorem dT_sideOfEnd_140 : decode kT_sideOfEnd 140 = .ok (.ireturn, 1) := by decide +kernel
theorem dT_sideOf_0 : decode kT_sideOf 0 = .ok (.lload_n 0, 1) := by decide +kernel
theorem dT_sideOf_1 : decode kT_sideOf 1 = .ok (.lconst 0, 1) := by decide +kernel
theorem dT_sideOf_2 : decode kT_sideOf 2 = .ok (.lcmp, 1) := by decide +kernel
theorem dT_sideOf_3 : decode kT_sideOf 3 = .ok (.ifCond .le 7, 3) := by decide +kernel
theorem dT_sideOf_6 : decode kT_sideOf 6 = .ok (.iconst 1, 1) := by decide +kernel
theorem dT_sideOf_7 : decode kT_sideOf 7 = .ok (.goto 14, 3) := by decide +kernel
theorem dT_sideOf_10 : decode kT_sideOf 10 = .ok (.lload_n 0, 1) := by decide +kernel
theorem dT_sideOf_11 : decode kT_sideOf 11 = .ok (.lconst 0, 1) := by decide +kernel
theorem dT_sideOf_12 : decode kT_sideOf 12 = .ok (.lcmp, 1) := by decide +kernel
theorem dT_sideOf_13 : decode kT_sideOf 13 = .ok (.ifCond .ge 7, 3) := by decide +kernel
theorem dT_sideOf_16 : decode kT_sideOf 16 = .ok (.iconst 2, 1) := by decide +kernel
theorem dT_sideOf_17 : decode kT_sideOf 17 = .ok (.goto 4, 3) := by decide +kernel
theorem dT_sideOf_20 : decode kT_sideOf 20 = .ok (.iconst 0, 1) := by decide +kernel
theorem dT_sideOf_21 : decode kT_sideOf 21 = .ok (.ireturn, 1) := by decide +kernel
theorem dT_sideBetween_0 : decode kT_sideBetween 0 = .ok (.lload_n 0, 1) := by decide +kernel
theorem dT_sideBetween_1 : decode kT_sideBetween 1 = .ok (.lconst 0, 1) := by decide +kernel
theorem dT_sideBetween_2 : decode kT_sideBetween 2 = .ok (.lcmp, 1) := by decide +kernel
theorem dT_sideBetween_3 : decode kT_sideBetween 3 = .ok (.ifCond .lt 27, 3) := by decide +kernel
theorem dT_sideBetween_6 : decode kT_sideBetween 6 = .ok (.lload_n 2, 1) := by decide +kernel
theorem dT_sideBetween_7 : decode kT_sideBetween 7 = .ok (.lconst 0, 1) := by decide +kernel
theorem dT_sideBetween_8 : decode kT_sideBetween 8 = .ok (.lcmp, 1) := by decide +kernel
theorem dT_sideBetween_9 : decode kT_sideBetween 9 = .ok (.ifCond .lt 21, 3) := by decide +kernel
theorem dT_sideBetween_12 : decode kT_sideBetween 12 = .ok (.lload_n 0, 1) := by decide +kernel
theorem dT_sideBetween_13 : decode kT_sideBetween 13 = .ok (.lconst 0, 1) := by decide +kernel
theorem dT_sideBetween_14 : decode kT_sideBetween 14 = .ok (.lcmp, 1) := by decide +kernel
theorem dT_sideBetween_15 : decode kT_sideBetween 15 = .ok (.ifCond .gt 9, 3) := by decide +kernel
theorem dT_sideBetween_18 : decode kT_sideBetween 18 = .ok (.lload_n 2, 1) := by decide +kernel
theorem dT_sideBetween_19 : decode kT_sideBetween 19 = .ok (.lconst 0, 1) := by decide +kernel
theorem dT_sideBetween_20 : decode kT_sideBetween 20 = .ok (.lcmp, 1) := by decide +kernel
theorem dT_sideBetween_21 : decode kT_sideBetween 21 = .ok (.ifCond .le 7, 3) := by decide +kernel
theorem dT_sideBetween_24 : decode kT_sideBetween 24 = .ok (.iconst 1, 1) := by decide +kernel
theorem dT_sideBetween_25 : decode kT_sideBetween 25 = .ok (.goto 4, 3) := by decide +kernel
theorem dT_sideBetween_28 : decode kT_sideBetween 28 = .ok (.iconst 0, 1) := by decide +kernel
theorem dT_sideBetween_29 : decode kT_sideBetween 29 = .ok (.ireturn, 1) := by decide +kernel
theorem dT_sideBetween_30 : decode kT_sideBetween 30 = .ok (.lload_n 0, 1) := by decide +kernel
theorem dT_sideBetween_31 : decode kT_sideBetween 31 = .ok (.lconst 0, 1) := by decide +kernel
theorem dT_sideBetween_32 : decode kT_sideBetween 32 = .ok (.lcmp, 1) := by decide +kernel
theorem dT_sideBetween_33 : decode kT_sideBetween 33 = .ok (.ifCond .gt 11, 3) := by decide +kernel
theorem dT_sideBetween_36 : decode kT_sideBetween 36 = .ok (.lload_n 2, 1) := by decide +kernel
theorem dT_sideBetween_37 : decode kT_sideBetween 37 = .ok (.lconst 0, 1) := by decide +kernel
theorem dT_sideBetween_38 : decode kT_sideBetween 38 = .ok (.lcmp, 1) := by decide +kernel
theorem dT_sideBetween_39 : decode kT_sideBetween 39 = .ok (.ifCond .gt 5, 3) := by decide +kernel
theorem dT_sideBetween_42 : decode kT_sideBetween 42 = .ok (.iconst 2, 1) := by decide +kernel
theorem dT_sideBetween_43 : decode kT_sideBetween 43 = .ok (.ireturn, 1) := by decide +kernel
theorem dT_sideBetween_44 : decode kT_sideBetween 44 = .ok (.ldc2_w 170, 3) := by decide +kernel
theorem dT_sideBetween_47 : decode kT_sideBetween 47 = .ok (.lstore 8, 2) := by decide +kernel
theorem dT_sideBetween_49 : decode kT_sideBetween 49 = .ok (.lload_n 0, 1) := by decide +kernel
theorem dT_sideBetween_50 : decode kT_sideBetween 50 = .ok (.invokestatic 163, 3) := by decide +kernel
theorem dT_sideBetween_53 : decode kT_sideBetween 53 = .ok (.lload 6, 2) := by decide +kernel
theorem dT_sideBetween_55 : decode kT_sideBetween 55 = .ok (.lmul, 1) := by decide +kernel
theorem dT_sideBetween_56 : decode kT_sideBetween 56 = .ok (.lload 8, 2) := by decide +kernel
theorem dT_sideBetween_58 : decode kT_sideBetween 58 = .ok (.lxor, 1) := by decide +kernel
theorem dT_sideBetween_59 : decode kT_sideBetween 59 = .ok (.lstore 10, 2) := by decide +kernel
theorem dT_sideBetween_61 : decode kT_sideBetween 61 = .ok (.lload_n 2, 1) := by decide +kernel
theorem dT_sideBetween_62 : decode kT_sideBetween 62 = .ok (.invokestatic 163, 3) := by decide +kernel
theorem dT_sideBetween_65 : decode kT_sideBetween 65 = .ok (.lload 4, 2) := by decide +kernel
theorem dT_sideBetween_67 : decode kT_sideBetween 67 = .ok (.lmul, 1) := by decide +kernel
theorem dT_sideBetween_68 : decode kT_sideBetween 68 = .ok (.lload 8, 2) := by decide +kernel
theorem dT_sideBetween_70 : decode kT_sideBetween 70 = .ok (.lxor, 1) := by decide +kernel
theorem dT_sideBetween_71 : decode kT_sideBetween 71 = .ok (.lstore 12, 2) := by decide +kernel
theorem dT_sideBetween_73 : decode kT_sideBetween 73 = .ok (.lload 10, 2) := by decide +kernel
theorem dT_sideBetween_75 : decode kT_sideBetween 75 = .ok (.lload 12, 2) := by decide +kernel
theorem dT_sideBetween_77 : decode kT_sideBetween 77 = .ok (.lcmp, 1) := by decide +kernel
theorem dT_sideBetween_78 : decode kT_sideBetween 78 = .ok (.ifCond .ne 5, 3) := by decide +kernel
theorem dT_sideBetween_81 : decode kT_sideBetween 81 = .ok (.iconst 0, 1) := by decide +kernel
theorem dT_sideBetween_82 : decode kT_sideBetween 82 = .ok (.ireturn, 1) := by decide +kernel
theorem dT_sideBetween_83 : decode kT_sideBetween 83 = .ok (.lload_n 0, 1) := by decide +kernel
theorem dT_sideBetween_84 : decode kT_sideBetween 84 = .ok (.lconst 0, 1) := by decide +kernel
theorem dT_sideBetween_85 : decode kT_sideBetween 85 = .ok (.lcmp, 1) := by decide +kernel
theorem dT_sideBetween_86 : decode kT_sideBetween 86 = .ok (.ifCond .le 7, 3) := by decide +kernel
theorem dT_sideBetween_89 : decode kT_sideBetween 89 = .ok (.iconst 1, 1) := by decide +kernel
theorem dT_sideBetween_90 : decode kT_sideBetween 90 = .ok (.goto 4, 3) := by decide +kernel
theorem dT_sideBetween_93 : decode kT_sideBetween 93 = .ok (.iconst 0, 1) := by decide +kernel
theorem dT_sideBetween_94 : decode kT_sideBetween 94 = .ok (.lload 10, 2) := by decide +kernel
theorem dT_sideBetween_96 : decode kT_sideBetween 96 = .ok (.lload 12, 2) := by decide +kernel
theorem dT_sideBetween_98 : decode kT_sideBetween 98 = .ok (.lcmp, 1) := by decide +kernel
theorem dT_sideBetween_99 : decode kT_sideBetween 99 = .ok (.ifCond .le 7, 3) := by decide +kernel
theorem dT_sideBetween_102 : decode kT_sideBetween 102 = .ok (.iconst 1, 1) := by decide +kernel
theorem dT_sideBetween_103 : decode kT_sideBetween 103 = .ok (.goto 4, 3) := by decide +kernel
theorem dT_sideBetween_106 : decode kT_sideBetween 106 = .ok (.iconst 0, 1) := by decide +kernel
theorem dT_sideBetween_107 : decode kT_sideBetween 107 = .ok (.if_icmp .ne 7, 3) := by decide +kernel
theorem dT_sideBetween_110 : decode kT_sideBetween 110 = .ok (.iconst 1, 1) := by decide +kernel
theorem dT_sideBetween_111 : decode kT_sideBetween 111 = .ok (.goto 4, 3) := by decide +kernel
theorem dT_sideBetween_114 : decode kT_sideBetween 114 = .ok (.iconst 2, 1) := by decide +kernel
theorem dT_sideBetween_115 : decode kT_sideBetween 115 = .ok (.ireturn, 1) := by decide +kernel
theorem dT_divide_0 : decode kT_divide 0 = .ok (.aload_n 0, 1) := by decide +kernel
theorem dT_divide_1 : decode kT_divide 1 = .ok (.getfield 50, 3) := by decide +kernel
theorem dT_divide_4 : decode kT_divide 4 = .ok (.invokevirtual 98, 3) := by decide +kernel
theorem dT_divide_7 : decode kT_divide 7 = .ok (.istore 4, 2) := by decide +kernel
theorem dT_divide_9 : decode kT_divide 9 = .ok (.iload_n 1, 1) := by decide +kernel
theorem dT_divide_10 : decode kT_divide 10 = .ok (.istore 5, 2) := by decide +kernel
theorem dT_divide_12 : decode kT_divide 12 = .ok (.aload_n 0, 1) := by decide +kernel
theorem dT_divide_13 : decode kT_divide 13 = .ok (.getfield 53, 3) := by decide +kernel
theorem dT_divide_16 : decode kT_divide 16 = .ok (.iconst 0, 1) := by decide +kernel
theorem dT_divide_17 : decode kT_divide 17 = .ok (.invokevirtual 93, 3) := by decide +kernel
theorem dT_divide_20 : decode kT_divide 20 = .ok (.iload_n 1, 1) := by decide +kernel
theorem dT_divide_21 : decode kT_divide 21 = .ok (.istore 6, 2) := by decide +kernel
theorem dT_divide_23 : decode kT_divide 23 = .ok (.iload 6, 2) := by decide +kernel
theorem dT_divide_25 : decode kT_divide 25 = .ok (.iload 4, 2) := by decide +kernel
theorem dT_divide_27 : decode kT_divide 27 = .ok (.if_icmp .ge 210, 3) := by decide +kernel
theorem dT_divide_30 : decode kT_divide 30 = .ok (.aload_n 0, 1) := by decide +kernel
theorem dT_divide_31 : decode kT_divide 31 = .ok (.getfield 50, 3) := by decide +kernel
theorem dT_divide_34 : decode kT_divide 34 = .ok (.iload 6, 2) := by decide +kernel
theorem dT_divide_36 : decode kT_divide 36 = .ok (.invokevirtual 119, 3) := by decide +kernel
theorem dT_divide_39 : decode kT_divide 39 = .ok (.istore 7, 2) := by decide +kernel
theorem dT_divide_41 : decode kT_divide 41 = .ok (.aload_n 0, 1) := by decide +kernel
theorem dT_divide_42 : decode kT_divide 42 = .ok (.getfield 50, 3) := by decide +kernel
theorem dT_divide_45 : decode kT_divide 45 = .ok (.iload 6, 2) := by decide +kernel
theorem dT_divide_47 : decode kT_divide 47 = .ok (.invokevirtual 128, 3) := by decide +kernel
theorem dT_divide_50 : decode kT_divide 50 = .ok (.istore 8, 2) := by decide +kernel
theorem dT_divide_52 : decode kT_divide 52 = .ok (.aload_n 0, 1) := by decide +kernel
theorem dT_divide_53 : decode kT_divide 53 = .ok (.getfield 50, 3) := by decide +kernel
theorem dT_divide_56 : decode kT_divide 56 = .ok (.iload 6, 2) := by decide +kernel
theorem dT_divide_58 : decode kT_divide 58 = .ok (.invokevirtual 131, 3) := by decide +kernel
theorem dT_divide_61 : decode kT_divide 61 = .ok (.istore 9, 2) := by decide +kernel
theorem dT_divide_63 : decode kT_divide 63 = .ok (.aload_n 0, 1) := by decide +kernel
theorem dT_divide_64 : decode kT_divide 64 = .ok (.iload_n 2, 1) := by decide +kernel
theorem dT_divide_65 : decode kT_divide 65 = .ok (.iload 6, 2) := by decide +kernel
theorem dT_divide_67 : decode kT_divide 67 = .ok (.invokevirtual 122, 3) := by decide +kernel
theorem dT_divide_70 : decode kT_divide 70 = .ok (.istore 10, 2) := by decide +kernel
theorem dT_divide_72 : decode kT_divide 72 = .ok (.iload 10, 2) := by decide +kernel
theorem dT_divide_74 : decode kT_divide 74 = .ok (.ifCond .ne 27, 3) := by decide +kernel
theorem dT_divide_77 : decode kT_divide 77 = .ok (.aload_n 0, 1) := by decide +kernel
theorem dT_divide_78 : decode kT_divide 78 = .ok (.getfield 43, 3) := by decide +kernel
theorem dT_divide_81 : decode kT_divide 81 = .ok (.iload 7, 2) := by decide +kernel
theorem dT_divide_83 : decode kT_divide 83 = .ok (.iload 8, 2) := by decide +kernel
theorem dT_divide_85 : decode kT_divide 85 = .ok (.iload 9, 2) := by decide +kernel
theorem dT_divide_87 : decode kT_divide 87 = .ok (.invokevirtual 82, 3) := by decide +kernel
theorem dT_divide_90 : decode kT_divide 90 = .ok (.aload_n 0, 1) := by decide +kernel
theorem dT_divide_91 : decode kT_divide 91 = .ok (.getfield 47, 3) := by decide +kernel
theorem dT_divide_94 : decode kT_divide 94 = .ok (.iload_n 3, 1) := by decide +kernel
theorem dT_divide_95 : decode kT_divide 95 = .ok (.invokevirtual 104, 3) := by decide +kernel
theorem dT_divide_98 : decode kT_divide 98 = .ok (.goto 133, 3) := by decide +kernel
theorem dT_divide_101 : decode kT_divide 101 = .ok (.iload 10, 2) := by decide +kernel
theorem dT_divide_103 : decode kT_divide 103 = .ok (.iconst 3, 1) := by decide +kernel
theorem dT_divide_104 : decode kT_divide 104 = .ok (.if_icmp .ne 7, 3) := by decide +kernel
theorem dT_divide_107 : decode kT_divide 107 = .ok (.iconst 1, 1) := by decide +kernel
theorem dT_divide_108 : decode kT_divide 108 = .ok (.goto 4, 3) := by decide +kernel
theorem dT_divide_111 : decode kT_divide 111 = .ok (.iconst 0, 1) := by decide +kernel
theorem dT_divide_112 : decode kT_divide 112 = .ok (.istore 11, 2) := by decide +kernel
theorem dT_divide_114 : decode kT_divide 114 = .ok (.iload 11, 2) := by decide +kernel
theorem dT_divide_116 : decode kT_divide 116 = .ok (.ifCond .eq 21, 3) := by decide +kernel
theorem dT_divide_119 : decode kT_divide 119 = .ok (.aload_n 0, 1) := by decide +kernel
theorem dT_divide_120 : decode kT_divide 120 = .ok (.iload_n 2, 1) := by decide +kernel
theorem dT_divide_121 : decode kT_divide 121 = .ok (.iload 7, 2) := by decide +kernel
theorem dT_divide_123 : decode kT_divide 123 = .ok (.iload 8, 2) := by decide +kernel
theorem dT_divide_125 : decode kT_divide 125 = .ok (.iconst 0, 1) := by decide +kernel
theorem dT_divide_126 : decode kT_divide 126 = .ok (.invokevirtual 134, 3) := by decide +kernel
theorem dT_divide_129 : decode kT_divide 129 = .ok (.iconst 1, 1) := by decide +kernel
theorem dT_divide_130 : decode kT_divide 130 = .ok (.if_icmp .ne 7, 3) := by decide +kernel
theorem dT_divide_133 : decode kT_divide 133 = .ok (.iconst 1, 1) := by decide +kernel
theorem dT_divide_134 : decode kT_divide 134 = .ok (.goto 4, 3) := by decide +kernel
theorem dT_divide_137 : decode kT_divide 137 = .ok (.iconst 0, 1) := by decide +kernel
theorem dT_divide_138 : decode kT_divide 138 = .ok (.istore 12, 2) := by decide +kernel
theorem dT_divide_140 : decode kT_divide 140 = .ok (.iload 10, 2) := by decide +kernel
theorem dT_divide_142 : decode kT_divide 142 = .ok (.iconst 1, 1) := by decide +kernel
theorem dT_divide_143 : decode kT_divide 143 = .ok (.iand, 1) := by decide +kernel
theorem dT_divide_144 : decode kT_divide 144 = .ok (.ifCond .eq 39, 3) := by decide +kernel
theorem dT_divide_147 : decode kT_divide 147 = .ok (.aload_n 0, 1) := by decide +kernel
theorem dT_divide_148 : decode kT_divide 148 = .ok (.getfield 53, 3) := by decide +kernel
theorem dT_divide_151 : decode kT_divide 151 = .ok (.iload 7, 2) := by decide +kernel
theorem dT_divide_153 : decode kT_divide 153 = .ok (.iload 11, 2) := by decide +kernel
theorem dT_divide_155 : decode kT_divide 155 = .ok (.ifCond .eq 12, 3) := by decide +kernel
theorem dT_divide_158 : decode kT_divide 158 = .ok (.iload 12, 2) := by decide +kernel
theorem dT_divide_160 : decode kT_divide 160 = .ok (.ifCond .ne 7, 3) := by decide +kernel
theorem dT_divide_163 : decode kT_divide 163 = .ok (.iload_n 2, 1) := by decide +kernel
theorem dT_divide_164 : decode kT_divide 164 = .ok (.goto 5, 3) := by decide +kernel
theorem dT_divide_167 : decode kT_divide 167 = .ok (.iload 8, 2) := by decide +kernel
theorem dT_divide_169 : decode kT_divide 169 = .ok (.iload 12, 2) := by decide +kernel
theorem dT_divide_171 : decode kT_divide 171 = .ok (.ifCond .eq 7, 3) := by decide +kernel
theorem dT_divide_174 : decode kT_divide 174 = .ok (.iload_n 2, 1) := by decide +kernel
theorem dT_divide_175 : decode kT_divide 175 = .ok (.goto 5, 3) := by decide +kernel
theorem dT_divide_178 : decode kT_divide 178 = .ok (.iload 9, 2) := by decide +kernel
theorem dT_divide_180 : decode kT_divide 180 = .ok (.invokevirtual 82, 3) := by decide +kernel
theorem dT_divide_183 : decode kT_divide 183 = .ok (.iload 10, 2) := by decide +kernel
theorem dT_divide_185 : decode kT_divide 185 = .ok (.iconst 2, 1) := by decide +kernel
theorem dT_divide_186 : decode kT_divide 186 = .ok (.iand, 1) := by decide +kernel
theorem dT_divide_187 : decode kT_divide 187 = .ok (.ifCond .eq 44, 3) := by decide +kernel
theorem dT_divide_190 : decode kT_divide 190 = .ok (.aload_n 0, 1) := by decide +kernel
theorem dT_divide_191 : decode kT_divide 191 = .ok (.getfield 50, 3) := by decide +kernel
theorem dT_divide_194 : decode kT_divide 194 = .ok (.iload 5, 2) := by decide +kernel
theorem dT_divide_196 : decode kT_divide 196 = .ok (.iload 7, 2) := by decide +kernel
theorem dT_divide_198 : decode kT_divide 198 = .ok (.iload 12, 2) := by decide +kernel
theorem dT_divide_200 : decode kT_divide 200 = .ok (.ifCond .eq 7, 3) := by decide +kernel
theorem dT_divide_203 : decode kT_divide 203 = .ok (.iload_n 2, 1) := by decide +kernel
theorem dT_divide_204 : decode kT_divide 204 = .ok (.goto 5, 3) := by decide +kernel
theorem dT_divide_207 : decode kT_divide 207 = .ok (.iload 8, 2) := by decide +kernel
theorem dT_divide_209 : decode kT_divide 209 = .ok (.iload 11, 2) := by decide +kernel
theorem dT_divide_211 : decode kT_divide 211 = .ok (.ifCond .eq 12, 3) := by decide +kernel
theorem dT_divide_214 : decode kT_divide 214 = .ok (.iload 12, 2) := by decide +kernel
theorem dT_divide_216 : decode kT_divide 216 = .ok (.ifCond .ne 7, 3) := by decide +kernel
theorem dT_divide_219 : decode kT_divide 219 = .ok (.iload_n 2, 1) := by decide +kernel
theorem dT_divide_220 : decode kT_divide 220 = .ok (.goto 5, 3) := by decide +kernel
theorem dT_divide_223 : decode kT_divide 223 = .ok (.iload 9, 2) := by decide +kernel
theorem dT_divide_225 : decode kT_divide 225 = .ok (.invokevirtual 138, 3) := by decide +kernel
theorem dT_divide_228 : decode kT_divide 228 = .ok (.iinc 5 1, 3) := by decide +kernel
theorem dT_divide_231 : decode kT_divide 231 = .ok (.iinc 6 1, 3) := by decide +kernel
theorem dT_divide_234 : decode kT_divide 234 = .ok (.goto (-211), 3) := by decide +kernel
theorem dT_divide_237 : decode kT_divide 237 = .ok (.aload_n 0, 1) := by decide +kernel
theorem dT_divide_238 : decode kT_divide 238 = .ok (.getfield 50, 3) := by decide +kernel
theorem dT_divide_241 : decode kT_divide 241 = .ok (.iload 5, 2) := by decide +kernel
theorem dT_divide_243 : decode kT_divide 243 = .ok (.invokevirtual 93, 3) := by decide +kernel
theorem dT_divide_246 : decode kT_divide 246 = .ok (.iconst 0, 1) := by decide +kernel
theorem dT_divide_247 : decode kT_divide 247 = .ok (.istore 6, 2) := by decide +kernel
theorem dT_divide_249 : decode kT_divide 249 = .ok (.iload 6, 2) := by decide +kernel
theorem dT_divide_251 : decode kT_divide 251 = .ok (.aload_n 0, 1) := by decide +kernel
theorem dT_divide_252 : decode kT_divide 252 = .ok (.getfield 53, 3) := by decide +kernel
theorem dT_divide_255 : decode kT_divide 255 = .ok (.invokevirtual 98, 3) := by decide +kernel
theorem dT_divide_258 : decode kT_divide 258 = .ok (.if_icmp .ge 43, 3) := by decide +kernel
theorem dT_divide_261 : decode kT_divide 261 = .ok (.aload_n 0, 1) := by decide +kernel
theorem dT_divide_262 : decode kT_divide 262 = .ok (.getfield 50, 3) := by decide +kernel
theorem dT_divide_265 : decode kT_divide 265 = .ok (.aload_n 0, 1) := by decide +kernel
theorem dT_divide_266 : decode kT_divide 266 = .ok (.getfield 53, 3) := by decide +kernel
theorem dT_divide_269 : decode kT_divide 269 = .ok (.iload 6, 2) := by decide +kernel
theorem dT_divide_271 : decode kT_divide 271 = .ok (.invokevirtual 119, 3) := by decide +kernel
theorem dT_divide_274 : decode kT_divide 274 = .ok (.aload_n 0, 1) := by decide +kernel
theorem dT_divide_275 : decode kT_divide 275 = .ok (.getfield 53, 3) := by decide +kernel
theorem dT_divide_278 : decode kT_divide 278 = .ok (.iload 6, 2) := by decide +kernel
theorem dT_divide_280 : decode kT_divide 280 = .ok (.invokevirtual 128, 3) := by decide +kernel
theorem dT_divide_283 : decode kT_divide 283 = .ok (.aload_n 0, 1) := by decide +kernel
theorem dT_divide_284 : decode kT_divide 284 = .ok (.getfield 53, 3) := by decide +kernel
theorem dT_divide_287 : decode kT_divide 287 = .ok (.iload 6, 2) := by decide +kernel
theorem dT_divide_289 : decode kT_divide 289 = .ok (.invokevirtual 131, 3) := by decide +kernel
theorem dT_divide_292 : decode kT_divide 292 = .ok (.invokevirtual 82, 3) := by decide +kernel
theorem dT_divide_295 : decode kT_divide 295 = .ok (.iinc 6 1, 3) := by decide +kernel
theorem dT_divide_298 : decode kT_divide 298 = .ok (.goto (-49), 3) := by decide +kernel
theorem dT_divide_301 : decode kT_divide 301 = .ok (.iload 5, 2) := by decide +kernel
theorem dT_divide_303 : decode kT_divide 303 = .ok (.ireturn, 1) := by decide +kernel
theorem dT_hasNode_0 : decode kT_hasNode 0 = .ok (.iload_n 1, 1) := by decide +kernel
theorem dT_hasNode_1 : decode kT_hasNode 1 = .ok (.ifCond .lt 18, 3) := by decide +kernel
theorem dT_hasNode_4 : decode kT_hasNode 4 = .ok (.iload_n 1, 1) := by decide +kernel
theorem dT_hasNode_5 : decode kT_hasNode 5 = .ok (.aload_n 0, 1) := by decide +kernel
theorem dT_hasNode_6 : decode kT_hasNode 6 = .ok (.getfield 21, 3) := by decide +kernel
theorem dT_hasNode_9 : decode kT_hasNode 9 = .ok (.invokevirtual 99, 3) := by decide +kernel
theorem dT_hasNode_12 : decode kT_hasNode 12 = .ok (.if_icmp .ge 7, 3) := by decide +kernel
theorem dT_hasNode_15 : decode kT_hasNode 15 = .ok (.iconst 1, 1) := by decide +kernel
theorem dT_hasNode_16 : decode kT_hasNode 16 = .ok (.goto 4, 3) := by decide +kernel
theorem dT_hasNode_19 : decode kT_hasNode 19 = .ok (.iconst 0, 1) := by decide +kernel
theorem dT_hasNode_20 : decode kT_hasNode 20 = .ok (.ireturn, 1) := by decide +kernel
theorem dT_lineOf_0 : decode kT_lineOf 0 = .ok (.aload_n 0, 1) := by decide +kernel
theorem dT_lineOf_1 : decode kT_lineOf 1 = .ok (.getfield 21, 3) := by decide +kernel
theorem dT_lineOf_4 : decode kT_lineOf 4 = .ok (.iload_n 1, 1) := by decide +kernel
theorem dT_lineOf_5 : decode kT_lineOf 5 = .ok (.invokevirtual 172, 3) := by decide +kernel
theorem dT_lineOf_8 : decode kT_lineOf 8 = .ok (.ireturn, 1) := by decide +kernel
theorem dT_leftOf_0 : decode kT_leftOf 0 = .ok (.aload_n 0, 1) := by decide +kernel
theorem dT_leftOf_1 : decode kT_leftOf 1 = .ok (.getfield 25, 3) := by decide +kernel
theorem dT_leftOf_4 : decode kT_leftOf 4 = .ok (.iload_n 1, 1) := by decide +kernel
theorem dT_leftOf_5 : decode kT_leftOf 5 = .ok (.invokevirtual 172, 3) := by decide +kernel
theorem dT_leftOf_8 : decode kT_leftOf 8 = .ok (.ireturn, 1) := by decide +kernel
theorem dT_rightOf_0 : decode kT_rightOf 0 = .ok (.aload_n 0, 1) := by decide +kernel
theorem dT_rightOf_1 : decode kT_rightOf 1 = .ok (.getfield 28, 3) := by decide +kernel
theorem dT_rightOf_4 : decode kT_rightOf 4 = .ok (.iload_n 1, 1) := by decide +kernel
theorem dT_rightOf_5 : decode kT_rightOf 5 = .ok (.invokevirtual 172, 3) := by decide +kernel
theorem dT_rightOf_8 : decode kT_rightOf 8 = .ok (.ireturn, 1) := by decide +kernel
theorem dT_ownPieces_0 : decode kT_ownPieces 0 = .ok (.aload_n 0, 1) := by decide +kernel
theorem dT_ownPieces_1 : decode kT_ownPieces 1 = .ok (.iload_n 1, 1) := by decide +kernel
theorem dT_ownPieces_2 : decode kT_ownPieces 2 = .ok (.invokevirtual 174, 3) := by decide +kernel
theorem dT_ownPieces_5 : decode kT_ownPieces 5 = .ok (.ifCond .eq 19, 3) := by decide +kernel
theorem dT_ownPieces_8 : decode kT_ownPieces 8 = .ok (.aload_n 0, 1) := by decide +kernel
theorem dT_ownPieces_9 : decode kT_ownPieces 9 = .ok (.iload_n 1, 1) := by decide +kernel
theorem dT_ownPieces_10 : decode kT_ownPieces 10 = .ok (.iconst 1, 1) := by decide +kernel
theorem dT_ownPieces_11 : decode kT_ownPieces 11 = .ok (.iadd, 1) := by decide +kernel
theorem dT_ownPieces_12 : decode kT_ownPieces 12 = .ok (.invokevirtual 177, 3) := by decide +kernel
theorem dT_ownPieces_15 : decode kT_ownPieces 15 = .ok (.aload_n 0, 1) := by decide +kernel
theorem dT_ownPieces_16 : decode kT_ownPieces 16 = .ok (.iload_n 1, 1) := by decide +kernel
theorem dT_ownPieces_17 : decode kT_ownPieces 17 = .ok (.invokevirtual 177, 3) := by decide +kernel
theorem dT_ownPieces_20 : decode kT_ownPieces 20 = .ok (.isub, 1) := by decide +kernel
theorem dT_ownPieces_21 : decode kT_ownPieces 21 = .ok (.goto 4, 3) := by decide +kernel
theorem dT_ownPieces_24 : decode kT_ownPieces 24 = .ok (.iconst 0, 1) := by decide +kernel
theorem dT_ownPieces_25 : decode kT_ownPieces 25 = .ok (.ireturn, 1) := by decide +kernel
theorem dT_firstPieceFrom_0 : decode kT_firstPieceFrom 0 = .ok (.aload_n 0, 1) := by decide +kernel
theorem dT_firstPieceFrom_1 : decode kT_firstPieceFrom 1 = .ok (.iload_n 1, 1) := by decide +kernel
theorem dT_firstPieceFrom_2 : decode kT_firstPieceFrom 2 = .ok (.invokevirtual 174, 3) := by decide +kernel
theorem dT_firstPieceFrom_5 : decode kT_firstPieceFrom 5 = .ok (.ifCond .eq 14, 3) := by decide +kernel
theorem dT_firstPieceFrom_8 : decode kT_firstPieceFrom 8 = .ok (.aload_n 0, 1) := by decide +kernel
theorem dT_firstPieceFrom_9 : decode kT_firstPieceFrom 9 = .ok (.getfield 37, 3) := by decide +kernel
theorem dT_firstPieceFrom_12 : decode kT_firstPieceFrom 12 = .ok (.iload_n 1, 1) := by decide +kernel
theorem dT_firstPieceFrom_13 : decode kT_firstPieceFrom 13 = .ok (.invokevirtual 172, 3) := by decide +kernel
theorem dT_firstPieceFrom_16 : decode kT_firstPieceFrom 16 = .ok (.goto 10, 3) := by decide +kernel
theorem dT_firstPieceFrom_19 : decode kT_firstPieceFrom 19 = .ok (.aload_n 0, 1) := by decide +kernel
theorem dT_firstPieceFrom_20 : decode kT_firstPieceFrom 20 = .ok (.getfield 43, 3) := by decide +kernel
theorem dT_firstPieceFrom_23 : decode kT_firstPieceFrom 23 = .ok (.invokevirtual 98, 3) := by decide +kernel
theorem dT_firstPieceFrom_26 : decode kT_firstPieceFrom 26 = .ok (.ireturn, 1) := by decide +kernel
theorem dT_nodesIn_0 : decode kT_nodesIn 0 = .ok (.aload_n 0, 1) := by decide +kernel
theorem dT_nodesIn_1 : decode kT_nodesIn 1 = .ok (.iload_n 1, 1) := by decide +kernel
theorem dT_nodesIn_2 : decode kT_nodesIn 2 = .ok (.invokevirtual 174, 3) := by decide +kernel
theorem dT_nodesIn_5 : decode kT_nodesIn 5 = .ok (.ifCond .eq 14, 3) := by decide +kernel
theorem dT_nodesIn_8 : decode kT_nodesIn 8 = .ok (.aload_n 0, 1) := by decide +kernel
theorem dT_nodesIn_9 : decode kT_nodesIn 9 = .ok (.getfield 31, 3) := by decide +kernel
theorem dT_nodesIn_12 : decode kT_nodesIn 12 = .ok (.iload_n 1, 1) := by decide +kernel
theorem dT_nodesIn_13 : decode kT_nodesIn 13 = .ok (.invokevirtual 172, 3) := by decide +kernel
theorem dT_nodesIn_16 : decode kT_nodesIn 16 = .ok (.goto 4, 3) := by decide +kernel
theorem dT_nodesIn_19 : decode kT_nodesIn 19 = .ok (.iconst 0, 1) := by decide +kernel
theorem dT_nodesIn_20 : decode kT_nodesIn 20 = .ok (.ireturn, 1) := by decide +kernel
theorem dT_depthOf_0 : decode kT_depthOf 0 = .ok (.aload_n 0, 1) := by decide +kernel
theorem dT_depthOf_1 : decode kT_depthOf 1 = .ok (.getfield 34, 3) := by decide +kernel
theorem dT_depthOf_4 : decode kT_depthOf 4 = .ok (.iload_n 1, 1) := by decide +kernel
theorem dT_depthOf_5 : decode kT_depthOf 5 = .ok (.invokevirtual 172, 3) := by decide +kernel
theorem dT_depthOf_8 : decode kT_depthOf 8 = .ok (.ireturn, 1) := by decide +kernel
theorem dT_pieceAt_0 : decode kT_pieceAt 0 = .ok (.iload_n 2, 1) := by decide +kernel
theorem dT_pieceAt_1 : decode kT_pieceAt 1 = .ok (.ifCond .lt 22, 3) := by decide +kernel
theorem dT_pieceAt_4 : decode kT_pieceAt 4 = .ok (.iload_n 2, 1) := by decide +kernel
theorem dT_pieceAt_5 : decode kT_pieceAt 5 = .ok (.aload_n 0, 1) := by decide +kernel
theorem dT_pieceAt_6 : decode kT_pieceAt 6 = .ok (.iload_n 1, 1) := by decide +kernel
theorem dT_pieceAt_7 : decode kT_pieceAt 7 = .ok (.invokevirtual 180, 3) := by decide +kernel
theorem dT_pieceAt_10 : decode kT_pieceAt 10 = .ok (.if_icmp .ge 13, 3) := by decide +kernel
theorem dT_pieceAt_13 : decode kT_pieceAt 13 = .ok (.aload_n 0, 1) := by decide +kernel
theorem dT_pieceAt_14 : decode kT_pieceAt 14 = .ok (.iload_n 1, 1) := by decide +kernel
theorem dT_pieceAt_15 : decode kT_pieceAt 15 = .ok (.invokevirtual 177, 3) := by decide +kernel
theorem dT_pieceAt_18 : decode kT_pieceAt 18 = .ok (.iload_n 2, 1) := by decide +kernel
theorem dT_pieceAt_19 : decode kT_pieceAt 19 = .ok (.iadd, 1) := by decide +kernel
theorem dT_pieceAt_20 : decode kT_pieceAt 20 = .ok (.goto 4, 3) := by decide +kernel
theorem dT_pieceAt_23 : decode kT_pieceAt 23 = .ok (.iconst (-1), 1) := by decide +kernel
theorem dT_pieceAt_24 : decode kT_pieceAt 24 = .ok (.ireturn, 1) := by decide +kernel
theorem dT_wallOfPiece_0 : decode kT_wallOfPiece 0 = .ok (.aload_n 0, 1) := by decide +kernel
theorem dT_wallOfPiece_1 : decode kT_wallOfPiece 1 = .ok (.getfield 43, 3) := by decide +kernel
theorem dT_wallOfPiece_4 : decode kT_wallOfPiece 4 = .ok (.iload_n 1, 1) := by decide +kernel
theorem dT_wallOfPiece_5 : decode kT_wallOfPiece 5 = .ok (.invokevirtual 119, 3) := by decide +kernel
theorem dT_wallOfPiece_8 : decode kT_wallOfPiece 8 = .ok (.ireturn, 1) := by decide +kernel
theorem dT_quotientOf_0 : decode kT_quotientOf 0 = .ok (.aload_n 0, 1) := by decide +kernel
theorem dT_quotientOf_1 : decode kT_quotientOf 1 = .ok (.getfield 12, 3) := by decide +kernel
theorem dT_quotientOf_4 : decode kT_quotientOf 4 = .ok (.aload_n 0, 1) := by decide +kernel
theorem dT_quotientOf_5 : decode kT_quotientOf 5 = .ok (.getfield 43, 3) := by decide +kernel
theorem dT_quotientOf_8 : decode kT_quotientOf 8 = .ok (.iload_n 1, 1) := by decide +kernel
theorem dT_quotientOf_9 : decode kT_quotientOf 9 = .ok (.invokevirtual 119, 3) := by decide +kernel
theorem dT_quotientOf_12 : decode kT_quotientOf 12 = .ok (.invokevirtual 56, 3) := by decide +kernel
theorem dT_quotientOf_15 : decode kT_quotientOf 15 = .ok (.astore 4, 2) := by decide +kernel
theorem dT_quotientOf_17 : decode kT_quotientOf 17 = .ok (.aload_n 0, 1) := by decide +kernel
theorem dT_quotientOf_18 : decode kT_quotientOf 18 = .ok (.getfield 12, 3) := by decide +kernel
theorem dT_quotientOf_21 : decode kT_quotientOf 21 = .ok (.iload_n 2, 1) := by decide +kernel
theorem dT_quotientOf_22 : decode kT_quotientOf 22 = .ok (.ifCond .eq 14, 3) := by decide +kernel
theorem dT_quotientOf_25 : decode kT_quotientOf 25 = .ok (.aload_n 0, 1) := by decide +kernel
theorem dT_quotientOf_26 : decode kT_quotientOf 26 = .ok (.getfield 43, 3) := by decide +kernel
theorem dT_quotientOf_29 : decode kT_quotientOf 29 = .ok (.iload_n 1, 1) := by decide +kernel
theorem dT_quotientOf_30 : decode kT_quotientOf 30 = .ok (.invokevirtual 131, 3) := by decide +kernel
theorem dT_quotientOf_33 : decode kT_quotientOf 33 = .ok (.goto 11, 3) := by decide +kernel
theorem dT_quotientOf_36 : decode kT_quotientOf 36 = .ok (.aload_n 0, 1) := by decide +kernel
theorem dT_quotientOf_37 : decode kT_quotientOf 37 = .ok (.getfield 43, 3) := by decide +kernel
theorem dT_quotientOf_40 : decode kT_quotientOf 40 = .ok (.iload_n 1, 1) := by decide +kernel
theorem dT_quotientOf_41 : decode kT_quotientOf 41 = .ok (.invokevirtual 128, 3) := by decide +kernel
theorem dT_quotientOf_44 : decode kT_quotientOf 44 = .ok (.invokevirtual 56, 3) := by decide +kernel
theorem dT_quotientOf_47 : decode kT_quotientOf 47 = .ok (.astore 5, 2) := by decide +kernel
theorem dT_quotientOf_49 : decode kT_quotientOf 49 = .ok (.aload 4, 2) := by decide +kernel
theorem dT_quotientOf_51 : decode kT_quotientOf 51 = .ok (.ifnonnull 7, 3) := by decide +kernel
theorem dT_quotientOf_54 : decode kT_quotientOf 54 = .ok (.ldc2_w 183, 3) := by decide +kernel
theorem dT_quotientOf_57 : decode kT_quotientOf 57 = .ok (.lreturn, 1) := by decide +kernel
theorem dT_quotientOf_58 : decode kT_quotientOf 58 = .ok (.aload 5, 2) := by decide +kernel
theorem dT_quotientOf_60 : decode kT_quotientOf 60 = .ok (.ifnonnull 17, 3) := by decide +kernel
theorem dT_quotientOf_63 : decode kT_quotientOf 63 = .ok (.iload_n 3, 1) := by decide +kernel
theorem dT_quotientOf_64 : decode kT_quotientOf 64 = .ok (.ifCond .eq 11, 3) := by decide +kernel
theorem dT_quotientOf_67 : decode kT_quotientOf 67 = .ok (.iload_n 2, 1) := by decide +kernel
theorem dT_quotientOf_68 : decode kT_quotientOf 68 = .ok (.ifCond .ne 7, 3) := by decide +kernel
theorem dT_quotientOf_71 : decode kT_quotientOf 71 = .ok (.lconst 0, 1) := by decide +kernel
theorem dT_quotientOf_72 : decode kT_quotientOf 72 = .ok (.goto 4, 3) := by decide +kernel
theorem dT_quotientOf_75 : decode kT_quotientOf 75 = .ok (.lconst 1, 1) := by decide +kernel
theorem dT_quotientOf_76 : decode kT_quotientOf 76 = .ok (.lreturn, 1) := by decide +kernel
theorem dT_quotientOf_77 : decode kT_quotientOf 77 = .ok (.aload 5, 2) := by decide +kernel
theorem dT_quotientOf_79 : decode kT_quotientOf 79 = .ok (.aload 4, 2) := by decide +kernel
theorem dT_quotientOf_81 : decode kT_quotientOf 81 = .ok (.getfield 141, 3) := by decide +kernel
theorem dT_quotientOf_84 : decode kT_quotientOf 84 = .ok (.aload 4, 2) := by decide +kernel
theorem dT_quotientOf_86 : decode kT_quotientOf 86 = .ok (.getfield 146, 3) := by decide +kernel
theorem dT_quotientOf_89 : decode kT_quotientOf 89 = .ok (.invokevirtual 149, 3) := by decide +kernel
theorem dT_quotientOf_92 : decode kT_quotientOf 92 = .ok (.invokestatic 163, 3) := by decide +kernel
theorem dT_quotientOf_95 : decode kT_quotientOf 95 = .ok (.lstore 6, 2) := by decide +kernel
theorem dT_quotientOf_97 : decode kT_quotientOf 97 = .ok (.lload 6, 2) := by decide +kernel
theorem dT_quotientOf_99 : decode kT_quotientOf 99 = .ok (.aload 5, 2) := by decide +kernel
theorem dT_quotientOf_101 : decode kT_quotientOf 101 = .ok (.aload 4, 2) := by decide +kernel
theorem dT_quotientOf_103 : decode kT_quotientOf 103 = .ok (.getfield 153, 3) := by decide +kernel
theorem dT_quotientOf_106 : decode kT_quotientOf 106 = .ok (.aload 4, 2) := by decide +kernel
theorem dT_quotientOf_108 : decode kT_quotientOf 108 = .ok (.getfield 156, 3) := by decide +kernel
theorem dT_quotientOf_111 : decode kT_quotientOf 111 = .ok (.invokevirtual 149, 3) := by decide +kernel
theorem dT_quotientOf_114 : decode kT_quotientOf 114 = .ok (.invokestatic 163, 3) := by decide +kernel
theorem dT_quotientOf_117 : decode kT_quotientOf 117 = .ok (.ladd, 1) := by decide +kernel
theorem dT_quotientOf_118 : decode kT_quotientOf 118 = .ok (.lstore 8, 2) := by decide +kernel
theorem dT_quotientOf_120 : decode kT_quotientOf 120 = .ok (.lload 8, 2) := by decide +kernel
theorem dT_quotientOf_122 : decode kT_quotientOf 122 = .ok (.lload 6, 2) := by decide +kernel
theorem dT_quotientOf_124 : decode kT_quotientOf 124 = .ok (.invokestatic 185, 3) := by decide +kernel
theorem dT_quotientOf_127 : decode kT_quotientOf 127 = .ok (.lstore 10, 2) := by decide +kernel
theorem dT_quotientOf_129 : decode kT_quotientOf 129 = .ok (.lload 10, 2) := by decide +kernel
theorem dT_quotientOf_131 : decode kT_quotientOf 131 = .ok (.lconst 0, 1) := by decide +kernel
theorem dT_quotientOf_132 : decode kT_quotientOf 132 = .ok (.lcmp, 1) := by decide +kernel
theorem dT_quotientOf_133 : decode kT_quotientOf 133 = .ok (.ifCond .ne 7, 3) := by decide +kernel
theorem dT_quotientOf_136 : decode kT_quotientOf 136 = .ok (.ldc2_w 183, 3) := by decide +kernel
theorem dT_quotientOf_139 : decode kT_quotientOf 139 = .ok (.lreturn, 1) := by decide +kernel
theorem dT_quotientOf_140 : decode kT_quotientOf 140 = .ok (.iload_n 3, 1) := by decide +kernel
theorem dT_quotientOf_141 : decode kT_quotientOf 141 = .ok (.ifCond .eq 8, 3) := by decide +kernel
theorem dT_quotientOf_144 : decode kT_quotientOf 144 = .ok (.lload 6, 2) := by decide +kernel
theorem dT_quotientOf_146 : decode kT_quotientOf 146 = .ok (.goto 5, 3) := by decide +kernel
theorem dT_quotientOf_149 : decode kT_quotientOf 149 = .ok (.lload 8, 2) := by decide +kernel
theorem dT_quotientOf_151 : decode kT_quotientOf 151 = .ok (.lload 10, 2) := by decide +kernel
theorem dT_quotientOf_153 : decode kT_quotientOf 153 = .ok (.ldiv, 1) := by decide +kernel
theorem dT_quotientOf_154 : decode kT_quotientOf 154 = .ok (.lreturn, 1) := by decide +kernel
theorem dT_commonDivisor_0 : decode kT_commonDivisor 0 = .ok (.lload_n 0, 1) := by decide +kernel
theorem dT_commonDivisor_1 : decode kT_commonDivisor 1 = .ok (.lstore 4, 2) := by decide +kernel
theorem dT_commonDivisor_3 : decode kT_commonDivisor 3 = .ok (.lload_n 2, 1) := by decide +kernel
theorem dT_commonDivisor_4 : decode kT_commonDivisor 4 = .ok (.lstore 6, 2) := by decide +kernel
theorem dT_commonDivisor_6 : decode kT_commonDivisor 6 = .ok (.iconst 0, 1) := by decide +kernel
theorem dT_commonDivisor_7 : decode kT_commonDivisor 7 = .ok (.istore 8, 2) := by decide +kernel
theorem dT_commonDivisor_9 : decode kT_commonDivisor 9 = .ok (.iload 8, 2) := by decide +kernel
theorem dT_commonDivisor_11 : decode kT_commonDivisor 11 = .ok (.sipush 128, 3) := by decide +kernel
theorem dT_commonDivisor_14 : decode kT_commonDivisor 14 = .ok (.if_icmp .ge 31, 3) := by decide +kernel
theorem dT_commonDivisor_17 : decode kT_commonDivisor 17 = .ok (.lload 6, 2) := by decide +kernel
theorem dT_commonDivisor_19 : decode kT_commonDivisor 19 = .ok (.lconst 0, 1) := by decide +kernel
theorem dT_commonDivisor_20 : decode kT_commonDivisor 20 = .ok (.lcmp, 1) := by decide +kernel
theorem dT_commonDivisor_21 : decode kT_commonDivisor 21 = .ok (.ifCond .eq 24, 3) := by decide +kernel
theorem dT_commonDivisor_24 : decode kT_commonDivisor 24 = .ok (.lload 4, 2) := by decide +kernel
theorem dT_commonDivisor_26 : decode kT_commonDivisor 26 = .ok (.lload 6, 2) := by decide +kernel
theorem dT_commonDivisor_28 : decode kT_commonDivisor 28 = .ok (.lrem, 1) := by decide +kernel
theorem dT_commonDivisor_29 : decode kT_commonDivisor 29 = .ok (.lstore 9, 2) := by decide +kernel
theorem dT_commonDivisor_31 : decode kT_commonDivisor 31 = .ok (.lload 6, 2) := by decide +kernel
theorem dT_commonDivisor_33 : decode kT_commonDivisor 33 = .ok (.lstore 4, 2) := by decide +kernel
theorem dT_commonDivisor_35 : decode kT_commonDivisor 35 = .ok (.lload 9, 2) := by decide +kernel
theorem dT_commonDivisor_37 : decode kT_commonDivisor 37 = .ok (.lstore 6, 2) := by decide +kernel
theorem dT_commonDivisor_39 : decode kT_commonDivisor 39 = .ok (.iinc 8 1, 3) := by decide +kernel
theorem dT_commonDivisor_42 : decode kT_commonDivisor 42 = .ok (.goto (-33), 3) := by decide +kernel
theorem dT_commonDivisor_45 : decode kT_commonDivisor 45 = .ok (.lload 4, 2) := by decide +kernel
theorem dT_commonDivisor_47 : decode kT_commonDivisor 47 = .ok (.lreturn, 1) := by decide +kernel
theorem dT_leafAround_0 : decode kT_leafAround 0 = .ok (.iconst 0, 1) := by decide +kernel
theorem dT_leafAround_1 : decode kT_leafAround 1 = .ok (.istore_n 3, 1) := by decide +kernel
theorem dT_leafAround_2 : decode kT_leafAround 2 = .ok (.iconst 0, 1) := by decide +kernel
theorem dT_leafAround_3 : decode kT_leafAround 3 = .ok (.istore 4, 2) := by decide +kernel
theorem dT_leafAround_5 : decode kT_leafAround 5 = .ok (.iconst 0, 1) := by decide +kernel
theorem dT_leafAround_6 : decode kT_leafAround 6 = .ok (.istore 5, 2) := by decide +kernel
theorem dT_leafAround_8 : decode kT_leafAround 8 = .ok (.iload 5, 2) := by decide +kernel
theorem dT_leafAround_10 : decode kT_leafAround 10 = .ok (.bipush 64, 2) := by decide +kernel
theorem dT_leafAround_12 : decode kT_leafAround 12 = .ok (.if_icmp .ge 69, 3) := by decide +kernel
theorem dT_leafAround_15 : decode kT_leafAround 15 = .ok (.aload_n 0, 1) := by decide +kernel
theorem dT_leafAround_16 : decode kT_leafAround 16 = .ok (.iload 4, 2) := by decide +kernel
theorem dT_leafAround_18 : decode kT_leafAround 18 = .ok (.invokevirtual 174, 3) := by decide +kernel
theorem dT_leafAround_21 : decode kT_leafAround 21 = .ok (.ifCond .eq 60, 3) := by decide +kernel
theorem dT_leafAround_24 : decode kT_leafAround 24 = .ok (.aload_n 0, 1) := by decide +kernel
theorem dT_leafAround_25 : decode kT_leafAround 25 = .ok (.getfield 25, 3) := by decide +kernel
theorem dT_leafAround_28 : decode kT_leafAround 28 = .ok (.iload 4, 2) := by decide +kernel
theorem dT_leafAround_30 : decode kT_leafAround 30 = .ok (.invokevirtual 172, 3) := by decide +kernel
theorem dT_leafAround_33 : decode kT_leafAround 33 = .ok (.istore 6, 2) := by decide +kernel
theorem dT_leafAround_35 : decode kT_leafAround 35 = .ok (.aload_n 0, 1) := by decide +kernel
theorem dT_leafAround_36 : decode kT_leafAround 36 = .ok (.iload 4, 2) := by decide +kernel
theorem dT_leafAround_38 : decode kT_leafAround 38 = .ok (.iload_n 1, 1) := by decide +kernel
theorem dT_leafAround_39 : decode kT_leafAround 39 = .ok (.iload_n 2, 1) := by decide +kernel
theorem dT_leafAround_40 : decode kT_leafAround 40 = .ok (.invokevirtual 189, 3) := by decide +kernel
theorem dT_leafAround_43 : decode kT_leafAround 43 = .ok (.ifCond .eq 10, 3) := by decide +kernel
theorem dT_leafAround_46 : decode kT_leafAround 46 = .ok (.iload 6, 2) := by decide +kernel
theorem dT_leafAround_48 : decode kT_leafAround 48 = .ok (.istore 4, 2) := by decide +kernel
theorem dT_leafAround_50 : decode kT_leafAround 50 = .ok (.goto 25, 3) := by decide +kernel
theorem dT_leafAround_53 : decode kT_leafAround 53 = .ok (.iload_n 3, 1) := by decide +kernel
theorem dT_leafAround_54 : decode kT_leafAround 54 = .ok (.aload_n 0, 1) := by decide +kernel
theorem dT_leafAround_55 : decode kT_leafAround 55 = .ok (.iload 6, 2) := by decide +kernel
theorem dT_leafAround_57 : decode kT_leafAround 57 = .ok (.invokevirtual 193, 3) := by decide +kernel
theorem dT_leafAround_60 : decode kT_leafAround 60 = .ok (.iconst 1, 1) := by decide +kernel
theorem dT_leafAround_61 : decode kT_leafAround 61 = .ok (.iadd, 1) := by decide +kernel
theorem dT_leafAround_62 : decode kT_leafAround 62 = .ok (.iadd, 1) := by decide +kernel
theorem dT_leafAround_63 : decode kT_leafAround 63 = .ok (.istore_n 3, 1) := by decide +kernel
theorem dT_leafAround_64 : decode kT_leafAround 64 = .ok (.aload_n 0, 1) := by decide +kernel
theorem dT_leafAround_65 : decode kT_leafAround 65 = .ok (.getfield 28, 3) := by decide +kernel
theorem dT_leafAround_68 : decode kT_leafAround 68 = .ok (.iload 4, 2) := by decide +kernel
theorem dT_leafAround_70 : decode kT_leafAround 70 = .ok (.invokevirtual 172, 3) := by decide +kernel
theorem dT_leafAround_73 : decode kT_leafAround 73 = .ok (.istore 4, 2) := by decide +kernel
theorem dT_leafAround_75 : decode kT_leafAround 75 = .ok (.iinc 5 1, 3) := by decide +kernel
theorem dT_leafAround_78 : decode kT_leafAround 78 = .ok (.goto (-70), 3) := by decide +kernel
theorem dT_leafAround_81 : decode kT_leafAround 81 = .ok (.iload_n 3, 1) := by decide +kernel
theorem dT_leafAround_82 : decode kT_leafAround 82 = .ok (.ireturn, 1) := by decide +kernel
theorem dT_liesLeft_0 : decode kT_liesLeft 0 = .ok (.aload_n 0, 1) := by decide +kernel
theorem dT_liesLeft_1 : decode kT_liesLeft 1 = .ok (.getfield 12, 3) := by decide +kernel
theorem dT_liesLeft_4 : decode kT_liesLeft 4 = .ok (.aload_n 0, 1) := by decide +kernel
theorem dT_liesLeft_5 : decode kT_liesLeft 5 = .ok (.getfield 21, 3) := by decide +kernel
theorem dT_liesLeft_8 : decode kT_liesLeft 8 = .ok (.iload_n 1, 1) := by decide +kernel
theorem dT_liesLeft_9 : decode kT_liesLeft 9 = .ok (.invokevirtual 172, 3) := by decide +kernel
theorem dT_liesLeft_12 : decode kT_liesLeft 12 = .ok (.invokevirtual 56, 3) := by decide +kernel
theorem dT_liesLeft_15 : decode kT_liesLeft 15 = .ok (.astore 4, 2) := by decide +kernel
theorem dT_liesLeft_17 : decode kT_liesLeft 17 = .ok (.aload 4, 2) := by decide +kernel
theorem dT_liesLeft_19 : decode kT_liesLeft 19 = .ok (.ifnull 19, 3) := by decide +kernel
theorem dT_liesLeft_22 : decode kT_liesLeft 22 = .ok (.aload 4, 2) := by decide +kernel
theorem dT_liesLeft_24 : decode kT_liesLeft 24 = .ok (.iload_n 2, 1) := by decide +kernel
theorem dT_liesLeft_25 : decode kT_liesLeft 25 = .ok (.iload_n 3, 1) := by decide +kernel
theorem dT_liesLeft_26 : decode kT_liesLeft 26 = .ok (.invokevirtual 149, 3) := by decide +kernel
theorem dT_liesLeft_29 : decode kT_liesLeft 29 = .ok (.lconst 0, 1) := by decide +kernel
theorem dT_liesLeft_30 : decode kT_liesLeft 30 = .ok (.lcmp, 1) := by decide +kernel
theorem dT_liesLeft_31 : decode kT_liesLeft 31 = .ok (.ifCond .le 7, 3) := by decide +kernel
theorem dT_liesLeft_34 : decode kT_liesLeft 34 = .ok (.iconst 1, 1) := by decide +kernel
theorem dT_liesLeft_35 : decode kT_liesLeft 35 = .ok (.goto 4, 3) := by decide +kernel
theorem dT_liesLeft_38 : decode kT_liesLeft 38 = .ok (.iconst 0, 1) := by decide +kernel
theorem dT_liesLeft_39 : decode kT_liesLeft 39 = .ok (.ireturn, 1) := by decide +kernel
theorem dT_pieceCount_0 : decode kT_pieceCount 0 = .ok (.aload_n 0, 1) := by decide +kernel
theorem dT_pieceCount_1 : decode kT_pieceCount 1 = .ok (.getfield 43, 3) := by decide +kernel
theorem dT_pieceCount_4 : decode kT_pieceCount 4 = .ok (.invokevirtual 98, 3) := by decide +kernel
theorem dT_pieceCount_7 : decode kT_pieceCount 7 = .ok (.ireturn, 1) := by decide +kernel
theorem dT_pieceOnWay_0 : decode kT_pieceOnWay 0 = .ok (.iload_n 3, 1) := by decide +kernel
theorem dT_pieceOnWay_1 : decode kT_pieceOnWay 1 = .ok (.ifCond .ge 5, 3) := by decide +kernel
theorem dT_pieceOnWay_4 : decode kT_pieceOnWay 4 = .ok (.iconst (-1), 1) := by decide +kernel
theorem dT_pieceOnWay_5 : decode kT_pieceOnWay 5 = .ok (.ireturn, 1) := by decide +kernel
theorem dT_pieceOnWay_6 : decode kT_pieceOnWay 6 = .ok (.iload_n 3, 1) := by decide +kernel
theorem dT_pieceOnWay_7 : decode kT_pieceOnWay 7 = .ok (.istore 4, 2) := by decide +kernel
theorem dT_pieceOnWay_9 : decode kT_pieceOnWay 9 = .ok (.iconst 0, 1) := by decide +kernel
theorem dT_pieceOnWay_10 : decode kT_pieceOnWay 10 = .ok (.istore 5, 2) := by decide +kernel
theorem dT_pieceOnWay_12 : decode kT_pieceOnWay 12 = .ok (.iconst 0, 1) := by decide +kernel
theorem dT_pieceOnWay_13 : decode kT_pieceOnWay 13 = .ok (.istore 6, 2) := by decide +kernel
theorem dT_pieceOnWay_15 : decode kT_pieceOnWay 15 = .ok (.iload 6, 2) := by decide +kernel
theorem dT_pieceOnWay_17 : decode kT_pieceOnWay 17 = .ok (.bipush 64, 2) := by decide +kernel
theorem dT_pieceOnWay_19 : decode kT_pieceOnWay 19 = .ok (.if_icmp .ge 145, 3) := by decide +kernel
theorem dT_pieceOnWay_22 : decode kT_pieceOnWay 22 = .ok (.aload_n 0, 1) := by decide +kernel
theorem dT_pieceOnWay_23 : decode kT_pieceOnWay 23 = .ok (.iload 5, 2) := by decide +kernel
theorem dT_pieceOnWay_25 : decode kT_pieceOnWay 25 = .ok (.invokevirtual 174, 3) := by decide +kernel
theorem dT_pieceOnWay_28 : decode kT_pieceOnWay 28 = .ok (.ifCond .eq 136, 3) := by decide +kernel
theorem dT_pieceOnWay_31 : decode kT_pieceOnWay 31 = .ok (.aload_n 0, 1) := by decide +kernel
theorem dT_pieceOnWay_32 : decode kT_pieceOnWay 32 = .ok (.iload 5, 2) := by decide +kernel
theorem dT_pieceOnWay_34 : decode kT_pieceOnWay 34 = .ok (.iload_n 1, 1) := by decide +kernel
theorem dT_pieceOnWay_35 : decode kT_pieceOnWay 35 = .ok (.iload_n 2, 1) := by decide +kernel
theorem dT_pieceOnWay_36 : decode kT_pieceOnWay 36 = .ok (.invokevirtual 189, 3) := by decide +kernel
theorem dT_pieceOnWay_39 : decode kT_pieceOnWay 39 = .ok (.istore 7, 2) := by decide +kernel
theorem dT_pieceOnWay_41 : decode kT_pieceOnWay 41 = .ok (.iload 7, 2) := by decide +kernel
theorem dT_pieceOnWay_43 : decode kT_pieceOnWay 43 = .ok (.ifCond .eq 15, 3) := by decide +kernel
theorem dT_pieceOnWay_46 : decode kT_pieceOnWay 46 = .ok (.aload_n 0, 1) := by decide +kernel
theorem dT_pieceOnWay_47 : decode kT_pieceOnWay 47 = .ok (.getfield 25, 3) := by decide +kernel
theorem dT_pieceOnWay_50 : decode kT_pieceOnWay 50 = .ok (.iload 5, 2) := by decide +kernel
theorem dT_pieceOnWay_52 : decode kT_pieceOnWay 52 = .ok (.invokevirtual 172, 3) := by decide +kernel
theorem dT_pieceOnWay_55 : decode kT_pieceOnWay 55 = .ok (.goto 12, 3) := by decide +kernel
theorem dT_pieceOnWay_58 : decode kT_pieceOnWay 58 = .ok (.aload_n 0, 1) := by decide +kernel
theorem dT_pieceOnWay_59 : decode kT_pieceOnWay 59 = .ok (.getfield 28, 3) := by decide +kernel
theorem dT_pieceOnWay_62 : decode kT_pieceOnWay 62 = .ok (.iload 5, 2) := by decide +kernel
theorem dT_pieceOnWay_64 : decode kT_pieceOnWay 64 = .ok (.invokevirtual 172, 3) := by decide +kernel
theorem dT_pieceOnWay_67 : decode kT_pieceOnWay 67 = .ok (.istore 8, 2) := by decide +kernel
theorem dT_pieceOnWay_69 : decode kT_pieceOnWay 69 = .ok (.aload_n 0, 1) := by decide +kernel
theorem dT_pieceOnWay_70 : decode kT_pieceOnWay 70 = .ok (.iload 8, 2) := by decide +kernel
theorem dT_pieceOnWay_72 : decode kT_pieceOnWay 72 = .ok (.invokevirtual 196, 3) := by decide +kernel
theorem dT_pieceOnWay_75 : decode kT_pieceOnWay 75 = .ok (.istore 9, 2) := by decide +kernel
theorem dT_pieceOnWay_77 : decode kT_pieceOnWay 77 = .ok (.iload 4, 2) := by decide +kernel
theorem dT_pieceOnWay_79 : decode kT_pieceOnWay 79 = .ok (.iload 9, 2) := by decide +kernel
theorem dT_pieceOnWay_81 : decode kT_pieceOnWay 81 = .ok (.if_icmp .ge 10, 3) := by decide +kernel
theorem dT_pieceOnWay_84 : decode kT_pieceOnWay 84 = .ok (.iload 8, 2) := by decide +kernel
theorem dT_pieceOnWay_86 : decode kT_pieceOnWay 86 = .ok (.istore 5, 2) := by decide +kernel
theorem dT_pieceOnWay_88 : decode kT_pieceOnWay 88 = .ok (.goto 70, 3) := by decide +kernel
theorem dT_pieceOnWay_91 : decode kT_pieceOnWay 91 = .ok (.iload 4, 2) := by decide +kernel
theorem dT_pieceOnWay_93 : decode kT_pieceOnWay 93 = .ok (.iload 9, 2) := by decide +kernel
theorem dT_pieceOnWay_95 : decode kT_pieceOnWay 95 = .ok (.isub, 1) := by decide +kernel
theorem dT_pieceOnWay_96 : decode kT_pieceOnWay 96 = .ok (.istore 4, 2) := by decide +kernel
theorem dT_pieceOnWay_98 : decode kT_pieceOnWay 98 = .ok (.iload 4, 2) := by decide +kernel
theorem dT_pieceOnWay_100 : decode kT_pieceOnWay 100 = .ok (.aload_n 0, 1) := by decide +kernel
theorem dT_pieceOnWay_101 : decode kT_pieceOnWay 101 = .ok (.iload 5, 2) := by decide +kernel
theorem dT_pieceOnWay_103 : decode kT_pieceOnWay 103 = .ok (.invokevirtual 180, 3) := by decide +kernel
theorem dT_pieceOnWay_106 : decode kT_pieceOnWay 106 = .ok (.if_icmp .ge 13, 3) := by decide +kernel
theorem dT_pieceOnWay_109 : decode kT_pieceOnWay 109 = .ok (.aload_n 0, 1) := by decide +kernel
theorem dT_pieceOnWay_110 : decode kT_pieceOnWay 110 = .ok (.iload 5, 2) := by decide +kernel
theorem dT_pieceOnWay_112 : decode kT_pieceOnWay 112 = .ok (.invokevirtual 177, 3) := by decide +kernel
theorem dT_pieceOnWay_115 : decode kT_pieceOnWay 115 = .ok (.iload 4, 2) := by decide +kernel
theorem dT_pieceOnWay_117 : decode kT_pieceOnWay 117 = .ok (.iadd, 1) := by decide +kernel
theorem dT_pieceOnWay_118 : decode kT_pieceOnWay 118 = .ok (.ireturn, 1) := by decide +kernel
theorem dT_pieceOnWay_119 : decode kT_pieceOnWay 119 = .ok (.iload 4, 2) := by decide +kernel
theorem dT_pieceOnWay_121 : decode kT_pieceOnWay 121 = .ok (.aload_n 0, 1) := by decide +kernel
theorem dT_pieceOnWay_122 : decode kT_pieceOnWay 122 = .ok (.iload 5, 2) := by decide +kernel
theorem dT_pieceOnWay_124 : decode kT_pieceOnWay 124 = .ok (.invokevirtual 180, 3) := by decide +kernel
theorem dT_pieceOnWay_127 : decode kT_pieceOnWay 127 = .ok (.isub, 1) := by decide +kernel
theorem dT_pieceOnWay_128 : decode kT_pieceOnWay 128 = .ok (.istore 4, 2) := by decide +kernel
theorem dT_pieceOnWay_130 : decode kT_pieceOnWay 130 = .ok (.iload 7, 2) := by decide +kernel
theorem dT_pieceOnWay_132 : decode kT_pieceOnWay 132 = .ok (.ifCond .eq 15, 3) := by decide +kernel
theorem dT_pieceOnWay_135 : decode kT_pieceOnWay 135 = .ok (.aload_n 0, 1) := by decide +kernel
theorem dT_pieceOnWay_136 : decode kT_pieceOnWay 136 = .ok (.getfield 28, 3) := by decide +kernel
theorem dT_pieceOnWay_139 : decode kT_pieceOnWay 139 = .ok (.iload 5, 2) := by decide +kernel
theorem dT_pieceOnWay_141 : decode kT_pieceOnWay 141 = .ok (.invokevirtual 172, 3) := by decide +kernel
theorem dT_pieceOnWay_144 : decode kT_pieceOnWay 144 = .ok (.goto 12, 3) := by decide +kernel
theorem dT_pieceOnWay_147 : decode kT_pieceOnWay 147 = .ok (.aload_n 0, 1) := by decide +kernel
theorem dT_pieceOnWay_148 : decode kT_pieceOnWay 148 = .ok (.getfield 25, 3) := by decide +kernel
theorem dT_pieceOnWay_151 : decode kT_pieceOnWay 151 = .ok (.iload 5, 2) := by decide +kernel
theorem dT_pieceOnWay_153 : decode kT_pieceOnWay 153 = .ok (.invokevirtual 172, 3) := by decide +kernel
theorem dT_pieceOnWay_156 : decode kT_pieceOnWay 156 = .ok (.istore 5, 2) := by decide +kernel
theorem dT_pieceOnWay_158 : decode kT_pieceOnWay 158 = .ok (.iinc 6 1, 3) := by decide +kernel
theorem dT_pieceOnWay_161 : decode kT_pieceOnWay 161 = .ok (.goto (-146), 3) := by decide +kernel
theorem dT_pieceOnWay_164 : decode kT_pieceOnWay 164 = .ok (.iconst (-1), 1) := by decide +kernel
theorem dT_pieceOnWay_165 : decode kT_pieceOnWay 165 = .ok (.ireturn, 1) := by decide +kernel
theorem dT_piecesIn_0 : decode kT_piecesIn 0 = .ok (.aload_n 0, 1) := by decide +kernel
theorem dT_piecesIn_1 : decode kT_piecesIn 1 = .ok (.iload_n 1, 1) := by decide +kernel
theorem dT_piecesIn_2 : decode kT_piecesIn 2 = .ok (.invokevirtual 174, 3) := by decide +kernel
theorem dT_piecesIn_5 : decode kT_piecesIn 5 = .ok (.ifCond .eq 26, 3) := by decide +kernel
theorem dT_piecesIn_8 : decode kT_piecesIn 8 = .ok (.aload_n 0, 1) := by decide +kernel
theorem dT_piecesIn_9 : decode kT_piecesIn 9 = .ok (.iload_n 1, 1) := by decide +kernel
theorem dT_piecesIn_10 : decode kT_piecesIn 10 = .ok (.aload_n 0, 1) := by decide +kernel
theorem dT_piecesIn_11 : decode kT_piecesIn 11 = .ok (.getfield 31, 3) := by decide +kernel
theorem dT_piecesIn_14 : decode kT_piecesIn 14 = .ok (.iload_n 1, 1) := by decide +kernel
theorem dT_piecesIn_15 : decode kT_piecesIn 15 = .ok (.invokevirtual 172, 3) := by decide +kernel
theorem dT_piecesIn_18 : decode kT_piecesIn 18 = .ok (.iadd, 1) := by decide +kernel
theorem dT_piecesIn_19 : decode kT_piecesIn 19 = .ok (.invokevirtual 177, 3) := by decide +kernel
theorem dT_piecesIn_22 : decode kT_piecesIn 22 = .ok (.aload_n 0, 1) := by decide +kernel
theorem dT_piecesIn_23 : decode kT_piecesIn 23 = .ok (.iload_n 1, 1) := by decide +kernel
theorem dT_piecesIn_24 : decode kT_piecesIn 24 = .ok (.invokevirtual 177, 3) := by decide +kernel
theorem dT_piecesIn_27 : decode kT_piecesIn 27 = .ok (.isub, 1) := by decide +kernel
theorem dT_piecesIn_28 : decode kT_piecesIn 28 = .ok (.goto 4, 3) := by decide +kernel
theorem dT_piecesIn_31 : decode kT_piecesIn 31 = .ok (.iconst 0, 1) := by decide +kernel
theorem dT_piecesIn_32 : decode kT_piecesIn 32 = .ok (.ireturn, 1) := by decide +kernel
theorem dT_nodeOfPiece_0 : decode kT_nodeOfPiece 0 = .ok (.aload_n 0, 1) := by decide +kernel
theorem dT_nodeOfPiece_1 : decode kT_nodeOfPiece 1 = .ok (.getfield 47, 3) := by decide +kernel
theorem dT_nodeOfPiece_4 : decode kT_nodeOfPiece 4 = .ok (.iload_n 1, 1) := by decide +kernel
theorem dT_nodeOfPiece_5 : decode kT_nodeOfPiece 5 = .ok (.invokevirtual 172, 3) := by decide +kernel
theorem dT_nodeOfPiece_8 : decode kT_nodeOfPiece 8 = .ok (.ireturn, 1) := by decide +kernel
theorem dT_placeInNode_0 : decode kT_placeInNode 0 = .ok (.iload_n 1, 1) := by decide +kernel
theorem dT_placeInNode_1 : decode kT_placeInNode 1 = .ok (.iconst (-1), 1) := by decide +kernel
theorem dT_placeInNode_2 : decode kT_placeInNode 2 = .ok (.if_icmp .ne 7, 3) := by decide +kernel
theorem dT_placeInNode_5 : decode kT_placeInNode 5 = .ok (.iconst (-1), 1) := by decide +kernel
theorem dT_placeInNode_6 : decode kT_placeInNode 6 = .ok (.goto 17, 3) := by decide +kernel
theorem dT_placeInNode_9 : decode kT_placeInNode 9 = .ok (.iload_n 1, 1) := by decide +kernel
theorem dT_placeInNode_10 : decode kT_placeInNode 10 = .ok (.aload_n 0, 1) := by decide +kernel
theorem dT_placeInNode_11 : decode kT_placeInNode 11 = .ok (.aload_n 0, 1) := by decide +kernel
theorem dT_placeInNode_12 : decode kT_placeInNode 12 = .ok (.getfield 47, 3) := by decide +kernel
theorem dT_placeInNode_15 : decode kT_placeInNode 15 = .ok (.iload_n 1, 1) := by decide +kernel
theorem dT_placeInNode_16 : decode kT_placeInNode 16 = .ok (.invokevirtual 172, 3) := by decide +kernel
theorem dT_placeInNode_19 : decode kT_placeInNode 19 = .ok (.invokevirtual 177, 3) := by decide +kernel
theorem dT_placeInNode_22 : decode kT_placeInNode 22 = .ok (.isub, 1) := by decide +kernel
theorem dT_placeInNode_23 : decode kT_placeInNode 23 = .ok (.ireturn, 1) := by decide +kernel
theorem dT_wallAt_0 : decode kT_wallAt 0 = .ok (.aload_n 0, 1) := by decide +kernel
theorem dT_wallAt_1 : decode kT_wallAt 1 = .ok (.getfield 12, 3) := by decide +kernel
theorem dT_wallAt_4 : decode kT_wallAt 4 = .ok (.iload_n 1, 1) := by decide +kernel
theorem dT_wallAt_5 : decode kT_wallAt 5 = .ok (.invokevirtual 56, 3) := by decide +kernel
theorem dT_wallAt_8 : decode kT_wallAt 8 = .ok (.areturn, 1) := by decide +kernel
theorem dT_piecesOfWall_0 : decode kT_piecesOfWall 0 = .ok (.iconst 0, 1) := by decide +kernel
theorem dT_piecesOfWall_1 : decode kT_piecesOfWall 1 = .ok (.istore_n 2, 1) := by decide +kernel
theorem dT_piecesOfWall_2 : decode kT_piecesOfWall 2 = .ok (.iconst 0, 1) := by decide +kernel
theorem dT_piecesOfWall_3 : decode kT_piecesOfWall 3 = .ok (.istore_n 3, 1) := by decide +kernel
theorem dT_piecesOfWall_4 : decode kT_piecesOfWall 4 = .ok (.iload_n 3, 1) := by decide +kernel
theorem dT_piecesOfWall_5 : decode kT_piecesOfWall 5 = .ok (.aload_n 0, 1) := by decide +kernel
theorem dT_piecesOfWall_6 : decode kT_piecesOfWall 6 = .ok (.getfield 43, 3) := by decide +kernel
theorem dT_piecesOfWall_9 : decode kT_piecesOfWall 9 = .ok (.invokevirtual 98, 3) := by decide +kernel
theorem dT_piecesOfWall_12 : decode kT_piecesOfWall 12 = .ok (.if_icmp .ge 29, 3) := by decide +kernel
theorem dT_piecesOfWall_15 : decode kT_piecesOfWall 15 = .ok (.iload_n 2, 1) := by decide +kernel
theorem dT_piecesOfWall_16 : decode kT_piecesOfWall 16 = .ok (.aload_n 0, 1) := by decide +kernel
theorem dT_piecesOfWall_17 : decode kT_piecesOfWall 17 = .ok (.getfield 43, 3) := by decide +kernel
theorem dT_piecesOfWall_20 : decode kT_piecesOfWall 20 = .ok (.iload_n 3, 1) := by decide +kernel
theorem dT_piecesOfWall_21 : decode kT_piecesOfWall 21 = .ok (.invokevirtual 119, 3) := by decide +kernel
theorem dT_piecesOfWall_24 : decode kT_piecesOfWall 24 = .ok (.iload_n 1, 1) := by decide +kernel
theorem dT_piecesOfWall_25 : decode kT_piecesOfWall 25 = .ok (.if_icmp .ne 7, 3) := by decide +kernel
theorem dT_piecesOfWall_28 : decode kT_piecesOfWall 28 = .ok (.iconst 1, 1) := by decide +kernel
theorem dT_piecesOfWall_29 : decode kT_piecesOfWall 29 = .ok (.goto 4, 3) := by decide +kernel
theorem dT_piecesOfWall_32 : decode kT_piecesOfWall 32 = .ok (.iconst 0, 1) := by decide +kernel
theorem dT_piecesOfWall_33 : decode kT_piecesOfWall 33 = .ok (.iadd, 1) := by decide +kernel
theorem dT_piecesOfWall_34 : decode kT_piecesOfWall 34 = .ok (.istore_n 2, 1) := by decide +kernel
theorem dT_piecesOfWall_35 : decode kT_piecesOfWall 35 = .ok (.iinc 3 1, 3) := by decide +kernel
theorem dT_piecesOfWall_38 : decode kT_piecesOfWall 38 = .ok (.goto (-34), 3) := by decide +kernel
theorem dT_piecesOfWall_41 : decode kT_piecesOfWall 41 = .ok (.iload_n 2, 1) := by decide +kernel
theorem dT_piecesOfWall_42 : decode kT_piecesOfWall 42 = .ok (.ireturn, 1) := by decide +kernel
theorem dT_wallCount_0 : decode kT_wallCount 0 = .ok (.aload_n 0, 1) := by decide +kernel
theorem dT_wallCount_1 : decode kT_wallCount 1 = .ok (.getfield 12, 3) := by decide +kernel
theorem dT_wallCount_4 : decode kT_wallCount 4 = .ok (.invokevirtual 60, 3) := by decide +kernel
theorem dT_wallCount_7 : decode kT_wallCount 7 = .ok (.ireturn, 1) := by decide +kernel
theorem dT_nodeCount_0 : decode kT_nodeCount 0 = .ok (.aload_n 0, 1) := by decide +kernel
theorem dT_nodeCount_1 : decode kT_nodeCount 1 = .ok (.getfield 21, 3) := by decide +kernel
theorem dT_nodeCount_4 : decode kT_nodeCount 4 = .ok (.invokevirtual 99, 3) := by decide +kernel
theorem dT_nodeCount_7 : decode kT_nodeCount 7 = .ok (.ireturn, 1) := by decide +kernel
theorem dT_height_0 : decode kT_height 0 = .ok (.aload_n 0, 1) := by decide +kernel
theorem dT_height_1 : decode kT_height 1 = .ok (.getfield 94, 3) := by decide +kernel
theorem dT_height_4 : decode kT_height 4 = .ok (.ireturn, 1) := by decide +kernel
end
section
theorem dM_init_0 : decode kM_init 0 = .ok (.aload_n 0, 1) := by decide +kernel
theorem dM_init_1 : decode kM_init 1 = .ok (.invokespecial 1, 3) := by decide +kernel
theorem dM_init_4 : decode kM_init 4 = .ok (.aload_n 0, 1) := by decide +kernel
theorem dM_init_5 : decode kM_init 5 = .ok (.bipush 64, 2) := by decide +kernel
theorem dM_init_7 : decode kM_init 7 = .ok (.newarray .boolean, 2) := by decide +kernel
theorem dM_init_9 : decode kM_init 9 = .ok (.putfield 7, 3) := by decide +kernel
theorem dM_init_12 : decode kM_init 12 = .ok (.aload_n 0, 1) := by decide +kernel
theorem dM_init_13 : decode kM_init 13 = .ok (.bipush 64, 2) := by decide +kernel
theorem dM_init_15 : decode kM_init 15 = .ok (.newarray .int, 2) := by decide +kernel
theorem dM_init_17 : decode kM_init 17 = .ok (.putfield 13, 3) := by decide +kernel
theorem dM_init_20 : decode kM_init 20 = .ok (.aload_n 0, 1) := by decide +kernel
theorem dM_init_21 : decode kM_init 21 = .ok (.bipush 64, 2) := by decide +kernel
theorem dM_init_23 : decode kM_init 23 = .ok (.newarray .int, 2) := by decide +kernel
theorem dM_init_25 : decode kM_init 25 = .ok (.putfield 17, 3) := by decide +kernel
theorem dM_init_28 : decode kM_init 28 = .ok (.aload_n 0, 1) := by decide +kernel
theorem dM_init_29 : decode kM_init 29 = .ok (.bipush 64, 2) := by decide +kernel
theorem dM_init_31 : decode kM_init 31 = .ok (.newarray .int, 2) := by decide +kernel
theorem dM_init_33 : decode kM_init 33 = .ok (.putfield 20, 3) := by decide +kernel
theorem dM_init_36 : decode kM_init 36 = .ok (.aload_n 0, 1) := by decide +kernel
theorem dM_init_37 : decode kM_init 37 = .ok (.bipush 64, 2) := by decide +kernel
theorem dM_init_39 : decode kM_init 39 = .ok (.newarray .int, 2) := by decide +kernel
theorem dM_init_41 : decode kM_init 41 = .ok (.putfield 23, 3) := by decide +kernel
theorem dM_init_44 : decode kM_init 44 = .ok (.aload_n 0, 1) := by decide +kernel
theorem dM_init_45 : decode kM_init 45 = .ok (.sipush 8300, 3) := by decide +kernel
theorem dM_init_48 : decode kM_init 48 = .ok (.newarray .int, 2) := by decide +kernel
theorem dM_init_50 : decode kM_init 50 = .ok (.putfield 26, 3) := by decide +kernel
theorem dM_init_53 : decode kM_init 53 = .ok (.aload_n 0, 1) := by decide +kernel
theorem dM_init_54 : decode kM_init 54 = .ok (.sipush 8300, 3) := by decide +kernel
theorem dM_init_57 : decode kM_init 57 = .ok (.newarray .long, 2) := by decide +kernel
theorem dM_init_59 : decode kM_init 59 = .ok (.putfield 29, 3) := by decide +kernel
theorem dM_init_62 : decode kM_init 62 = .ok (.aload_n 0, 1) := by decide +kernel
theorem dM_init_63 : decode kM_init 63 = .ok (.sipush 8300, 3) := by decide +kernel
theorem dM_init_66 : decode kM_init 66 = .ok (.newarray .long, 2) := by decide +kernel
theorem dM_init_68 : decode kM_init 68 = .ok (.putfield 33, 3) := by decide +kernel
theorem dM_init_71 : decode kM_init 71 = .ok (.aload_n 0, 1) := by decide +kernel
theorem dM_init_72 : decode kM_init 72 = .ok (.sipush 8300, 3) := by decide +kernel
theorem dM_init_75 : decode kM_init 75 = .ok (.newarray .long, 2) := by decide +kernel
theorem dM_init_77 : decode kM_init 77 = .ok (.putfield 36, 3) := by decide +kernel
theorem dM_init_80 : decode kM_init 80 = .ok (.aload_n 0, 1) := by decide +kernel
theorem dM_init_81 : decode kM_init 81 = .ok (.sipush 8300, 3) := by decide +kernel
theorem dM_init_84 : decode kM_init 84 = .ok (.newarray .long, 2) := by decide +kernel
theorem dM_init_86 : decode kM_init 86 = .ok (.putfield 39, 3) := by decide +kernel
theorem dM_init_89 : decode kM_init 89 = .ok (.aload_n 0, 1) := by decide +kernel
theorem dM_init_90 : decode kM_init 90 = .ok (.sipush 9000, 3) := by decide +kernel
theorem dM_init_93 : decode kM_init 93 = .ok (.newarray .int, 2) := by decide +kernel
theorem dM_init_95 : decode kM_init 95 = .ok (.putfield 42, 3) := by decide +kernel
theorem dM_init_98 : decode kM_init 98 = .ok (.aload_n 0, 1) := by decide +kernel
theorem dM_init_99 : decode kM_init 99 = .ok (.sipush 140, 3) := by decide +kernel
theorem dM_init_102 : decode kM_init 102 = .ok (.newarray .int, 2) := by decide +kernel
theorem dM_init_104 : decode kM_init 104 = .ok (.putfield 45, 3) := by decide +kernel
theorem dM_init_107 : decode kM_init 107 = .ok (.aload_n 0, 1) := by decide +kernel
theorem dM_init_108 : decode kM_init 108 = .ok (.sipush 140, 3) := by decide +kernel
theorem dM_init_111 : decode kM_init 111 = .ok (.newarray .int, 2) := by decide +kernel
theorem dM_init_113 : decode kM_init 113 = .ok (.putfield 48, 3) := by decide +kernel
theorem dM_init_116 : decode kM_init 116 = .ok (.aload_n 0, 1) := by decide +kernel
theorem dM_init_117 : decode kM_init 117 = .ok (.sipush 140, 3) := by decide +kernel
theorem dM_init_120 : decode kM_init 120 = .ok (.newarray .int, 2) := by decide +kernel
theorem dM_init_122 : decode kM_init 122 = .ok (.putfield 51, 3) := by decide +kernel
theorem dM_init_125 : decode kM_init 125 = .ok (.aload_n 0, 1) := by decide +kernel
theorem dM_init_126 : decode kM_init 126 = .ok (.sipush 140, 3) := by decide +kernel
theorem dM_init_129 : decode kM_init 129 = .ok (.newarray .int, 2) := by decide +kernel
theorem dM_init_131 : decode kM_init 131 = .ok (.putfield 54, 3) := by decide +kernel
theorem dM_init_134 : decode kM_init 134 = .ok (.aload_n 0, 1) := by decide +kernel
theorem dM_init_135 : decode kM_init 135 = .ok (.sipush 4200, 3) := by decide +kernel
theorem dM_init_138 : decode kM_init 138 = .ok (.newarray .int, 2) := by decide +kernel
theorem dM_init_140 : decode kM_init 140 = .ok (.putfield 57, 3) := by decide +kernel
theorem dM_init_143 : decode kM_init 143 = .ok (.aload_n 0, 1) := by decide +kernel
theorem dM_init_144 : decode kM_init 144 = .ok (.sipush 4200, 3) := by decide +kernel
theorem dM_init_147 : decode kM_init 147 = .ok (.newarray .int, 2) := by decide +kernel
theorem dM_init_149 : decode kM_init 149 = .ok (.putfield 60, 3) := by decide +kernel
theorem dM_init_152 : decode kM_init 152 = .ok (.aload_n 0, 1) := by decide +kernel
theorem dM_init_153 : decode kM_init 153 = .ok (.sipush 4200, 3) := by decide +kernel
theorem dM_init_156 : decode kM_init 156 = .ok (.newarray .int, 2) := by decide +kernel
theorem dM_init_158 : decode kM_init 158 = .ok (.putfield 63, 3) := by decide +kernel
theorem dM_init_161 : decode kM_init 161 = .ok (.aload_n 0, 1) := by decide +kernel
theorem dM_init_162 : decode kM_init 162 = .ok (.sipush 4200, 3) := by decide +kernel
theorem dM_init_165 : decode kM_init 165 = .ok (.newarray .int, 2) := by decide +kernel
theorem dM_init_167 : decode kM_init 167 = .ok (.putfield 66, 3) := by decide +kernel
theorem dM_init_170 : decode kM_init 170 = .ok (.aload_n 0, 1) := by decide +kernel
theorem dM_init_171 : decode kM_init 171 = .ok (.sipush 4200, 3) := by decide +kernel
theorem dM_init_174 : decode kM_init 174 = .ok (.newarray .int, 2) := by decide +kernel
theorem dM_init_176 : decode kM_init 176 = .ok (.putfield 69, 3) := by decide +kernel
theorem dM_init_179 : decode kM_init 179 = .ok (.aload_n 0, 1) := by decide +kernel
theorem dM_init_180 : decode kM_init 180 = .ok (.sipush 4200, 3) := by decide +kernel
theorem dM_init_183 : decode kM_init 183 = .ok (.newarray .int, 2) := by decide +kernel
theorem dM_init_185 : decode kM_init 185 = .ok (.putfield 72, 3) := by decide +kernel
theorem dM_init_188 : decode kM_init 188 = .ok (.aload_n 0, 1) := by decide +kernel
theorem dM_init_189 : decode kM_init 189 = .ok (.sipush 8300, 3) := by decide +kernel
theorem dM_init_192 : decode kM_init 192 = .ok (.newarray .int, 2) := by decide +kernel
theorem dM_init_194 : decode kM_init 194 = .ok (.putfield 75, 3) := by decide +kernel
theorem dM_init_197 : decode kM_init 197 = .ok (.aload_n 0, 1) := by decide +kernel
theorem dM_init_198 : decode kM_init 198 = .ok (.bipush 64, 2) := by decide +kernel
theorem dM_init_200 : decode kM_init 200 = .ok (.newarray .int, 2) := by decide +kernel
theorem dM_init_202 : decode kM_init 202 = .ok (.putfield 78, 3) := by decide +kernel
theorem dM_init_205 : decode kM_init 205 = .ok (.aload_n 0, 1) := by decide +kernel
theorem dM_init_206 : decode kM_init 206 = .ok (.sipush 8600, 3) := by decide +kernel
theorem dM_init_209 : decode kM_init 209 = .ok (.newarray .int, 2) := by decide +kernel
theorem dM_init_211 : decode kM_init 211 = .ok (.putfield 81, 3) := by decide +kernel
theorem dM_init_214 : decode kM_init 214 = .ok (.return_, 1) := by decide +kernel
theorem dM_put_0 : decode kM_put 0 = .ok (.aload_n 0, 1) := by decide +kernel
theorem dM_put_1 : decode kM_put 1 = .ok (.iconst 0, 1) := by decide +kernel
theorem dM_put_2 : decode kM_put 2 = .ok (.putfield 84, 3) := by decide +kernel
theorem dM_put_5 : decode kM_put 5 = .ok (.aload_n 0, 1) := by decide +kernel
theorem dM_put_6 : decode kM_put 6 = .ok (.invokevirtual 117, 3) := by decide +kernel
theorem dM_put_9 : decode kM_put 9 = .ok (.istore 5, 2) := by decide +kernel
theorem dM_put_11 : decode kM_put 11 = .ok (.iload_n 1, 1) := by decide +kernel
theorem dM_put_12 : decode kM_put 12 = .ok (.invokestatic 121, 3) := by decide +kernel
theorem dM_put_15 : decode kM_put 15 = .ok (.ifCond .eq 41, 3) := by decide +kernel
theorem dM_put_18 : decode kM_put 18 = .ok (.iload_n 2, 1) := by decide +kernel
theorem dM_put_19 : decode kM_put 19 = .ok (.invokestatic 121, 3) := by decide +kernel
theorem dM_put_22 : decode kM_put 22 = .ok (.ifCond .eq 34, 3) := by decide +kernel
theorem dM_put_25 : decode kM_put 25 = .ok (.iload_n 3, 1) := by decide +kernel
theorem dM_put_26 : decode kM_put 26 = .ok (.invokestatic 121, 3) := by decide +kernel
theorem dM_put_29 : decode kM_put 29 = .ok (.ifCond .eq 27, 3) := by decide +kernel
theorem dM_put_32 : decode kM_put 32 = .ok (.iload 4, 2) := by decide +kernel
theorem dM_put_34 : decode kM_put 34 = .ok (.invokestatic 121, 3) := by decide +kernel
theorem dM_put_37 : decode kM_put 37 = .ok (.ifCond .eq 19, 3) := by decide +kernel
theorem dM_put_40 : decode kM_put 40 = .ok (.iload_n 1, 1) := by decide +kernel
theorem dM_put_41 : decode kM_put 41 = .ok (.iload_n 3, 1) := by decide +kernel
theorem dM_put_42 : decode kM_put 42 = .ok (.if_icmp .ne 9, 3) := by decide +kernel
theorem dM_put_45 : decode kM_put 45 = .ok (.iload_n 2, 1) := by decide +kernel
theorem dM_put_46 : decode kM_put 46 = .ok (.iload 4, 2) := by decide +kernel
theorem dM_put_48 : decode kM_put 48 = .ok (.if_icmp .eq 8, 3) := by decide +kernel
theorem dM_put_51 : decode kM_put 51 = .ok (.iload 5, 2) := by decide +kernel
theorem dM_put_53 : decode kM_put 53 = .ok (.ifCond .ge 5, 3) := by decide +kernel
theorem dM_put_56 : decode kM_put 56 = .ok (.iconst (-1), 1) := by decide +kernel
theorem dM_put_57 : decode kM_put 57 = .ok (.ireturn, 1) := by decide +kernel
theorem dM_put_58 : decode kM_put 58 = .ok (.aload_n 0, 1) := by decide +kernel
theorem dM_put_59 : decode kM_put 59 = .ok (.getfield 13, 3) := by decide +kernel
theorem dM_put_62 : decode kM_put 62 = .ok (.iload 5, 2) := by decide +kernel
theorem dM_put_64 : decode kM_put 64 = .ok (.iload_n 1, 1) := by decide +kernel
theorem dM_put_65 : decode kM_put 65 = .ok (.iastore, 1) := by decide +kernel
theorem dM_put_66 : decode kM_put 66 = .ok (.aload_n 0, 1) := by decide +kernel
theorem dM_put_67 : decode kM_put 67 = .ok (.getfield 17, 3) := by decide +kernel
theorem dM_put_70 : decode kM_put 70 = .ok (.iload 5, 2) := by decide +kernel
theorem dM_put_72 : decode kM_put 72 = .ok (.iload_n 2, 1) := by decide +kernel
theorem dM_put_73 : decode kM_put 73 = .ok (.iastore, 1) := by decide +kernel
theorem dM_put_74 : decode kM_put 74 = .ok (.aload_n 0, 1) := by decide +kernel
theorem dM_put_75 : decode kM_put 75 = .ok (.getfield 20, 3) := by decide +kernel
theorem dM_put_78 : decode kM_put 78 = .ok (.iload 5, 2) := by decide +kernel
theorem dM_put_80 : decode kM_put 80 = .ok (.iload_n 3, 1) := by decide +kernel
theorem dM_put_81 : decode kM_put 81 = .ok (.iastore, 1) := by decide +kernel
theorem dM_put_82 : decode kM_put 82 = .ok (.aload_n 0, 1) := by decide +kernel
theorem dM_put_83 : decode kM_put 83 = .ok (.getfield 23, 3) := by decide +kernel
theorem dM_put_86 : decode kM_put 86 = .ok (.iload 5, 2) := by decide +kernel
theorem dM_put_88 : decode kM_put 88 = .ok (.iload 4, 2) := by decide +kernel
theorem dM_put_90 : decode kM_put 90 = .ok (.iastore, 1) := by decide +kernel
theorem dM_put_91 : decode kM_put 91 = .ok (.iconst 0, 1) := by decide +kernel
theorem dM_put_92 : decode kM_put 92 = .ok (.istore 6, 2) := by decide +kernel
theorem dM_put_94 : decode kM_put 94 = .ok (.iload 6, 2) := by decide +kernel
theorem dM_put_96 : decode kM_put 96 = .ok (.bipush 64, 2) := by decide +kernel
theorem dM_put_98 : decode kM_put 98 = .ok (.if_icmp .ge 32, 3) := by decide +kernel
theorem dM_put_101 : decode kM_put 101 = .ok (.aload_n 0, 1) := by decide +kernel
theorem dM_put_102 : decode kM_put 102 = .ok (.getfield 7, 3) := by decide +kernel
theorem dM_put_105 : decode kM_put 105 = .ok (.iload 6, 2) := by decide +kernel
theorem dM_put_107 : decode kM_put 107 = .ok (.baload, 1) := by decide +kernel
theorem dM_put_108 : decode kM_put 108 = .ok (.ifCond .eq 16, 3) := by decide +kernel
theorem dM_put_111 : decode kM_put 111 = .ok (.aload_n 0, 1) := by decide +kernel
theorem dM_put_112 : decode kM_put 112 = .ok (.iload 5, 2) := by decide +kernel
theorem dM_put_114 : decode kM_put 114 = .ok (.iload 6, 2) := by decide +kernel
theorem dM_put_116 : decode kM_put 116 = .ok (.invokevirtual 125, 3) := by decide +kernel
theorem dM_put_119 : decode kM_put 119 = .ok (.ifCond .eq 5, 3) := by decide +kernel
theorem dM_put_122 : decode kM_put 122 = .ok (.iconst (-1), 1) := by decide +kernel
theorem dM_put_123 : decode kM_put 123 = .ok (.ireturn, 1) := by decide +kernel
theorem dM_put_124 : decode kM_put 124 = .ok (.iinc 6 1, 3) := by decide +kernel
theorem dM_put_127 : decode kM_put 127 = .ok (.goto (-33), 3) := by decide +kernel
theorem dM_put_130 : decode kM_put 130 = .ok (.aload_n 0, 1) := by decide +kernel
theorem dM_put_131 : decode kM_put 131 = .ok (.getfield 7, 3) := by decide +kernel
theorem dM_put_134 : decode kM_put 134 = .ok (.iload 5, 2) := by decide +kernel
theorem dM_put_136 : decode kM_put 136 = .ok (.iconst 1, 1) := by decide +kernel
theorem dM_put_137 : decode kM_put 137 = .ok (.bastore, 1) := by decide +kernel
theorem dM_put_138 : decode kM_put 138 = .ok (.aload_n 0, 1) := by decide +kernel
theorem dM_put_139 : decode kM_put 139 = .ok (.dup, 1) := by decide +kernel
theorem dM_put_140 : decode kM_put 140 = .ok (.getfield 129, 3) := by decide +kernel
theorem dM_put_143 : decode kM_put 143 = .ok (.iconst 1, 1) := by decide +kernel
theorem dM_put_144 : decode kM_put 144 = .ok (.iadd, 1) := by decide +kernel
theorem dM_put_145 : decode kM_put 145 = .ok (.putfield 129, 3) := by decide +kernel
theorem dM_put_148 : decode kM_put 148 = .ok (.aload_n 0, 1) := by decide +kernel
theorem dM_put_149 : decode kM_put 149 = .ok (.iconst 0, 1) := by decide +kernel
theorem dM_put_150 : decode kM_put 150 = .ok (.putfield 132, 3) := by decide +kernel
theorem dM_put_153 : decode kM_put 153 = .ok (.iload 5, 2) := by decide +kernel
theorem dM_put_155 : decode kM_put 155 = .ok (.ireturn, 1) := by decide +kernel
theorem dM_free_0 : decode kM_free 0 = .ok (.iconst 0, 1) := by decide +kernel
theorem dM_free_1 : decode kM_free 1 = .ok (.istore_n 1, 1) := by decide +kernel
theorem dM_free_2 : decode kM_free 2 = .ok (.iload_n 1, 1) := by decide +kernel
theorem dM_free_3 : decode kM_free 3 = .ok (.bipush 64, 2) := by decide +kernel
theorem dM_free_5 : decode kM_free 5 = .ok (.if_icmp .ge 18, 3) := by decide +kernel
theorem dM_free_8 : decode kM_free 8 = .ok (.aload_n 0, 1) := by decide +kernel
theorem dM_free_9 : decode kM_free 9 = .ok (.getfield 7, 3) := by decide +kernel
theorem dM_free_12 : decode kM_free 12 = .ok (.iload_n 1, 1) := by decide +kernel
theorem dM_free_13 : decode kM_free 13 = .ok (.baload, 1) := by decide +kernel
theorem dM_free_14 : decode kM_free 14 = .ok (.ifCond .eq 9, 3) := by decide +kernel
theorem dM_free_17 : decode kM_free 17 = .ok (.iinc 1 1, 3) := by decide +kernel
theorem dM_free_20 : decode kM_free 20 = .ok (.goto (-18), 3) := by decide +kernel
theorem dM_free_23 : decode kM_free 23 = .ok (.iload_n 1, 1) := by decide +kernel
theorem dM_free_24 : decode kM_free 24 = .ok (.bipush 64, 2) := by decide +kernel
theorem dM_free_26 : decode kM_free 26 = .ok (.if_icmp .ge 7, 3) := by decide +kernel
theorem dM_free_29 : decode kM_free 29 = .ok (.iload_n 1, 1) := by decide +kernel
theorem dM_free_30 : decode kM_free 30 = .ok (.goto 4, 3) := by decide +kernel
theorem dM_free_33 : decode kM_free 33 = .ok (.iconst (-1), 1) := by decide +kernel
theorem dM_free_34 : decode kM_free 34 = .ok (.ireturn, 1) := by decide +kernel
theorem dM_isPlace_0 : decode kM_isPlace 0 = .ok (.iload_n 0, 1) := by decide +kernel
theorem dM_isPlace_1 : decode kM_isPlace 1 = .ok (.sipush (-32768), 3) := by decide +kernel
theorem dM_isPlace_4 : decode kM_isPlace 4 = .ok (.if_icmp .lt 14, 3) := by decide +kernel
theorem dM_isPlace_7 : decode kM_isPlace 7 = .ok (.iload_n 0, 1) := by decide +kernel
theorem dM_isPlace_8 : decode kM_isPlace 8 = .ok (.sipush 32767, 3) := by decide +kernel
theorem dM_isPlace_11 : decode kM_isPlace 11 = .ok (.if_icmp .gt 7, 3) := by decide +kernel
theorem dM_isPlace_14 : decode kM_isPlace 14 = .ok (.iconst 1, 1) := by decide +kernel
theorem dM_isPlace_15 : decode kM_isPlace 15 = .ok (.goto 4, 3) := by decide +kernel
theorem dM_isPlace_18 : decode kM_isPlace 18 = .ok (.iconst 0, 1) := by decide +kernel
theorem dM_isPlace_19 : decode kM_isPlace 19 = .ok (.ireturn, 1) := by decide +kernel
theorem dM_touch_0 : decode kM_touch 0 = .ok (.aload_n 0, 1) := by decide +kernel
theorem dM_touch_1 : decode kM_touch 1 = .ok (.iload_n 2, 1) := by decide +kernel
theorem dM_touch_2 : decode kM_touch 2 = .ok (.aload_n 0, 1) := by decide +kernel
theorem dM_touch_3 : decode kM_touch 3 = .ok (.getfield 13, 3) := by decide +kernel
theorem dM_touch_6 : decode kM_touch 6 = .ok (.iload_n 1, 1) := by decide +kernel
theorem dM_touch_7 : decode kM_touch 7 = .ok (.iaload, 1) := by decide +kernel
theorem dM_touch_8 : decode kM_touch 8 = .ok (.aload_n 0, 1) := by decide +kernel
theorem dM_touch_9 : decode kM_touch 9 = .ok (.getfield 17, 3) := by decide +kernel
theorem dM_touch_12 : decode kM_touch 12 = .ok (.iload_n 1, 1) := by decide +kernel
theorem dM_touch_13 : decode kM_touch 13 = .ok (.iaload, 1) := by decide +kernel
theorem dM_touch_14 : decode kM_touch 14 = .ok (.invokevirtual 102, 3) := by decide +kernel
theorem dM_touch_17 : decode kM_touch 17 = .ok (.ifCond .eq 27, 3) := by decide +kernel
theorem dM_touch_20 : decode kM_touch 20 = .ok (.aload_n 0, 1) := by decide +kernel
theorem dM_touch_21 : decode kM_touch 21 = .ok (.iload_n 2, 1) := by decide +kernel
theorem dM_touch_22 : decode kM_touch 22 = .ok (.aload_n 0, 1) := by decide +kernel
theorem dM_touch_23 : decode kM_touch 23 = .ok (.getfield 20, 3) := by decide +kernel
theorem dM_touch_26 : decode kM_touch 26 = .ok (.iload_n 1, 1) := by decide +kernel
theorem dM_touch_27 : decode kM_touch 27 = .ok (.iaload, 1) := by decide +kernel
theorem dM_touch_28 : decode kM_touch 28 = .ok (.aload_n 0, 1) := by decide +kernel
theorem dM_touch_29 : decode kM_touch 29 = .ok (.getfield 23, 3) := by decide +kernel
theorem dM_touch_32 : decode kM_touch 32 = .ok (.iload_n 1, 1) := by decide +kernel
theorem dM_touch_33 : decode kM_touch 33 = .ok (.iaload, 1) := by decide +kernel
theorem dM_touch_34 : decode kM_touch 34 = .ok (.invokevirtual 102, 3) := by decide +kernel
theorem dM_touch_37 : decode kM_touch 37 = .ok (.ifCond .eq 7, 3) := by decide +kernel
theorem dM_touch_40 : decode kM_touch 40 = .ok (.iconst 1, 1) := by decide +kernel
theorem dM_touch_41 : decode kM_touch 41 = .ok (.goto 4, 3) := by decide +kernel
theorem dM_touch_44 : decode kM_touch 44 = .ok (.iconst 0, 1) := by decide +kernel
theorem dM_touch_45 : decode kM_touch 45 = .ok (.istore_n 3, 1) := by decide +kernel
theorem dM_touch_46 : decode kM_touch 46 = .ok (.aload_n 0, 1) := by decide +kernel
theorem dM_touch_47 : decode kM_touch 47 = .ok (.iload_n 1, 1) := by decide +kernel
theorem dM_touch_48 : decode kM_touch 48 = .ok (.aload_n 0, 1) := by decide +kernel
theorem dM_touch_49 : decode kM_touch 49 = .ok (.getfield 13, 3) := by decide +kernel
theorem dM_touch_52 : decode kM_touch 52 = .ok (.iload_n 2, 1) := by decide +kernel
theorem dM_touch_53 : decode kM_touch 53 = .ok (.iaload, 1) := by decide +kernel
theorem dM_touch_54 : decode kM_touch 54 = .ok (.i2l, 1) := by decide +kernel
theorem dM_touch_55 : decode kM_touch 55 = .ok (.aload_n 0, 1) := by decide +kernel
theorem dM_touch_56 : decode kM_touch 56 = .ok (.getfield 17, 3) := by decide +kernel
theorem dM_touch_59 : decode kM_touch 59 = .ok (.iload_n 2, 1) := by decide +kernel
theorem dM_touch_60 : decode kM_touch 60 = .ok (.iaload, 1) := by decide +kernel
theorem dM_touch_61 : decode kM_touch 61 = .ok (.i2l, 1) := by decide +kernel
theorem dM_touch_62 : decode kM_touch 62 = .ok (.invokevirtual 106, 3) := by decide +kernel
theorem dM_touch_65 : decode kM_touch 65 = .ok (.aload_n 0, 1) := by decide +kernel
theorem dM_touch_66 : decode kM_touch 66 = .ok (.iload_n 1, 1) := by decide +kernel
theorem dM_touch_67 : decode kM_touch 67 = .ok (.aload_n 0, 1) := by decide +kernel
theorem dM_touch_68 : decode kM_touch 68 = .ok (.getfield 20, 3) := by decide +kernel
theorem dM_touch_71 : decode kM_touch 71 = .ok (.iload_n 2, 1) := by decide +kernel
theorem dM_touch_72 : decode kM_touch 72 = .ok (.iaload, 1) := by decide +kernel
theorem dM_touch_73 : decode kM_touch 73 = .ok (.i2l, 1) := by decide +kernel
theorem dM_touch_74 : decode kM_touch 74 = .ok (.aload_n 0, 1) := by decide +kernel
theorem dM_touch_75 : decode kM_touch 75 = .ok (.getfield 23, 3) := by decide +kernel
theorem dM_touch_78 : decode kM_touch 78 = .ok (.iload_n 2, 1) := by decide +kernel
theorem dM_touch_79 : decode kM_touch 79 = .ok (.iaload, 1) := by decide +kernel
theorem dM_touch_80 : decode kM_touch 80 = .ok (.i2l, 1) := by decide +kernel
theorem dM_touch_81 : decode kM_touch 81 = .ok (.invokevirtual 106, 3) := by decide +kernel
theorem dM_touch_84 : decode kM_touch 84 = .ok (.invokestatic 110, 3) := by decide +kernel
theorem dM_touch_87 : decode kM_touch 87 = .ok (.ifCond .eq 51, 3) := by decide +kernel
theorem dM_touch_90 : decode kM_touch 90 = .ok (.aload_n 0, 1) := by decide +kernel
theorem dM_touch_91 : decode kM_touch 91 = .ok (.iload_n 2, 1) := by decide +kernel
theorem dM_touch_92 : decode kM_touch 92 = .ok (.aload_n 0, 1) := by decide +kernel
theorem dM_touch_93 : decode kM_touch 93 = .ok (.getfield 13, 3) := by decide +kernel
theorem dM_touch_96 : decode kM_touch 96 = .ok (.iload_n 1, 1) := by decide +kernel
theorem dM_touch_97 : decode kM_touch 97 = .ok (.iaload, 1) := by decide +kernel
theorem dM_touch_98 : decode kM_touch 98 = .ok (.i2l, 1) := by decide +kernel
theorem dM_touch_99 : decode kM_touch 99 = .ok (.aload_n 0, 1) := by decide +kernel
theorem dM_touch_100 : decode kM_touch 100 = .ok (.getfield 17, 3) := by decide +kernel
theorem dM_touch_103 : decode kM_touch 103 = .ok (.iload_n 1, 1) := by decide +kernel
theorem dM_touch_104 : decode kM_touch 104 = .ok (.iaload, 1) := by decide +kernel
theorem dM_touch_105 : decode kM_touch 105 = .ok (.i2l, 1) := by decide +kernel
theorem dM_touch_106 : decode kM_touch 106 = .ok (.invokevirtual 106, 3) := by decide +kernel
theorem dM_touch_109 : decode kM_touch 109 = .ok (.aload_n 0, 1) := by decide +kernel
theorem dM_touch_110 : decode kM_touch 110 = .ok (.iload_n 2, 1) := by decide +kernel
theorem dM_touch_111 : decode kM_touch 111 = .ok (.aload_n 0, 1) := by decide +kernel
theorem dM_touch_112 : decode kM_touch 112 = .ok (.getfield 20, 3) := by decide +kernel
theorem dM_touch_115 : decode kM_touch 115 = .ok (.iload_n 1, 1) := by decide +kernel
theorem dM_touch_116 : decode kM_touch 116 = .ok (.iaload, 1) := by decide +kernel
theorem dM_touch_117 : decode kM_touch 117 = .ok (.i2l, 1) := by decide +kernel
theorem dM_touch_118 : decode kM_touch 118 = .ok (.aload_n 0, 1) := by decide +kernel
theorem dM_touch_119 : decode kM_touch 119 = .ok (.getfield 23, 3) := by decide +kernel
theorem dM_touch_122 : decode kM_touch 122 = .ok (.iload_n 1, 1) := by decide +kernel
theorem dM_touch_123 : decode kM_touch 123 = .ok (.iaload, 1) := by decide +kernel
theorem dM_touch_124 : decode kM_touch 124 = .ok (.i2l, 1) := by decide +kernel
theorem dM_touch_125 : decode kM_touch 125 = .ok (.invokevirtual 106, 3) := by decide +kernel
theorem dM_touch_128 : decode kM_touch 128 = .ok (.invokestatic 110, 3) := by decide +kernel
theorem dM_touch_131 : decode kM_touch 131 = .ok (.ifCond .eq 7, 3) := by decide +kernel
theorem dM_touch_134 : decode kM_touch 134 = .ok (.iconst 1, 1) := by decide +kernel
theorem dM_touch_135 : decode kM_touch 135 = .ok (.goto 4, 3) := by decide +kernel
theorem dM_touch_138 : decode kM_touch 138 = .ok (.iconst 0, 1) := by decide +kernel
theorem dM_touch_139 : decode kM_touch 139 = .ok (.istore 4, 2) := by decide +kernel
theorem dM_touch_141 : decode kM_touch 141 = .ok (.iload_n 3, 1) := by decide +kernel
theorem dM_touch_142 : decode kM_touch 142 = .ok (.ifCond .ne 88, 3) := by decide +kernel
theorem dM_touch_145 : decode kM_touch 145 = .ok (.iload 4, 2) := by decide +kernel
theorem dM_touch_147 : decode kM_touch 147 = .ok (.ifCond .ne 83, 3) := by decide +kernel
theorem dM_touch_150 : decode kM_touch 150 = .ok (.aload_n 0, 1) := by decide +kernel
theorem dM_touch_151 : decode kM_touch 151 = .ok (.iload_n 1, 1) := by decide +kernel
theorem dM_touch_152 : decode kM_touch 152 = .ok (.aload_n 0, 1) := by decide +kernel
theorem dM_touch_153 : decode kM_touch 153 = .ok (.getfield 13, 3) := by decide +kernel
theorem dM_touch_156 : decode kM_touch 156 = .ok (.iload_n 2, 1) := by decide +kernel
theorem dM_touch_157 : decode kM_touch 157 = .ok (.iaload, 1) := by decide +kernel
theorem dM_touch_158 : decode kM_touch 158 = .ok (.aload_n 0, 1) := by decide +kernel
theorem dM_touch_159 : decode kM_touch 159 = .ok (.getfield 17, 3) := by decide +kernel
theorem dM_touch_162 : decode kM_touch 162 = .ok (.iload_n 2, 1) := by decide +kernel
theorem dM_touch_163 : decode kM_touch 163 = .ok (.iaload, 1) := by decide +kernel
theorem dM_touch_164 : decode kM_touch 164 = .ok (.invokevirtual 114, 3) := by decide +kernel
theorem dM_touch_167 : decode kM_touch 167 = .ok (.ifCond .ne 63, 3) := by decide +kernel
theorem dM_touch_170 : decode kM_touch 170 = .ok (.aload_n 0, 1) := by decide +kernel
theorem dM_touch_171 : decode kM_touch 171 = .ok (.iload_n 1, 1) := by decide +kernel
theorem dM_touch_172 : decode kM_touch 172 = .ok (.aload_n 0, 1) := by decide +kernel
theorem dM_touch_173 : decode kM_touch 173 = .ok (.getfield 20, 3) := by decide +kernel
theorem dM_touch_176 : decode kM_touch 176 = .ok (.iload_n 2, 1) := by decide +kernel
theorem dM_touch_177 : decode kM_touch 177 = .ok (.iaload, 1) := by decide +kernel
theorem dM_touch_178 : decode kM_touch 178 = .ok (.aload_n 0, 1) := by decide +kernel
theorem dM_touch_179 : decode kM_touch 179 = .ok (.getfield 23, 3) := by decide +kernel
theorem dM_touch_182 : decode kM_touch 182 = .ok (.iload_n 2, 1) := by decide +kernel
theorem dM_touch_183 : decode kM_touch 183 = .ok (.iaload, 1) := by decide +kernel
theorem dM_touch_184 : decode kM_touch 184 = .ok (.invokevirtual 114, 3) := by decide +kernel
theorem dM_touch_187 : decode kM_touch 187 = .ok (.ifCond .ne 43, 3) := by decide +kernel
theorem dM_touch_190 : decode kM_touch 190 = .ok (.aload_n 0, 1) := by decide +kernel
theorem dM_touch_191 : decode kM_touch 191 = .ok (.iload_n 2, 1) := by decide +kernel
theorem dM_touch_192 : decode kM_touch 192 = .ok (.aload_n 0, 1) := by decide +kernel
theorem dM_touch_193 : decode kM_touch 193 = .ok (.getfield 13, 3) := by decide +kernel
theorem dM_touch_196 : decode kM_touch 196 = .ok (.iload_n 1, 1) := by decide +kernel
theorem dM_touch_197 : decode kM_touch 197 = .ok (.iaload, 1) := by decide +kernel
theorem dM_touch_198 : decode kM_touch 198 = .ok (.aload_n 0, 1) := by decide +kernel
theorem dM_touch_199 : decode kM_touch 199 = .ok (.getfield 17, 3) := by decide +kernel
theorem dM_touch_202 : decode kM_touch 202 = .ok (.iload_n 1, 1) := by decide +kernel
theorem dM_touch_203 : decode kM_touch 203 = .ok (.iaload, 1) := by decide +kernel
theorem dM_touch_204 : decode kM_touch 204 = .ok (.invokevirtual 114, 3) := by decide +kernel
theorem dM_touch_207 : decode kM_touch 207 = .ok (.ifCond .ne 23, 3) := by decide +kernel
theorem dM_touch_210 : decode kM_touch 210 = .ok (.aload_n 0, 1) := by decide +kernel
theorem dM_touch_211 : decode kM_touch 211 = .ok (.iload_n 2, 1) := by decide +kernel
theorem dM_touch_212 : decode kM_touch 212 = .ok (.aload_n 0, 1) := by decide +kernel
theorem dM_touch_213 : decode kM_touch 213 = .ok (.getfield 20, 3) := by decide +kernel
theorem dM_touch_216 : decode kM_touch 216 = .ok (.iload_n 1, 1) := by decide +kernel
theorem dM_touch_217 : decode kM_touch 217 = .ok (.iaload, 1) := by decide +kernel
theorem dM_touch_218 : decode kM_touch 218 = .ok (.aload_n 0, 1) := by decide +kernel
theorem dM_touch_219 : decode kM_touch 219 = .ok (.getfield 23, 3) := by decide +kernel
theorem dM_touch_222 : decode kM_touch 222 = .ok (.iload_n 1, 1) := by decide +kernel
theorem dM_touch_223 : decode kM_touch 223 = .ok (.iaload, 1) := by decide +kernel
theorem dM_touch_224 : decode kM_touch 224 = .ok (.invokevirtual 114, 3) := by decide +kernel
theorem dM_touch_227 : decode kM_touch 227 = .ok (.ifCond .eq 7, 3) := by decide +kernel
theorem dM_touch_230 : decode kM_touch 230 = .ok (.iconst 1, 1) := by decide +kernel
theorem dM_touch_231 : decode kM_touch 231 = .ok (.goto 4, 3) := by decide +kernel
theorem dM_touch_234 : decode kM_touch 234 = .ok (.iconst 0, 1) := by decide +kernel
theorem dM_touch_235 : decode kM_touch 235 = .ok (.ireturn, 1) := by decide +kernel
theorem dM_isEnd_0 : decode kM_isEnd 0 = .ok (.aload_n 0, 1) := by decide +kernel
theorem dM_isEnd_1 : decode kM_isEnd 1 = .ok (.getfield 13, 3) := by decide +kernel
theorem dM_isEnd_4 : decode kM_isEnd 4 = .ok (.iload_n 1, 1) := by decide +kernel
theorem dM_isEnd_5 : decode kM_isEnd 5 = .ok (.iaload, 1) := by decide +kernel
theorem dM_isEnd_6 : decode kM_isEnd 6 = .ok (.iload_n 2, 1) := by decide +kernel
theorem dM_isEnd_7 : decode kM_isEnd 7 = .ok (.if_icmp .ne 13, 3) := by decide +kernel
theorem dM_isEnd_10 : decode kM_isEnd 10 = .ok (.aload_n 0, 1) := by decide +kernel
theorem dM_isEnd_11 : decode kM_isEnd 11 = .ok (.getfield 17, 3) := by decide +kernel
theorem dM_isEnd_14 : decode kM_isEnd 14 = .ok (.iload_n 1, 1) := by decide +kernel
theorem dM_isEnd_15 : decode kM_isEnd 15 = .ok (.iaload, 1) := by decide +kernel
theorem dM_isEnd_16 : decode kM_isEnd 16 = .ok (.iload_n 3, 1) := by decide +kernel
theorem dM_isEnd_17 : decode kM_isEnd 17 = .ok (.if_icmp .eq 23, 3) := by decide +kernel
theorem dM_isEnd_20 : decode kM_isEnd 20 = .ok (.aload_n 0, 1) := by decide +kernel
theorem dM_isEnd_21 : decode kM_isEnd 21 = .ok (.getfield 20, 3) := by decide +kernel
theorem dM_isEnd_24 : decode kM_isEnd 24 = .ok (.iload_n 1, 1) := by decide +kernel
theorem dM_isEnd_25 : decode kM_isEnd 25 = .ok (.iaload, 1) := by decide +kernel
theorem dM_isEnd_26 : decode kM_isEnd 26 = .ok (.iload_n 2, 1) := by decide +kernel
theorem dM_isEnd_27 : decode kM_isEnd 27 = .ok (.if_icmp .ne 17, 3) := by decide +kernel
theorem dM_isEnd_30 : decode kM_isEnd 30 = .ok (.aload_n 0, 1) := by decide +kernel
theorem dM_isEnd_31 : decode kM_isEnd 31 = .ok (.getfield 23, 3) := by decide +kernel
theorem dM_isEnd_34 : decode kM_isEnd 34 = .ok (.iload_n 1, 1) := by decide +kernel
theorem dM_isEnd_35 : decode kM_isEnd 35 = .ok (.iaload, 1) := by decide +kernel
theorem dM_isEnd_36 : decode kM_isEnd 36 = .ok (.iload_n 3, 1) := by decide +kernel
theorem dM_isEnd_37 : decode kM_isEnd 37 = .ok (.if_icmp .ne 7, 3) := by decide +kernel
theorem dM_isEnd_40 : decode kM_isEnd 40 = .ok (.iconst 1, 1) := by decide +kernel
theorem dM_isEnd_41 : decode kM_isEnd 41 = .ok (.goto 4, 3) := by decide +kernel
theorem dM_isEnd_44 : decode kM_isEnd 44 = .ok (.iconst 0, 1) := by decide +kernel
theorem dM_isEnd_45 : decode kM_isEnd 45 = .ok (.ireturn, 1) := by decide +kernel
theorem dM_sideOf_0 : decode kM_sideOf 0 = .ok (.aload_n 0, 1) := by decide +kernel
theorem dM_sideOf_1 : decode kM_sideOf 1 = .ok (.getfield 20, 3) := by decide +kernel
theorem dM_sideOf_4 : decode kM_sideOf 4 = .ok (.iload_n 1, 1) := by decide +kernel
theorem dM_sideOf_5 : decode kM_sideOf 5 = .ok (.iaload, 1) := by decide +kernel
theorem dM_sideOf_6 : decode kM_sideOf 6 = .ok (.aload_n 0, 1) := by decide +kernel
theorem dM_sideOf_7 : decode kM_sideOf 7 = .ok (.getfield 13, 3) := by decide +kernel
theorem dM_sideOf_10 : decode kM_sideOf 10 = .ok (.iload_n 1, 1) := by decide +kernel
theorem dM_sideOf_11 : decode kM_sideOf 11 = .ok (.iaload, 1) := by decide +kernel
theorem dM_sideOf_12 : decode kM_sideOf 12 = .ok (.isub, 1) := by decide +kernel
theorem dM_sideOf_13 : decode kM_sideOf 13 = .ok (.i2l, 1) := by decide +kernel
theorem dM_sideOf_14 : decode kM_sideOf 14 = .ok (.aload_n 0, 1) := by decide +kernel
theorem dM_sideOf_15 : decode kM_sideOf 15 = .ok (.getfield 23, 3) := by decide +kernel
theorem dM_sideOf_18 : decode kM_sideOf 18 = .ok (.iload_n 1, 1) := by decide +kernel
theorem dM_sideOf_19 : decode kM_sideOf 19 = .ok (.iaload, 1) := by decide +kernel
theorem dM_sideOf_20 : decode kM_sideOf 20 = .ok (.aload_n 0, 1) := by decide +kernel
theorem dM_sideOf_21 : decode kM_sideOf 21 = .ok (.getfield 17, 3) := by decide +kernel
theorem dM_sideOf_24 : decode kM_sideOf 24 = .ok (.iload_n 1, 1) := by decide +kernel
theorem dM_sideOf_25 : decode kM_sideOf 25 = .ok (.iaload, 1) := by decide +kernel
theorem dM_sideOf_26 : decode kM_sideOf 26 = .ok (.isub, 1) := by decide +kernel
theorem dM_sideOf_27 : decode kM_sideOf 27 = .ok (.i2l, 1) := by decide +kernel
theorem dM_sideOf_28 : decode kM_sideOf 28 = .ok (.lload_n 2, 1) := by decide +kernel
theorem dM_sideOf_29 : decode kM_sideOf 29 = .ok (.aload_n 0, 1) := by decide +kernel
theorem dM_sideOf_30 : decode kM_sideOf 30 = .ok (.getfield 13, 3) := by decide +kernel
theorem dM_sideOf_33 : decode kM_sideOf 33 = .ok (.iload_n 1, 1) := by decide +kernel
theorem dM_sideOf_34 : decode kM_sideOf 34 = .ok (.iaload, 1) := by decide +kernel
theorem dM_sideOf_35 : decode kM_sideOf 35 = .ok (.i2l, 1) := by decide +kernel
theorem dM_sideOf_36 : decode kM_sideOf 36 = .ok (.lsub, 1) := by decide +kernel
theorem dM_sideOf_37 : decode kM_sideOf 37 = .ok (.lload 4, 2) := by decide +kernel
theorem dM_sideOf_39 : decode kM_sideOf 39 = .ok (.aload_n 0, 1) := by decide +kernel
theorem dM_sideOf_40 : decode kM_sideOf 40 = .ok (.getfield 17, 3) := by decide +kernel
theorem dM_sideOf_43 : decode kM_sideOf 43 = .ok (.iload_n 1, 1) := by decide +kernel
theorem dM_sideOf_44 : decode kM_sideOf 44 = .ok (.iaload, 1) := by decide +kernel
theorem dM_sideOf_45 : decode kM_sideOf 45 = .ok (.i2l, 1) := by decide +kernel
theorem dM_sideOf_46 : decode kM_sideOf 46 = .ok (.lsub, 1) := by decide +kernel
theorem dM_sideOf_47 : decode kM_sideOf 47 = .ok (.invokestatic 98, 3) := by decide +kernel
theorem dM_sideOf_50 : decode kM_sideOf 50 = .ok (.lreturn, 1) := by decide +kernel
theorem dM_cross_0 : decode kM_cross 0 = .ok (.lload_n 0, 1) := by decide +kernel
theorem dM_cross_1 : decode kM_cross 1 = .ok (.lload 6, 2) := by decide +kernel
theorem dM_cross_3 : decode kM_cross 3 = .ok (.lmul, 1) := by decide +kernel
theorem dM_cross_4 : decode kM_cross 4 = .ok (.lload_n 2, 1) := by decide +kernel
theorem dM_cross_5 : decode kM_cross 5 = .ok (.lload 4, 2) := by decide +kernel
theorem dM_cross_7 : decode kM_cross 7 = .ok (.lmul, 1) := by decide +kernel
theorem dM_cross_8 : decode kM_cross 8 = .ok (.lsub, 1) := by decide +kernel
theorem dM_cross_9 : decode kM_cross 9 = .ok (.lreturn, 1) := by decide +kernel
theorem dM_areOpposite_0 : decode kM_areOpposite 0 = .ok (.lload_n 0, 1) := by decide +kernel
theorem dM_areOpposite_1 : decode kM_areOpposite 1 = .ok (.lconst 0, 1) := by decide +kernel
theorem dM_areOpposite_2 : decode kM_areOpposite 2 = .ok (.lcmp, 1) := by decide +kernel
theorem dM_areOpposite_3 : decode kM_areOpposite 3 = .ok (.ifCond .ge 9, 3) := by decide +kernel
theorem dM_areOpposite_6 : decode kM_areOpposite 6 = .ok (.lload_n 2, 1) := by decide +kernel
theorem dM_areOpposite_7 : decode kM_areOpposite 7 = .ok (.lconst 0, 1) := by decide +kernel
theorem dM_areOpposite_8 : decode kM_areOpposite 8 = .ok (.lcmp, 1) := by decide +kernel
theorem dM_areOpposite_9 : decode kM_areOpposite 9 = .ok (.ifCond .gt 15, 3) := by decide +kernel
theorem dM_areOpposite_12 : decode kM_areOpposite 12 = .ok (.lload_n 0, 1) := by decide +kernel
theorem dM_areOpposite_13 : decode kM_areOpposite 13 = .ok (.lconst 0, 1) := by decide +kernel
theorem dM_areOpposite_14 : decode kM_areOpposite 14 = .ok (.lcmp, 1) := by decide +kernel
theorem dM_areOpposite_15 : decode kM_areOpposite 15 = .ok (.ifCond .le 13, 3) := by decide +kernel
theorem dM_areOpposite_18 : decode kM_areOpposite 18 = .ok (.lload_n 2, 1) := by decide +kernel
theorem dM_areOpposite_19 : decode kM_areOpposite 19 = .ok (.lconst 0, 1) := by decide +kernel
theorem dM_areOpposite_20 : decode kM_areOpposite 20 = .ok (.lcmp, 1) := by decide +kernel
theorem dM_areOpposite_21 : decode kM_areOpposite 21 = .ok (.ifCond .ge 7, 3) := by decide +kernel
theorem dM_areOpposite_24 : decode kM_areOpposite 24 = .ok (.iconst 1, 1) := by decide +kernel
theorem dM_areOpposite_25 : decode kM_areOpposite 25 = .ok (.goto 4, 3) := by decide +kernel
theorem dM_areOpposite_28 : decode kM_areOpposite 28 = .ok (.iconst 0, 1) := by decide +kernel
theorem dM_areOpposite_29 : decode kM_areOpposite 29 = .ok (.ireturn, 1) := by decide +kernel
theorem dM_lies_0 : decode kM_lies 0 = .ok (.aload_n 0, 1) := by decide +kernel
theorem dM_lies_1 : decode kM_lies 1 = .ok (.iload_n 1, 1) := by decide +kernel
theorem dM_lies_2 : decode kM_lies 2 = .ok (.iload_n 2, 1) := by decide +kernel
theorem dM_lies_3 : decode kM_lies 3 = .ok (.iload_n 3, 1) := by decide +kernel
theorem dM_lies_4 : decode kM_lies 4 = .ok (.invokevirtual 102, 3) := by decide +kernel
theorem dM_lies_7 : decode kM_lies 7 = .ok (.ifCond .ne 17, 3) := by decide +kernel
theorem dM_lies_10 : decode kM_lies 10 = .ok (.aload_n 0, 1) := by decide +kernel
theorem dM_lies_11 : decode kM_lies 11 = .ok (.iload_n 1, 1) := by decide +kernel
theorem dM_lies_12 : decode kM_lies 12 = .ok (.iload_n 2, 1) := by decide +kernel
theorem dM_lies_13 : decode kM_lies 13 = .ok (.i2l, 1) := by decide +kernel
theorem dM_lies_14 : decode kM_lies 14 = .ok (.iload_n 3, 1) := by decide +kernel
theorem dM_lies_15 : decode kM_lies 15 = .ok (.i2l, 1) := by decide +kernel
theorem dM_lies_16 : decode kM_lies 16 = .ok (.invokevirtual 106, 3) := by decide +kernel
theorem dM_lies_19 : decode kM_lies 19 = .ok (.lconst 0, 1) := by decide +kernel
theorem dM_lies_20 : decode kM_lies 20 = .ok (.lcmp, 1) := by decide +kernel
theorem dM_lies_21 : decode kM_lies 21 = .ok (.ifCond .eq 5, 3) := by decide +kernel
theorem dM_lies_24 : decode kM_lies 24 = .ok (.iconst 0, 1) := by decide +kernel
theorem dM_lies_25 : decode kM_lies 25 = .ok (.ireturn, 1) := by decide +kernel
theorem dM_lies_26 : decode kM_lies 26 = .ok (.aload_n 0, 1) := by decide +kernel
theorem dM_lies_27 : decode kM_lies 27 = .ok (.getfield 13, 3) := by decide +kernel
theorem dM_lies_30 : decode kM_lies 30 = .ok (.iload_n 1, 1) := by decide +kernel
theorem dM_lies_31 : decode kM_lies 31 = .ok (.iaload, 1) := by decide +kernel
theorem dM_lies_32 : decode kM_lies 32 = .ok (.iload_n 2, 1) := by decide +kernel
theorem dM_lies_33 : decode kM_lies 33 = .ok (.isub, 1) := by decide +kernel
theorem dM_lies_34 : decode kM_lies 34 = .ok (.i2l, 1) := by decide +kernel
theorem dM_lies_35 : decode kM_lies 35 = .ok (.aload_n 0, 1) := by decide +kernel
theorem dM_lies_36 : decode kM_lies 36 = .ok (.getfield 20, 3) := by decide +kernel
theorem dM_lies_39 : decode kM_lies 39 = .ok (.iload_n 1, 1) := by decide +kernel
theorem dM_lies_40 : decode kM_lies 40 = .ok (.iaload, 1) := by decide +kernel
theorem dM_lies_41 : decode kM_lies 41 = .ok (.iload_n 2, 1) := by decide +kernel
theorem dM_lies_42 : decode kM_lies 42 = .ok (.isub, 1) := by decide +kernel
theorem dM_lies_43 : decode kM_lies 43 = .ok (.i2l, 1) := by decide +kernel
theorem dM_lies_44 : decode kM_lies 44 = .ok (.lmul, 1) := by decide +kernel
theorem dM_lies_45 : decode kM_lies 45 = .ok (.aload_n 0, 1) := by decide +kernel
theorem dM_lies_46 : decode kM_lies 46 = .ok (.getfield 17, 3) := by decide +kernel
theorem dM_lies_49 : decode kM_lies 49 = .ok (.iload_n 1, 1) := by decide +kernel
theorem dM_lies_50 : decode kM_lies 50 = .ok (.iaload, 1) := by decide +kernel
theorem dM_lies_51 : decode kM_lies 51 = .ok (.iload_n 3, 1) := by decide +kernel
theorem dM_lies_52 : decode kM_lies 52 = .ok (.isub, 1) := by decide +kernel
theorem dM_lies_53 : decode kM_lies 53 = .ok (.i2l, 1) := by decide +kernel
theorem dM_lies_54 : decode kM_lies 54 = .ok (.aload_n 0, 1) := by decide +kernel
theorem dM_lies_55 : decode kM_lies 55 = .ok (.getfield 23, 3) := by decide +kernel
theorem dM_lies_58 : decode kM_lies 58 = .ok (.iload_n 1, 1) := by decide +kernel
theorem dM_lies_59 : decode kM_lies 59 = .ok (.iaload, 1) := by decide +kernel
theorem dM_lies_60 : decode kM_lies 60 = .ok (.iload_n 3, 1) := by decide +kernel
theorem dM_lies_61 : decode kM_lies 61 = .ok (.isub, 1) := by decide +kernel
theorem dM_lies_62 : decode kM_lies 62 = .ok (.i2l, 1) := by decide +kernel
theorem dM_lies_63 : decode kM_lies 63 = .ok (.lmul, 1) := by decide +kernel
theorem dM_lies_64 : decode kM_lies 64 = .ok (.ladd, 1) := by decide +kernel
theorem dM_lies_65 : decode kM_lies 65 = .ok (.lconst 0, 1) := by decide +kernel
theorem dM_lies_66 : decode kM_lies 66 = .ok (.lcmp, 1) := by decide +kernel
theorem dM_lies_67 : decode kM_lies 67 = .ok (.ifCond .ge 7, 3) := by decide +kernel
theorem dM_lies_70 : decode kM_lies 70 = .ok (.iconst 1, 1) := by decide +kernel
theorem dM_lies_71 : decode kM_lies 71 = .ok (.goto 4, 3) := by decide +kernel
theorem dM_lies_74 : decode kM_lies 74 = .ok (.iconst 0, 1) := by decide +kernel
theorem dM_lies_75 : decode kM_lies 75 = .ok (.ireturn, 1) := by decide +kernel
theorem dM_take_0 : decode kM_take 0 = .ok (.aload_n 0, 1) := by decide +kernel
theorem dM_take_1 : decode kM_take 1 = .ok (.iconst 0, 1) := by decide +kernel
theorem dM_take_2 : decode kM_take 2 = .ok (.putfield 84, 3) := by decide +kernel
theorem dM_take_5 : decode kM_take 5 = .ok (.aload_n 0, 1) := by decide +kernel
theorem dM_take_6 : decode kM_take 6 = .ok (.iload_n 1, 1) := by decide +kernel
theorem dM_take_7 : decode kM_take 7 = .ok (.invokevirtual 136, 3) := by decide +kernel
theorem dM_take_10 : decode kM_take 10 = .ok (.ifCond .ne 5, 3) := by decide +kernel
theorem dM_take_13 : decode kM_take 13 = .ok (.iconst 0, 1) := by decide +kernel
theorem dM_take_14 : decode kM_take 14 = .ok (.ireturn, 1) := by decide +kernel
theorem dM_take_15 : decode kM_take 15 = .ok (.aload_n 0, 1) := by decide +kernel
theorem dM_take_16 : decode kM_take 16 = .ok (.getfield 7, 3) := by decide +kernel
theorem dM_take_19 : decode kM_take 19 = .ok (.iload_n 1, 1) := by decide +kernel
theorem dM_take_20 : decode kM_take 20 = .ok (.iconst 0, 1) := by decide +kernel
theorem dM_take_21 : decode kM_take 21 = .ok (.bastore, 1) := by decide +kernel
theorem dM_take_22 : decode kM_take 22 = .ok (.aload_n 0, 1) := by decide +kernel
theorem dM_take_23 : decode kM_take 23 = .ok (.dup, 1) := by decide +kernel
theorem dM_take_24 : decode kM_take 24 = .ok (.getfield 129, 3) := by decide +kernel
theorem dM_take_27 : decode kM_take 27 = .ok (.iconst 1, 1) := by decide +kernel
theorem dM_take_28 : decode kM_take 28 = .ok (.isub, 1) := by decide +kernel
theorem dM_take_29 : decode kM_take 29 = .ok (.putfield 129, 3) := by decide +kernel
theorem dM_take_32 : decode kM_take 32 = .ok (.aload_n 0, 1) := by decide +kernel
theorem dM_take_33 : decode kM_take 33 = .ok (.iconst 0, 1) := by decide +kernel
theorem dM_take_34 : decode kM_take 34 = .ok (.putfield 132, 3) := by decide +kernel
theorem dM_take_37 : decode kM_take 37 = .ok (.iconst 1, 1) := by decide +kernel
theorem dM_take_38 : decode kM_take 38 = .ok (.ireturn, 1) := by decide +kernel
theorem dM_isWall_0 : decode kM_isWall 0 = .ok (.iload_n 1, 1) := by decide +kernel
theorem dM_isWall_1 : decode kM_isWall 1 = .ok (.ifCond .lt 22, 3) := by decide +kernel
theorem dM_isWall_4 : decode kM_isWall 4 = .ok (.iload_n 1, 1) := by decide +kernel
theorem dM_isWall_5 : decode kM_isWall 5 = .ok (.bipush 64, 2) := by decide +kernel
theorem dM_isWall_7 : decode kM_isWall 7 = .ok (.if_icmp .ge 16, 3) := by decide +kernel
theorem dM_isWall_10 : decode kM_isWall 10 = .ok (.aload_n 0, 1) := by decide +kernel
theorem dM_isWall_11 : decode kM_isWall 11 = .ok (.getfield 7, 3) := by decide +kernel
theorem dM_isWall_14 : decode kM_isWall 14 = .ok (.iload_n 1, 1) := by decide +kernel
theorem dM_isWall_15 : decode kM_isWall 15 = .ok (.baload, 1) := by decide +kernel
theorem dM_isWall_16 : decode kM_isWall 16 = .ok (.ifCond .eq 7, 3) := by decide +kernel
theorem dM_isWall_19 : decode kM_isWall 19 = .ok (.iconst 1, 1) := by decide +kernel
theorem dM_isWall_20 : decode kM_isWall 20 = .ok (.goto 4, 3) := by decide +kernel
theorem dM_isWall_23 : decode kM_isWall 23 = .ok (.iconst 0, 1) := by decide +kernel
theorem dM_isWall_24 : decode kM_isWall 24 = .ok (.ireturn, 1) := by decide +kernel
theorem dM_clear_0 : decode kM_clear 0 = .ok (.aload_n 0, 1) := by decide +kernel
theorem dM_clear_1 : decode kM_clear 1 = .ok (.iconst 0, 1) := by decide +kernel
theorem dM_clear_2 : decode kM_clear 2 = .ok (.putfield 84, 3) := by decide +kernel
theorem dM_clear_5 : decode kM_clear 5 = .ok (.iconst 0, 1) := by decide +kernel
theorem dM_clear_6 : decode kM_clear 6 = .ok (.istore_n 1, 1) := by decide +kernel
theorem dM_clear_7 : decode kM_clear 7 = .ok (.iload_n 1, 1) := by decide +kernel
theorem dM_clear_8 : decode kM_clear 8 = .ok (.bipush 64, 2) := by decide +kernel
theorem dM_clear_10 : decode kM_clear 10 = .ok (.if_icmp .ge 16, 3) := by decide +kernel
theorem dM_clear_13 : decode kM_clear 13 = .ok (.aload_n 0, 1) := by decide +kernel
theorem dM_clear_14 : decode kM_clear 14 = .ok (.getfield 7, 3) := by decide +kernel
theorem dM_clear_17 : decode kM_clear 17 = .ok (.iload_n 1, 1) := by decide +kernel
theorem dM_clear_18 : decode kM_clear 18 = .ok (.iconst 0, 1) := by decide +kernel
theorem dM_clear_19 : decode kM_clear 19 = .ok (.bastore, 1) := by decide +kernel
theorem dM_clear_20 : decode kM_clear 20 = .ok (.iinc 1 1, 3) := by decide +kernel
theorem dM_clear_23 : decode kM_clear 23 = .ok (.goto (-16), 3) := by decide +kernel
theorem dM_clear_26 : decode kM_clear 26 = .ok (.aload_n 0, 1) := by decide +kernel
theorem dM_clear_27 : decode kM_clear 27 = .ok (.iconst 0, 1) := by decide +kernel
theorem dM_clear_28 : decode kM_clear 28 = .ok (.putfield 129, 3) := by decide +kernel
theorem dM_clear_31 : decode kM_clear 31 = .ok (.aload_n 0, 1) := by decide +kernel
theorem dM_clear_32 : decode kM_clear 32 = .ok (.iconst 0, 1) := by decide +kernel
theorem dM_clear_33 : decode kM_clear 33 = .ok (.putfield 132, 3) := by decide +kernel
theorem dM_clear_36 : decode kM_clear 36 = .ok (.return_, 1) := by decide +kernel
theorem dM_node_0 : decode kM_node 0 = .ok (.aload_n 0, 1) := by decide +kernel
theorem dM_node_1 : decode kM_node 1 = .ok (.iconst 0, 1) := by decide +kernel
theorem dM_node_2 : decode kM_node 2 = .ok (.putfield 84, 3) := by decide +kernel
theorem dM_node_5 : decode kM_node 5 = .ok (.aload_n 0, 1) := by decide +kernel
theorem dM_node_6 : decode kM_node 6 = .ok (.iload_n 1, 1) := by decide +kernel
theorem dM_node_7 : decode kM_node 7 = .ok (.invokevirtual 201, 3) := by decide +kernel
theorem dM_node_10 : decode kM_node 10 = .ok (.ifCond .ne 5, 3) := by decide +kernel
theorem dM_node_13 : decode kM_node 13 = .ok (.iconst (-1), 1) := by decide +kernel
theorem dM_node_14 : decode kM_node 14 = .ok (.ireturn, 1) := by decide +kernel
theorem dM_node_15 : decode kM_node 15 = .ok (.iload_n 2, 1) := by decide +kernel
theorem dM_node_16 : decode kM_node 16 = .ok (.tableswitch 107 0 5 #[40, 47, 67, 87, 94, 100], 40) := by decide +kernel
theorem dM_node_56 : decode kM_node 56 = .ok (.aload_n 0, 1) := by decide +kernel
theorem dM_node_57 : decode kM_node 57 = .ok (.getfield 57, 3) := by decide +kernel
theorem dM_node_60 : decode kM_node 60 = .ok (.iload_n 1, 1) := by decide +kernel
theorem dM_node_61 : decode kM_node 61 = .ok (.iaload, 1) := by decide +kernel
theorem dM_node_62 : decode kM_node 62 = .ok (.ireturn, 1) := by decide +kernel
theorem dM_node_63 : decode kM_node 63 = .ok (.aload_n 0, 1) := by decide +kernel
theorem dM_node_64 : decode kM_node 64 = .ok (.getfield 60, 3) := by decide +kernel
theorem dM_node_67 : decode kM_node 67 = .ok (.iload_n 1, 1) := by decide +kernel
theorem dM_node_68 : decode kM_node 68 = .ok (.iaload, 1) := by decide +kernel
theorem dM_node_69 : decode kM_node 69 = .ok (.ifCond .ge 7, 3) := by decide +kernel
theorem dM_node_72 : decode kM_node 72 = .ok (.iconst (-1), 1) := by decide +kernel
theorem dM_node_73 : decode kM_node 73 = .ok (.goto 9, 3) := by decide +kernel
theorem dM_node_76 : decode kM_node 76 = .ok (.aload_n 0, 1) := by decide +kernel
theorem dM_node_77 : decode kM_node 77 = .ok (.getfield 60, 3) := by decide +kernel
theorem dM_node_80 : decode kM_node 80 = .ok (.iload_n 1, 1) := by decide +kernel
theorem dM_node_81 : decode kM_node 81 = .ok (.iaload, 1) := by decide +kernel
theorem dM_node_82 : decode kM_node 82 = .ok (.ireturn, 1) := by decide +kernel
theorem dM_node_83 : decode kM_node 83 = .ok (.aload_n 0, 1) := by decide +kernel
theorem dM_node_84 : decode kM_node 84 = .ok (.getfield 63, 3) := by decide +kernel
theorem dM_node_87 : decode kM_node 87 = .ok (.iload_n 1, 1) := by decide +kernel
theorem dM_node_88 : decode kM_node 88 = .ok (.iaload, 1) := by decide +kernel
theorem dM_node_89 : decode kM_node 89 = .ok (.ifCond .ge 7, 3) := by decide +kernel
theorem dM_node_92 : decode kM_node 92 = .ok (.iconst (-1), 1) := by decide +kernel
theorem dM_node_93 : decode kM_node 93 = .ok (.goto 9, 3) := by decide +kernel
theorem dM_node_96 : decode kM_node 96 = .ok (.aload_n 0, 1) := by decide +kernel
theorem dM_node_97 : decode kM_node 97 = .ok (.getfield 63, 3) := by decide +kernel
theorem dM_node_100 : decode kM_node 100 = .ok (.iload_n 1, 1) := by decide +kernel
theorem dM_node_101 : decode kM_node 101 = .ok (.iaload, 1) := by decide +kernel
theorem dM_node_102 : decode kM_node 102 = .ok (.ireturn, 1) := by decide +kernel
theorem dM_node_103 : decode kM_node 103 = .ok (.aload_n 0, 1) := by decide +kernel
theorem dM_node_104 : decode kM_node 104 = .ok (.getfield 72, 3) := by decide +kernel
theorem dM_node_107 : decode kM_node 107 = .ok (.iload_n 1, 1) := by decide +kernel
theorem dM_node_108 : decode kM_node 108 = .ok (.iaload, 1) := by decide +kernel
theorem dM_node_109 : decode kM_node 109 = .ok (.ireturn, 1) := by decide +kernel
theorem dM_node_110 : decode kM_node 110 = .ok (.aload_n 0, 1) := by decide +kernel
theorem dM_node_111 : decode kM_node 111 = .ok (.iload_n 1, 1) := by decide +kernel
theorem dM_node_112 : decode kM_node 112 = .ok (.invokevirtual 204, 3) := by decide +kernel
theorem dM_node_115 : decode kM_node 115 = .ok (.ireturn, 1) := by decide +kernel
theorem dM_node_116 : decode kM_node 116 = .ok (.aload_n 0, 1) := by decide +kernel
theorem dM_node_117 : decode kM_node 117 = .ok (.getfield 66, 3) := by decide +kernel
theorem dM_node_120 : decode kM_node 120 = .ok (.iload_n 1, 1) := by decide +kernel
theorem dM_node_121 : decode kM_node 121 = .ok (.iaload, 1) := by decide +kernel
theorem dM_node_122 : decode kM_node 122 = .ok (.ireturn, 1) := by decide +kernel
theorem dM_node_123 : decode kM_node 123 = .ok (.iconst (-1), 1) := by decide +kernel
theorem dM_node_124 : decode kM_node 124 = .ok (.ireturn, 1) := by decide +kernel
theorem dM_isNode_0 : decode kM_isNode 0 = .ok (.aload_n 0, 1) := by decide +kernel
theorem dM_isNode_1 : decode kM_isNode 1 = .ok (.invokevirtual 198, 3) := by decide +kernel
theorem dM_isNode_4 : decode kM_isNode 4 = .ok (.iload_n 1, 1) := by decide +kernel
theorem dM_isNode_5 : decode kM_isNode 5 = .ok (.ifCond .lt 15, 3) := by decide +kernel
theorem dM_isNode_8 : decode kM_isNode 8 = .ok (.iload_n 1, 1) := by decide +kernel
theorem dM_isNode_9 : decode kM_isNode 9 = .ok (.aload_n 0, 1) := by decide +kernel
theorem dM_isNode_10 : decode kM_isNode 10 = .ok (.getfield 165, 3) := by decide +kernel
theorem dM_isNode_13 : decode kM_isNode 13 = .ok (.if_icmp .ge 7, 3) := by decide +kernel
theorem dM_isNode_16 : decode kM_isNode 16 = .ok (.iconst 1, 1) := by decide +kernel
theorem dM_isNode_17 : decode kM_isNode 17 = .ok (.goto 4, 3) := by decide +kernel
theorem dM_isNode_20 : decode kM_isNode 20 = .ok (.iconst 0, 1) := by decide +kernel
theorem dM_isNode_21 : decode kM_isNode 21 = .ok (.ireturn, 1) := by decide +kernel
theorem dM_know_0 : decode kM_know 0 = .ok (.aload_n 0, 1) := by decide +kernel
theorem dM_know_1 : decode kM_know 1 = .ok (.getfield 132, 3) := by decide +kernel
theorem dM_know_4 : decode kM_know 4 = .ok (.ifCond .ne 12, 3) := by decide +kernel
theorem dM_know_7 : decode kM_know 7 = .ok (.aload_n 0, 1) := by decide +kernel
theorem dM_know_8 : decode kM_know 8 = .ok (.invokevirtual 195, 3) := by decide +kernel
theorem dM_know_11 : decode kM_know 11 = .ok (.aload_n 0, 1) := by decide +kernel
theorem dM_know_12 : decode kM_know 12 = .ok (.iconst 1, 1) := by decide +kernel
theorem dM_know_13 : decode kM_know 13 = .ok (.putfield 132, 3) := by decide +kernel
theorem dM_know_16 : decode kM_know 16 = .ok (.return_, 1) := by decide +kernel
theorem dM_make_0 : decode kM_make 0 = .ok (.aload_n 0, 1) := by decide +kernel
theorem dM_make_1 : decode kM_make 1 = .ok (.iconst 0, 1) := by decide +kernel
theorem dM_make_2 : decode kM_make 2 = .ok (.putfield 139, 3) := by decide +kernel
theorem dM_make_5 : decode kM_make 5 = .ok (.aload_n 0, 1) := by decide +kernel
theorem dM_make_6 : decode kM_make 6 = .ok (.iconst 0, 1) := by decide +kernel
theorem dM_make_7 : decode kM_make 7 = .ok (.putfield 162, 3) := by decide +kernel
theorem dM_make_10 : decode kM_make 10 = .ok (.aload_n 0, 1) := by decide +kernel
theorem dM_make_11 : decode kM_make 11 = .ok (.iconst 0, 1) := by decide +kernel
theorem dM_make_12 : decode kM_make 12 = .ok (.putfield 165, 3) := by decide +kernel
theorem dM_make_15 : decode kM_make 15 = .ok (.aload_n 0, 1) := by decide +kernel
theorem dM_make_16 : decode kM_make 16 = .ok (.iconst 0, 1) := by decide +kernel
theorem dM_make_17 : decode kM_make 17 = .ok (.putfield 168, 3) := by decide +kernel
theorem dM_make_20 : decode kM_make 20 = .ok (.aload_n 0, 1) := by decide +kernel
theorem dM_make_21 : decode kM_make 21 = .ok (.iconst 0, 1) := by decide +kernel
theorem dM_make_22 : decode kM_make 22 = .ok (.putfield 171, 3) := by decide +kernel
theorem dM_make_25 : decode kM_make 25 = .ok (.aload_n 0, 1) := by decide +kernel
theorem dM_make_26 : decode kM_make 26 = .ok (.iconst 0, 1) := by decide +kernel
theorem dM_make_27 : decode kM_make 27 = .ok (.putfield 174, 3) := by decide +kernel
theorem dM_make_30 : decode kM_make 30 = .ok (.aload_n 0, 1) := by decide +kernel
theorem dM_make_31 : decode kM_make 31 = .ok (.iconst 0, 1) := by decide +kernel
theorem dM_make_32 : decode kM_make 32 = .ok (.putfield 155, 3) := by decide +kernel
theorem dM_make_35 : decode kM_make 35 = .ok (.iconst 0, 1) := by decide +kernel
theorem dM_make_36 : decode kM_make 36 = .ok (.istore_n 1, 1) := by decide +kernel
theorem dM_make_37 : decode kM_make 37 = .ok (.iconst 0, 1) := by decide +kernel
theorem dM_make_38 : decode kM_make 38 = .ok (.istore_n 2, 1) := by decide +kernel
theorem dM_make_39 : decode kM_make 39 = .ok (.iload_n 2, 1) := by decide +kernel
theorem dM_make_40 : decode kM_make 40 = .ok (.bipush 64, 2) := by decide +kernel
theorem dM_make_42 : decode kM_make 42 = .ok (.if_icmp .ge 43, 3) := by decide +kernel
theorem dM_make_45 : decode kM_make 45 = .ok (.aload_n 0, 1) := by decide +kernel
theorem dM_make_46 : decode kM_make 46 = .ok (.getfield 78, 3) := by decide +kernel
theorem dM_make_49 : decode kM_make 49 = .ok (.iload_n 2, 1) := by decide +kernel
theorem dM_make_50 : decode kM_make 50 = .ok (.iconst 0, 1) := by decide +kernel
theorem dM_make_51 : decode kM_make 51 = .ok (.iastore, 1) := by decide +kernel
theorem dM_make_52 : decode kM_make 52 = .ok (.aload_n 0, 1) := by decide +kernel
theorem dM_make_53 : decode kM_make 53 = .ok (.getfield 7, 3) := by decide +kernel
theorem dM_make_56 : decode kM_make 56 = .ok (.iload_n 2, 1) := by decide +kernel
theorem dM_make_57 : decode kM_make 57 = .ok (.baload, 1) := by decide +kernel
theorem dM_make_58 : decode kM_make 58 = .ok (.ifCond .eq 21, 3) := by decide +kernel
theorem dM_make_61 : decode kM_make 61 = .ok (.aload_n 0, 1) := by decide +kernel
theorem dM_make_62 : decode kM_make 62 = .ok (.getfield 42, 3) := by decide +kernel
theorem dM_make_65 : decode kM_make 65 = .ok (.iload_n 1, 1) := by decide +kernel
theorem dM_make_66 : decode kM_make 66 = .ok (.aload_n 0, 1) := by decide +kernel
theorem dM_make_67 : decode kM_make 67 = .ok (.iload_n 2, 1) := by decide +kernel
theorem dM_make_68 : decode kM_make 68 = .ok (.lconst 0, 1) := by decide +kernel
theorem dM_make_69 : decode kM_make 69 = .ok (.lconst 1, 1) := by decide +kernel
theorem dM_make_70 : decode kM_make 70 = .ok (.lconst 1, 1) := by decide +kernel
theorem dM_make_71 : decode kM_make 71 = .ok (.lconst 1, 1) := by decide +kernel
theorem dM_make_72 : decode kM_make 72 = .ok (.invokevirtual 158, 3) := by decide +kernel
theorem dM_make_75 : decode kM_make 75 = .ok (.iastore, 1) := by decide +kernel
theorem dM_make_76 : decode kM_make 76 = .ok (.iinc 1 1, 3) := by decide +kernel
theorem dM_make_79 : decode kM_make 79 = .ok (.iinc 2 1, 3) := by decide +kernel
theorem dM_make_82 : decode kM_make 82 = .ok (.goto (-43), 3) := by decide +kernel
theorem dM_make_85 : decode kM_make 85 = .ok (.aload_n 0, 1) := by decide +kernel
theorem dM_make_86 : decode kM_make 86 = .ok (.iconst 0, 1) := by decide +kernel
theorem dM_make_87 : decode kM_make 87 = .ok (.iload_n 1, 1) := by decide +kernel
theorem dM_make_88 : decode kM_make 88 = .ok (.iconst (-1), 1) := by decide +kernel
theorem dM_make_89 : decode kM_make 89 = .ok (.iconst 0, 1) := by decide +kernel
theorem dM_make_90 : decode kM_make 90 = .ok (.invokevirtual 177, 3) := by decide +kernel
theorem dM_make_93 : decode kM_make 93 = .ok (.aload_n 0, 1) := by decide +kernel
theorem dM_make_94 : decode kM_make 94 = .ok (.getfield 155, 3) := by decide +kernel
theorem dM_make_97 : decode kM_make 97 = .ok (.ifCond .le 56, 3) := by decide +kernel
theorem dM_make_100 : decode kM_make 100 = .ok (.aload_n 0, 1) := by decide +kernel
theorem dM_make_101 : decode kM_make 101 = .ok (.dup, 1) := by decide +kernel
theorem dM_make_102 : decode kM_make 102 = .ok (.getfield 155, 3) := by decide +kernel
theorem dM_make_105 : decode kM_make 105 = .ok (.iconst 1, 1) := by decide +kernel
theorem dM_make_106 : decode kM_make 106 = .ok (.isub, 1) := by decide +kernel
theorem dM_make_107 : decode kM_make 107 = .ok (.putfield 155, 3) := by decide +kernel
theorem dM_make_110 : decode kM_make 110 = .ok (.aload_n 0, 1) := by decide +kernel
theorem dM_make_111 : decode kM_make 111 = .ok (.aload_n 0, 1) := by decide +kernel
theorem dM_make_112 : decode kM_make 112 = .ok (.getfield 45, 3) := by decide +kernel
theorem dM_make_115 : decode kM_make 115 = .ok (.aload_n 0, 1) := by decide +kernel
theorem dM_make_116 : decode kM_make 116 = .ok (.getfield 155, 3) := by decide +kernel
theorem dM_make_119 : decode kM_make 119 = .ok (.iaload, 1) := by decide +kernel
theorem dM_make_120 : decode kM_make 120 = .ok (.aload_n 0, 1) := by decide +kernel
theorem dM_make_121 : decode kM_make 121 = .ok (.getfield 48, 3) := by decide +kernel
theorem dM_make_124 : decode kM_make 124 = .ok (.aload_n 0, 1) := by decide +kernel
theorem dM_make_125 : decode kM_make 125 = .ok (.getfield 155, 3) := by decide +kernel
theorem dM_make_128 : decode kM_make 128 = .ok (.iaload, 1) := by decide +kernel
theorem dM_make_129 : decode kM_make 129 = .ok (.aload_n 0, 1) := by decide +kernel
theorem dM_make_130 : decode kM_make 130 = .ok (.getfield 51, 3) := by decide +kernel
theorem dM_make_133 : decode kM_make 133 = .ok (.aload_n 0, 1) := by decide +kernel
theorem dM_make_134 : decode kM_make 134 = .ok (.getfield 155, 3) := by decide +kernel
theorem dM_make_137 : decode kM_make 137 = .ok (.iaload, 1) := by decide +kernel
theorem dM_make_138 : decode kM_make 138 = .ok (.aload_n 0, 1) := by decide +kernel
theorem dM_make_139 : decode kM_make 139 = .ok (.getfield 54, 3) := by decide +kernel
theorem dM_make_142 : decode kM_make 142 = .ok (.aload_n 0, 1) := by decide +kernel
theorem dM_make_143 : decode kM_make 143 = .ok (.getfield 155, 3) := by decide +kernel
theorem dM_make_146 : decode kM_make 146 = .ok (.iaload, 1) := by decide +kernel
theorem dM_make_147 : decode kM_make 147 = .ok (.invokevirtual 181, 3) := by decide +kernel
theorem dM_make_150 : decode kM_make 150 = .ok (.goto (-57), 3) := by decide +kernel
theorem dM_make_153 : decode kM_make 153 = .ok (.return_, 1) := by decide +kernel
theorem dM_piece_0 : decode kM_piece 0 = .ok (.aload_n 0, 1) := by decide +kernel
theorem dM_piece_1 : decode kM_piece 1 = .ok (.getfield 26, 3) := by decide +kernel
theorem dM_piece_4 : decode kM_piece 4 = .ok (.aload_n 0, 1) := by decide +kernel
theorem dM_piece_5 : decode kM_piece 5 = .ok (.getfield 139, 3) := by decide +kernel
theorem dM_piece_8 : decode kM_piece 8 = .ok (.iload_n 1, 1) := by decide +kernel
theorem dM_piece_9 : decode kM_piece 9 = .ok (.iastore, 1) := by decide +kernel
theorem dM_piece_10 : decode kM_piece 10 = .ok (.aload_n 0, 1) := by decide +kernel
theorem dM_piece_11 : decode kM_piece 11 = .ok (.getfield 29, 3) := by decide +kernel
theorem dM_piece_14 : decode kM_piece 14 = .ok (.aload_n 0, 1) := by decide +kernel
theorem dM_piece_15 : decode kM_piece 15 = .ok (.getfield 139, 3) := by decide +kernel
theorem dM_piece_18 : decode kM_piece 18 = .ok (.lload_n 2, 1) := by decide +kernel
theorem dM_piece_19 : decode kM_piece 19 = .ok (.lastore, 1) := by decide +kernel
theorem dM_piece_20 : decode kM_piece 20 = .ok (.aload_n 0, 1) := by decide +kernel
theorem dM_piece_21 : decode kM_piece 21 = .ok (.getfield 33, 3) := by decide +kernel
theorem dM_piece_24 : decode kM_piece 24 = .ok (.aload_n 0, 1) := by decide +kernel
theorem dM_piece_25 : decode kM_piece 25 = .ok (.getfield 139, 3) := by decide +kernel
theorem dM_piece_28 : decode kM_piece 28 = .ok (.lload 4, 2) := by decide +kernel
theorem dM_piece_30 : decode kM_piece 30 = .ok (.lastore, 1) := by decide +kernel
theorem dM_piece_31 : decode kM_piece 31 = .ok (.aload_n 0, 1) := by decide +kernel
theorem dM_piece_32 : decode kM_piece 32 = .ok (.getfield 36, 3) := by decide +kernel
theorem dM_piece_35 : decode kM_piece 35 = .ok (.aload_n 0, 1) := by decide +kernel
theorem dM_piece_36 : decode kM_piece 36 = .ok (.getfield 139, 3) := by decide +kernel
theorem dM_piece_39 : decode kM_piece 39 = .ok (.lload 6, 2) := by decide +kernel
theorem dM_piece_41 : decode kM_piece 41 = .ok (.lastore, 1) := by decide +kernel
theorem dM_piece_42 : decode kM_piece 42 = .ok (.aload_n 0, 1) := by decide +kernel
theorem dM_piece_43 : decode kM_piece 43 = .ok (.getfield 39, 3) := by decide +kernel
theorem dM_piece_46 : decode kM_piece 46 = .ok (.aload_n 0, 1) := by decide +kernel
theorem dM_piece_47 : decode kM_piece 47 = .ok (.getfield 139, 3) := by decide +kernel
theorem dM_piece_50 : decode kM_piece 50 = .ok (.lload 8, 2) := by decide +kernel
theorem dM_piece_52 : decode kM_piece 52 = .ok (.lastore, 1) := by decide +kernel
theorem dM_piece_53 : decode kM_piece 53 = .ok (.aload_n 0, 1) := by decide +kernel
theorem dM_piece_54 : decode kM_piece 54 = .ok (.dup, 1) := by decide +kernel
theorem dM_piece_55 : decode kM_piece 55 = .ok (.getfield 139, 3) := by decide +kernel
theorem dM_piece_58 : decode kM_piece 58 = .ok (.iconst 1, 1) := by decide +kernel
theorem dM_piece_59 : decode kM_piece 59 = .ok (.iadd, 1) := by decide +kernel
theorem dM_piece_60 : decode kM_piece 60 = .ok (.putfield 139, 3) := by decide +kernel
theorem dM_piece_63 : decode kM_piece 63 = .ok (.aload_n 0, 1) := by decide +kernel
theorem dM_piece_64 : decode kM_piece 64 = .ok (.getfield 139, 3) := by decide +kernel
theorem dM_piece_67 : decode kM_piece 67 = .ok (.iconst 1, 1) := by decide +kernel
theorem dM_piece_68 : decode kM_piece 68 = .ok (.isub, 1) := by decide +kernel
theorem dM_piece_69 : decode kM_piece 69 = .ok (.ireturn, 1) := by decide +kernel
theorem dM_push_0 : decode kM_push 0 = .ok (.aload_n 0, 1) := by decide +kernel
theorem dM_push_1 : decode kM_push 1 = .ok (.getfield 45, 3) := by decide +kernel
theorem dM_push_4 : decode kM_push 4 = .ok (.aload_n 0, 1) := by decide +kernel
theorem dM_push_5 : decode kM_push 5 = .ok (.getfield 155, 3) := by decide +kernel
theorem dM_push_8 : decode kM_push 8 = .ok (.iload_n 1, 1) := by decide +kernel
theorem dM_push_9 : decode kM_push 9 = .ok (.iastore, 1) := by decide +kernel
theorem dM_push_10 : decode kM_push 10 = .ok (.aload_n 0, 1) := by decide +kernel
theorem dM_push_11 : decode kM_push 11 = .ok (.getfield 48, 3) := by decide +kernel
theorem dM_push_14 : decode kM_push 14 = .ok (.aload_n 0, 1) := by decide +kernel
theorem dM_push_15 : decode kM_push 15 = .ok (.getfield 155, 3) := by decide +kernel
theorem dM_push_18 : decode kM_push 18 = .ok (.iload_n 2, 1) := by decide +kernel
theorem dM_push_19 : decode kM_push 19 = .ok (.iastore, 1) := by decide +kernel
theorem dM_push_20 : decode kM_push 20 = .ok (.aload_n 0, 1) := by decide +kernel
theorem dM_push_21 : decode kM_push 21 = .ok (.getfield 51, 3) := by decide +kernel
theorem dM_push_24 : decode kM_push 24 = .ok (.aload_n 0, 1) := by decide +kernel
theorem dM_push_25 : decode kM_push 25 = .ok (.getfield 155, 3) := by decide +kernel
theorem dM_push_28 : decode kM_push 28 = .ok (.iload_n 3, 1) := by decide +kernel
theorem dM_push_29 : decode kM_push 29 = .ok (.iastore, 1) := by decide +kernel
theorem dM_push_30 : decode kM_push 30 = .ok (.aload_n 0, 1) := by decide +kernel
theorem dM_push_31 : decode kM_push 31 = .ok (.getfield 54, 3) := by decide +kernel
theorem dM_push_34 : decode kM_push 34 = .ok (.aload_n 0, 1) := by decide +kernel
theorem dM_push_35 : decode kM_push 35 = .ok (.getfield 155, 3) := by decide +kernel
theorem dM_push_38 : decode kM_push 38 = .ok (.iload 4, 2) := by decide +kernel
theorem dM_push_40 : decode kM_push 40 = .ok (.iastore, 1) := by decide +kernel
theorem dM_push_41 : decode kM_push 41 = .ok (.aload_n 0, 1) := by decide +kernel
theorem dM_push_42 : decode kM_push 42 = .ok (.dup, 1) := by decide +kernel
theorem dM_push_43 : decode kM_push 43 = .ok (.getfield 155, 3) := by decide +kernel
theorem dM_push_46 : decode kM_push 46 = .ok (.iconst 1, 1) := by decide +kernel
theorem dM_push_47 : decode kM_push 47 = .ok (.iadd, 1) := by decide +kernel
theorem dM_push_48 : decode kM_push 48 = .ok (.putfield 155, 3) := by decide +kernel
theorem dM_push_51 : decode kM_push 51 = .ok (.return_, 1) := by decide +kernel
theorem dM_divide_0 : decode kM_divide 0 = .ok (.iload_n 2, 1) := by decide +kernel
theorem dM_divide_1 : decode kM_divide 1 = .ok (.ifCond .ne 12, 3) := by decide +kernel
theorem dM_divide_4 : decode kM_divide 4 = .ok (.iconst (-1), 1) := by decide +kernel
theorem dM_divide_5 : decode kM_divide 5 = .ok (.aload_n 0, 1) := by decide +kernel
theorem dM_divide_6 : decode kM_divide 6 = .ok (.getfield 168, 3) := by decide +kernel
theorem dM_divide_9 : decode kM_divide 9 = .ok (.isub, 1) := by decide +kernel
theorem dM_divide_10 : decode kM_divide 10 = .ok (.goto 7, 3) := by decide +kernel
theorem dM_divide_13 : decode kM_divide 13 = .ok (.aload_n 0, 1) := by decide +kernel
theorem dM_divide_14 : decode kM_divide 14 = .ok (.getfield 165, 3) := by decide +kernel
theorem dM_divide_17 : decode kM_divide 17 = .ok (.istore 5, 2) := by decide +kernel
theorem dM_divide_19 : decode kM_divide 19 = .ok (.iload_n 3, 1) := by decide +kernel
theorem dM_divide_20 : decode kM_divide 20 = .ok (.ifCond .lt 19, 3) := by decide +kernel
theorem dM_divide_23 : decode kM_divide 23 = .ok (.iload 4, 2) := by decide +kernel
theorem dM_divide_25 : decode kM_divide 25 = .ok (.ifCond .ne 14, 3) := by decide +kernel
theorem dM_divide_28 : decode kM_divide 28 = .ok (.aload_n 0, 1) := by decide +kernel
theorem dM_divide_29 : decode kM_divide 29 = .ok (.getfield 60, 3) := by decide +kernel
theorem dM_divide_32 : decode kM_divide 32 = .ok (.iload_n 3, 1) := by decide +kernel
theorem dM_divide_33 : decode kM_divide 33 = .ok (.iload 5, 2) := by decide +kernel
theorem dM_divide_35 : decode kM_divide 35 = .ok (.iastore, 1) := by decide +kernel
theorem dM_divide_36 : decode kM_divide 36 = .ok (.goto 15, 3) := by decide +kernel
theorem dM_divide_39 : decode kM_divide 39 = .ok (.iload_n 3, 1) := by decide +kernel
theorem dM_divide_40 : decode kM_divide 40 = .ok (.ifCond .lt 11, 3) := by decide +kernel
theorem dM_divide_43 : decode kM_divide 43 = .ok (.aload_n 0, 1) := by decide +kernel
theorem dM_divide_44 : decode kM_divide 44 = .ok (.getfield 63, 3) := by decide +kernel
theorem dM_divide_47 : decode kM_divide 47 = .ok (.iload_n 3, 1) := by decide +kernel
theorem dM_divide_48 : decode kM_divide 48 = .ok (.iload 5, 2) := by decide +kernel
theorem dM_divide_50 : decode kM_divide 50 = .ok (.iastore, 1) := by decide +kernel
theorem dM_divide_51 : decode kM_divide 51 = .ok (.iload_n 2, 1) := by decide +kernel
theorem dM_divide_52 : decode kM_divide 52 = .ok (.ifCond .ne 14, 3) := by decide +kernel
theorem dM_divide_55 : decode kM_divide 55 = .ok (.aload_n 0, 1) := by decide +kernel
theorem dM_divide_56 : decode kM_divide 56 = .ok (.dup, 1) := by decide +kernel
theorem dM_divide_57 : decode kM_divide 57 = .ok (.getfield 168, 3) := by decide +kernel
theorem dM_divide_60 : decode kM_divide 60 = .ok (.iconst 1, 1) := by decide +kernel
theorem dM_divide_61 : decode kM_divide 61 = .ok (.iadd, 1) := by decide +kernel
theorem dM_divide_62 : decode kM_divide 62 = .ok (.putfield 168, 3) := by decide +kernel
theorem dM_divide_65 : decode kM_divide 65 = .ok (.return_, 1) := by decide +kernel
theorem dM_divide_66 : decode kM_divide 66 = .ok (.aload_n 0, 1) := by decide +kernel
theorem dM_divide_67 : decode kM_divide 67 = .ok (.getfield 165, 3) := by decide +kernel
theorem dM_divide_70 : decode kM_divide 70 = .ok (.istore 6, 2) := by decide +kernel
theorem dM_divide_72 : decode kM_divide 72 = .ok (.aload_n 0, 1) := by decide +kernel
theorem dM_divide_73 : decode kM_divide 73 = .ok (.dup, 1) := by decide +kernel
theorem dM_divide_74 : decode kM_divide 74 = .ok (.getfield 165, 3) := by decide +kernel
theorem dM_divide_77 : decode kM_divide 77 = .ok (.iconst 1, 1) := by decide +kernel
theorem dM_divide_78 : decode kM_divide 78 = .ok (.iadd, 1) := by decide +kernel
theorem dM_divide_79 : decode kM_divide 79 = .ok (.putfield 165, 3) := by decide +kernel
theorem dM_divide_82 : decode kM_divide 82 = .ok (.aload_n 0, 1) := by decide +kernel
theorem dM_divide_83 : decode kM_divide 83 = .ok (.iload_n 1, 1) := by decide +kernel
theorem dM_divide_84 : decode kM_divide 84 = .ok (.iload_n 2, 1) := by decide +kernel
theorem dM_divide_85 : decode kM_divide 85 = .ok (.invokevirtual 184, 3) := by decide +kernel
theorem dM_divide_88 : decode kM_divide 88 = .ok (.istore 7, 2) := by decide +kernel
theorem dM_divide_90 : decode kM_divide 90 = .ok (.aload_n 0, 1) := by decide +kernel
theorem dM_divide_91 : decode kM_divide 91 = .ok (.getfield 57, 3) := by decide +kernel
theorem dM_divide_94 : decode kM_divide 94 = .ok (.iload 6, 2) := by decide +kernel
theorem dM_divide_96 : decode kM_divide 96 = .ok (.iload 7, 2) := by decide +kernel
theorem dM_divide_98 : decode kM_divide 98 = .ok (.iastore, 1) := by decide +kernel
theorem dM_divide_99 : decode kM_divide 99 = .ok (.aload_n 0, 1) := by decide +kernel
theorem dM_divide_100 : decode kM_divide 100 = .ok (.getfield 66, 3) := by decide +kernel
theorem dM_divide_103 : decode kM_divide 103 = .ok (.iload 6, 2) := by decide +kernel
theorem dM_divide_105 : decode kM_divide 105 = .ok (.iload_n 3, 1) := by decide +kernel
theorem dM_divide_106 : decode kM_divide 106 = .ok (.ifCond .ge 7, 3) := by decide +kernel
theorem dM_divide_109 : decode kM_divide 109 = .ok (.iconst 0, 1) := by decide +kernel
theorem dM_divide_110 : decode kM_divide 110 = .ok (.goto 11, 3) := by decide +kernel
theorem dM_divide_113 : decode kM_divide 113 = .ok (.aload_n 0, 1) := by decide +kernel
theorem dM_divide_114 : decode kM_divide 114 = .ok (.getfield 66, 3) := by decide +kernel
theorem dM_divide_117 : decode kM_divide 117 = .ok (.iload_n 3, 1) := by decide +kernel
theorem dM_divide_118 : decode kM_divide 118 = .ok (.iaload, 1) := by decide +kernel
theorem dM_divide_119 : decode kM_divide 119 = .ok (.iconst 1, 1) := by decide +kernel
theorem dM_divide_120 : decode kM_divide 120 = .ok (.iadd, 1) := by decide +kernel
theorem dM_divide_121 : decode kM_divide 121 = .ok (.iastore, 1) := by decide +kernel
theorem dM_divide_122 : decode kM_divide 122 = .ok (.aload_n 0, 1) := by decide +kernel
theorem dM_divide_123 : decode kM_divide 123 = .ok (.aload_n 0, 1) := by decide +kernel
theorem dM_divide_124 : decode kM_divide 124 = .ok (.getfield 66, 3) := by decide +kernel
theorem dM_divide_127 : decode kM_divide 127 = .ok (.iload 6, 2) := by decide +kernel
theorem dM_divide_129 : decode kM_divide 129 = .ok (.iaload, 1) := by decide +kernel
theorem dM_divide_130 : decode kM_divide 130 = .ok (.iconst 1, 1) := by decide +kernel
theorem dM_divide_131 : decode kM_divide 131 = .ok (.iadd, 1) := by decide +kernel
theorem dM_divide_132 : decode kM_divide 132 = .ok (.aload_n 0, 1) := by decide +kernel
theorem dM_divide_133 : decode kM_divide 133 = .ok (.getfield 174, 3) := by decide +kernel
theorem dM_divide_136 : decode kM_divide 136 = .ok (.if_icmp .le 15, 3) := by decide +kernel
theorem dM_divide_139 : decode kM_divide 139 = .ok (.aload_n 0, 1) := by decide +kernel
theorem dM_divide_140 : decode kM_divide 140 = .ok (.getfield 66, 3) := by decide +kernel
theorem dM_divide_143 : decode kM_divide 143 = .ok (.iload 6, 2) := by decide +kernel
theorem dM_divide_145 : decode kM_divide 145 = .ok (.iaload, 1) := by decide +kernel
theorem dM_divide_146 : decode kM_divide 146 = .ok (.iconst 1, 1) := by decide +kernel
theorem dM_divide_147 : decode kM_divide 147 = .ok (.iadd, 1) := by decide +kernel
theorem dM_divide_148 : decode kM_divide 148 = .ok (.goto 7, 3) := by decide +kernel
theorem dM_divide_151 : decode kM_divide 151 = .ok (.aload_n 0, 1) := by decide +kernel
theorem dM_divide_152 : decode kM_divide 152 = .ok (.getfield 174, 3) := by decide +kernel
theorem dM_divide_155 : decode kM_divide 155 = .ok (.putfield 174, 3) := by decide +kernel
theorem dM_divide_158 : decode kM_divide 158 = .ok (.aload_n 0, 1) := by decide +kernel
theorem dM_divide_159 : decode kM_divide 159 = .ok (.getfield 69, 3) := by decide +kernel
theorem dM_divide_162 : decode kM_divide 162 = .ok (.iload 6, 2) := by decide +kernel
theorem dM_divide_164 : decode kM_divide 164 = .ok (.aload_n 0, 1) := by decide +kernel
theorem dM_divide_165 : decode kM_divide 165 = .ok (.getfield 171, 3) := by decide +kernel
theorem dM_divide_168 : decode kM_divide 168 = .ok (.iastore, 1) := by decide +kernel
theorem dM_divide_169 : decode kM_divide 169 = .ok (.iconst 0, 1) := by decide +kernel
theorem dM_divide_170 : decode kM_divide 170 = .ok (.istore 8, 2) := by decide +kernel
theorem dM_divide_172 : decode kM_divide 172 = .ok (.iload 8, 2) := by decide +kernel
theorem dM_divide_174 : decode kM_divide 174 = .ok (.iload_n 2, 1) := by decide +kernel
theorem dM_divide_175 : decode kM_divide 175 = .ok (.if_icmp .ge 78, 3) := by decide +kernel
theorem dM_divide_178 : decode kM_divide 178 = .ok (.aload_n 0, 1) := by decide +kernel
theorem dM_divide_179 : decode kM_divide 179 = .ok (.iload 7, 2) := by decide +kernel
theorem dM_divide_181 : decode kM_divide 181 = .ok (.aload_n 0, 1) := by decide +kernel
theorem dM_divide_182 : decode kM_divide 182 = .ok (.getfield 42, 3) := by decide +kernel
theorem dM_divide_185 : decode kM_divide 185 = .ok (.iload_n 1, 1) := by decide +kernel
theorem dM_divide_186 : decode kM_divide 186 = .ok (.iload 8, 2) := by decide +kernel
theorem dM_divide_188 : decode kM_divide 188 = .ok (.iadd, 1) := by decide +kernel
theorem dM_divide_189 : decode kM_divide 189 = .ok (.iaload, 1) := by decide +kernel
theorem dM_divide_190 : decode kM_divide 190 = .ok (.invokevirtual 151, 3) := by decide +kernel
theorem dM_divide_193 : decode kM_divide 193 = .ok (.ifCond .ne 54, 3) := by decide +kernel
theorem dM_divide_196 : decode kM_divide 196 = .ok (.aload_n 0, 1) := by decide +kernel
theorem dM_divide_197 : decode kM_divide 197 = .ok (.getfield 75, 3) := by decide +kernel
theorem dM_divide_200 : decode kM_divide 200 = .ok (.aload_n 0, 1) := by decide +kernel
theorem dM_divide_201 : decode kM_divide 201 = .ok (.getfield 171, 3) := by decide +kernel
theorem dM_divide_204 : decode kM_divide 204 = .ok (.aload_n 0, 1) := by decide +kernel
theorem dM_divide_205 : decode kM_divide 205 = .ok (.getfield 42, 3) := by decide +kernel
theorem dM_divide_208 : decode kM_divide 208 = .ok (.iload_n 1, 1) := by decide +kernel
theorem dM_divide_209 : decode kM_divide 209 = .ok (.iload 8, 2) := by decide +kernel
theorem dM_divide_211 : decode kM_divide 211 = .ok (.iadd, 1) := by decide +kernel
theorem dM_divide_212 : decode kM_divide 212 = .ok (.iaload, 1) := by decide +kernel
theorem dM_divide_213 : decode kM_divide 213 = .ok (.iastore, 1) := by decide +kernel
theorem dM_divide_214 : decode kM_divide 214 = .ok (.aload_n 0, 1) := by decide +kernel
theorem dM_divide_215 : decode kM_divide 215 = .ok (.getfield 78, 3) := by decide +kernel
theorem dM_divide_218 : decode kM_divide 218 = .ok (.aload_n 0, 1) := by decide +kernel
theorem dM_divide_219 : decode kM_divide 219 = .ok (.getfield 26, 3) := by decide +kernel
theorem dM_divide_222 : decode kM_divide 222 = .ok (.aload_n 0, 1) := by decide +kernel
theorem dM_divide_223 : decode kM_divide 223 = .ok (.getfield 42, 3) := by decide +kernel
theorem dM_divide_226 : decode kM_divide 226 = .ok (.iload_n 1, 1) := by decide +kernel
theorem dM_divide_227 : decode kM_divide 227 = .ok (.iload 8, 2) := by decide +kernel
theorem dM_divide_229 : decode kM_divide 229 = .ok (.iadd, 1) := by decide +kernel
theorem dM_divide_230 : decode kM_divide 230 = .ok (.iaload, 1) := by decide +kernel
theorem dM_divide_231 : decode kM_divide 231 = .ok (.iaload, 1) := by decide +kernel
theorem dM_divide_232 : decode kM_divide 232 = .ok (.dup2, 1) := by decide +kernel
theorem dM_divide_233 : decode kM_divide 233 = .ok (.iaload, 1) := by decide +kernel
theorem dM_divide_234 : decode kM_divide 234 = .ok (.iconst 1, 1) := by decide +kernel
theorem dM_divide_235 : decode kM_divide 235 = .ok (.iadd, 1) := by decide +kernel
theorem dM_divide_236 : decode kM_divide 236 = .ok (.iastore, 1) := by decide +kernel
theorem dM_divide_237 : decode kM_divide 237 = .ok (.aload_n 0, 1) := by decide +kernel
theorem dM_divide_238 : decode kM_divide 238 = .ok (.dup, 1) := by decide +kernel
theorem dM_divide_239 : decode kM_divide 239 = .ok (.getfield 171, 3) := by decide +kernel
theorem dM_divide_242 : decode kM_divide 242 = .ok (.iconst 1, 1) := by decide +kernel
theorem dM_divide_243 : decode kM_divide 243 = .ok (.iadd, 1) := by decide +kernel
theorem dM_divide_244 : decode kM_divide 244 = .ok (.putfield 171, 3) := by decide +kernel
theorem dM_divide_247 : decode kM_divide 247 = .ok (.iinc 8 1, 3) := by decide +kernel
theorem dM_divide_250 : decode kM_divide 250 = .ok (.goto (-78), 3) := by decide +kernel
theorem dM_divide_253 : decode kM_divide 253 = .ok (.aload_n 0, 1) := by decide +kernel
theorem dM_divide_254 : decode kM_divide 254 = .ok (.getfield 72, 3) := by decide +kernel
theorem dM_divide_257 : decode kM_divide 257 = .ok (.iload 6, 2) := by decide +kernel
theorem dM_divide_259 : decode kM_divide 259 = .ok (.aload_n 0, 1) := by decide +kernel
theorem dM_divide_260 : decode kM_divide 260 = .ok (.getfield 171, 3) := by decide +kernel
theorem dM_divide_263 : decode kM_divide 263 = .ok (.aload_n 0, 1) := by decide +kernel
theorem dM_divide_264 : decode kM_divide 264 = .ok (.getfield 69, 3) := by decide +kernel
theorem dM_divide_267 : decode kM_divide 267 = .ok (.iload 6, 2) := by decide +kernel
theorem dM_divide_269 : decode kM_divide 269 = .ok (.iaload, 1) := by decide +kernel
theorem dM_divide_270 : decode kM_divide 270 = .ok (.isub, 1) := by decide +kernel
theorem dM_divide_271 : decode kM_divide 271 = .ok (.iastore, 1) := by decide +kernel
theorem dM_divide_272 : decode kM_divide 272 = .ok (.iload_n 1, 1) := by decide +kernel
theorem dM_divide_273 : decode kM_divide 273 = .ok (.iload_n 2, 1) := by decide +kernel
theorem dM_divide_274 : decode kM_divide 274 = .ok (.iadd, 1) := by decide +kernel
theorem dM_divide_275 : decode kM_divide 275 = .ok (.istore 8, 2) := by decide +kernel
theorem dM_divide_277 : decode kM_divide 277 = .ok (.aload_n 0, 1) := by decide +kernel
theorem dM_divide_278 : decode kM_divide 278 = .ok (.iload_n 1, 1) := by decide +kernel
theorem dM_divide_279 : decode kM_divide 279 = .ok (.iload_n 2, 1) := by decide +kernel
theorem dM_divide_280 : decode kM_divide 280 = .ok (.iload 7, 2) := by decide +kernel
theorem dM_divide_282 : decode kM_divide 282 = .ok (.iconst (-1), 1) := by decide +kernel
theorem dM_divide_283 : decode kM_divide 283 = .ok (.iload 8, 2) := by decide +kernel
theorem dM_divide_285 : decode kM_divide 285 = .ok (.invokevirtual 187, 3) := by decide +kernel
theorem dM_divide_288 : decode kM_divide 288 = .ok (.istore 9, 2) := by decide +kernel
theorem dM_divide_290 : decode kM_divide 290 = .ok (.iload 8, 2) := by decide +kernel
theorem dM_divide_292 : decode kM_divide 292 = .ok (.iload 9, 2) := by decide +kernel
theorem dM_divide_294 : decode kM_divide 294 = .ok (.iadd, 1) := by decide +kernel
theorem dM_divide_295 : decode kM_divide 295 = .ok (.istore 10, 2) := by decide +kernel
theorem dM_divide_297 : decode kM_divide 297 = .ok (.aload_n 0, 1) := by decide +kernel
theorem dM_divide_298 : decode kM_divide 298 = .ok (.iload_n 1, 1) := by decide +kernel
theorem dM_divide_299 : decode kM_divide 299 = .ok (.iload_n 2, 1) := by decide +kernel
theorem dM_divide_300 : decode kM_divide 300 = .ok (.iload 7, 2) := by decide +kernel
theorem dM_divide_302 : decode kM_divide 302 = .ok (.iconst 1, 1) := by decide +kernel
theorem dM_divide_303 : decode kM_divide 303 = .ok (.iload 10, 2) := by decide +kernel
theorem dM_divide_305 : decode kM_divide 305 = .ok (.invokevirtual 187, 3) := by decide +kernel
theorem dM_divide_308 : decode kM_divide 308 = .ok (.istore 11, 2) := by decide +kernel
theorem dM_divide_310 : decode kM_divide 310 = .ok (.aload_n 0, 1) := by decide +kernel
theorem dM_divide_311 : decode kM_divide 311 = .ok (.iload 8, 2) := by decide +kernel
theorem dM_divide_313 : decode kM_divide 313 = .ok (.iload 9, 2) := by decide +kernel
theorem dM_divide_315 : decode kM_divide 315 = .ok (.iload 6, 2) := by decide +kernel
theorem dM_divide_317 : decode kM_divide 317 = .ok (.iconst 1, 1) := by decide +kernel
theorem dM_divide_318 : decode kM_divide 318 = .ok (.invokevirtual 177, 3) := by decide +kernel
theorem dM_divide_321 : decode kM_divide 321 = .ok (.aload_n 0, 1) := by decide +kernel
theorem dM_divide_322 : decode kM_divide 322 = .ok (.iload 10, 2) := by decide +kernel
theorem dM_divide_324 : decode kM_divide 324 = .ok (.iload 11, 2) := by decide +kernel
theorem dM_divide_326 : decode kM_divide 326 = .ok (.iload 6, 2) := by decide +kernel
theorem dM_divide_328 : decode kM_divide 328 = .ok (.iconst 0, 1) := by decide +kernel
theorem dM_divide_329 : decode kM_divide 329 = .ok (.invokevirtual 177, 3) := by decide +kernel
theorem dM_divide_332 : decode kM_divide 332 = .ok (.return_, 1) := by decide +kernel
theorem dM_bestOf_0 : decode kM_bestOf 0 = .ok (.iconst 0, 1) := by decide +kernel
theorem dM_bestOf_1 : decode kM_bestOf 1 = .ok (.istore_n 3, 1) := by decide +kernel
theorem dM_bestOf_2 : decode kM_bestOf 2 = .ok (.ldc 150, 2) := by decide +kernel
theorem dM_bestOf_4 : decode kM_bestOf 4 = .ok (.istore 4, 2) := by decide +kernel
theorem dM_bestOf_6 : decode kM_bestOf 6 = .ok (.iconst 0, 1) := by decide +kernel
theorem dM_bestOf_7 : decode kM_bestOf 7 = .ok (.istore 5, 2) := by decide +kernel
theorem dM_bestOf_9 : decode kM_bestOf 9 = .ok (.iload 5, 2) := by decide +kernel
theorem dM_bestOf_11 : decode kM_bestOf 11 = .ok (.iload_n 2, 1) := by decide +kernel
theorem dM_bestOf_12 : decode kM_bestOf 12 = .ok (.if_icmp .ge 137, 3) := by decide +kernel
theorem dM_bestOf_15 : decode kM_bestOf 15 = .ok (.iload 5, 2) := by decide +kernel
theorem dM_bestOf_17 : decode kM_bestOf 17 = .ok (.bipush 16, 2) := by decide +kernel
theorem dM_bestOf_19 : decode kM_bestOf 19 = .ok (.if_icmp .ge 130, 3) := by decide +kernel
theorem dM_bestOf_22 : decode kM_bestOf 22 = .ok (.aload_n 0, 1) := by decide +kernel
theorem dM_bestOf_23 : decode kM_bestOf 23 = .ok (.getfield 26, 3) := by decide +kernel
theorem dM_bestOf_26 : decode kM_bestOf 26 = .ok (.aload_n 0, 1) := by decide +kernel
theorem dM_bestOf_27 : decode kM_bestOf 27 = .ok (.getfield 42, 3) := by decide +kernel
theorem dM_bestOf_30 : decode kM_bestOf 30 = .ok (.iload_n 1, 1) := by decide +kernel
theorem dM_bestOf_31 : decode kM_bestOf 31 = .ok (.iload 5, 2) := by decide +kernel
theorem dM_bestOf_33 : decode kM_bestOf 33 = .ok (.iadd, 1) := by decide +kernel
theorem dM_bestOf_34 : decode kM_bestOf 34 = .ok (.iaload, 1) := by decide +kernel
theorem dM_bestOf_35 : decode kM_bestOf 35 = .ok (.iaload, 1) := by decide +kernel
theorem dM_bestOf_36 : decode kM_bestOf 36 = .ok (.istore 6, 2) := by decide +kernel
theorem dM_bestOf_38 : decode kM_bestOf 38 = .ok (.iconst 0, 1) := by decide +kernel
theorem dM_bestOf_39 : decode kM_bestOf 39 = .ok (.istore 7, 2) := by decide +kernel
theorem dM_bestOf_41 : decode kM_bestOf 41 = .ok (.iconst 0, 1) := by decide +kernel
theorem dM_bestOf_42 : decode kM_bestOf 42 = .ok (.istore 8, 2) := by decide +kernel
theorem dM_bestOf_44 : decode kM_bestOf 44 = .ok (.iconst 0, 1) := by decide +kernel
theorem dM_bestOf_45 : decode kM_bestOf 45 = .ok (.istore 9, 2) := by decide +kernel
theorem dM_bestOf_47 : decode kM_bestOf 47 = .ok (.iload 9, 2) := by decide +kernel
theorem dM_bestOf_49 : decode kM_bestOf 49 = .ok (.iload_n 2, 1) := by decide +kernel
theorem dM_bestOf_50 : decode kM_bestOf 50 = .ok (.if_icmp .ge 59, 3) := by decide +kernel
theorem dM_bestOf_53 : decode kM_bestOf 53 = .ok (.aload_n 0, 1) := by decide +kernel
theorem dM_bestOf_54 : decode kM_bestOf 54 = .ok (.iload 6, 2) := by decide +kernel
theorem dM_bestOf_56 : decode kM_bestOf 56 = .ok (.aload_n 0, 1) := by decide +kernel
theorem dM_bestOf_57 : decode kM_bestOf 57 = .ok (.getfield 42, 3) := by decide +kernel
theorem dM_bestOf_60 : decode kM_bestOf 60 = .ok (.iload_n 1, 1) := by decide +kernel
theorem dM_bestOf_61 : decode kM_bestOf 61 = .ok (.iload 9, 2) := by decide +kernel
theorem dM_bestOf_63 : decode kM_bestOf 63 = .ok (.iadd, 1) := by decide +kernel
theorem dM_bestOf_64 : decode kM_bestOf 64 = .ok (.iaload, 1) := by decide +kernel
theorem dM_bestOf_65 : decode kM_bestOf 65 = .ok (.invokevirtual 151, 3) := by decide +kernel
theorem dM_bestOf_68 : decode kM_bestOf 68 = .ok (.istore 10, 2) := by decide +kernel
theorem dM_bestOf_70 : decode kM_bestOf 70 = .ok (.iload 7, 2) := by decide +kernel
theorem dM_bestOf_72 : decode kM_bestOf 72 = .ok (.iload 10, 2) := by decide +kernel
theorem dM_bestOf_74 : decode kM_bestOf 74 = .ok (.iconst 2, 1) := by decide +kernel
theorem dM_bestOf_75 : decode kM_bestOf 75 = .ok (.if_icmp .ne 7, 3) := by decide +kernel
theorem dM_bestOf_78 : decode kM_bestOf 78 = .ok (.iconst 1, 1) := by decide +kernel
theorem dM_bestOf_79 : decode kM_bestOf 79 = .ok (.goto 4, 3) := by decide +kernel
theorem dM_bestOf_82 : decode kM_bestOf 82 = .ok (.iconst 0, 1) := by decide +kernel
theorem dM_bestOf_83 : decode kM_bestOf 83 = .ok (.iadd, 1) := by decide +kernel
theorem dM_bestOf_84 : decode kM_bestOf 84 = .ok (.istore 7, 2) := by decide +kernel
theorem dM_bestOf_86 : decode kM_bestOf 86 = .ok (.iload 8, 2) := by decide +kernel
theorem dM_bestOf_88 : decode kM_bestOf 88 = .ok (.iload 10, 2) := by decide +kernel
theorem dM_bestOf_90 : decode kM_bestOf 90 = .ok (.iconst 2, 1) := by decide +kernel
theorem dM_bestOf_91 : decode kM_bestOf 91 = .ok (.if_icmp .ne 7, 3) := by decide +kernel
theorem dM_bestOf_94 : decode kM_bestOf 94 = .ok (.iconst 0, 1) := by decide +kernel
theorem dM_bestOf_95 : decode kM_bestOf 95 = .ok (.goto 5, 3) := by decide +kernel
theorem dM_bestOf_98 : decode kM_bestOf 98 = .ok (.iload 10, 2) := by decide +kernel
theorem dM_bestOf_100 : decode kM_bestOf 100 = .ok (.iadd, 1) := by decide +kernel
theorem dM_bestOf_101 : decode kM_bestOf 101 = .ok (.istore 8, 2) := by decide +kernel
theorem dM_bestOf_103 : decode kM_bestOf 103 = .ok (.iinc 9 1, 3) := by decide +kernel
theorem dM_bestOf_106 : decode kM_bestOf 106 = .ok (.goto (-59), 3) := by decide +kernel
theorem dM_bestOf_109 : decode kM_bestOf 109 = .ok (.iconst 4, 1) := by decide +kernel
theorem dM_bestOf_110 : decode kM_bestOf 110 = .ok (.iload 7, 2) := by decide +kernel
theorem dM_bestOf_112 : decode kM_bestOf 112 = .ok (.imul, 1) := by decide +kernel
theorem dM_bestOf_113 : decode kM_bestOf 113 = .ok (.iload 8, 2) := by decide +kernel
theorem dM_bestOf_115 : decode kM_bestOf 115 = .ok (.ifCond .ge 9, 3) := by decide +kernel
theorem dM_bestOf_118 : decode kM_bestOf 118 = .ok (.iload 8, 2) := by decide +kernel
theorem dM_bestOf_120 : decode kM_bestOf 120 = .ok (.ineg, 1) := by decide +kernel
theorem dM_bestOf_121 : decode kM_bestOf 121 = .ok (.goto 5, 3) := by decide +kernel
theorem dM_bestOf_124 : decode kM_bestOf 124 = .ok (.iload 8, 2) := by decide +kernel
theorem dM_bestOf_126 : decode kM_bestOf 126 = .ok (.iadd, 1) := by decide +kernel
theorem dM_bestOf_127 : decode kM_bestOf 127 = .ok (.istore 9, 2) := by decide +kernel
theorem dM_bestOf_129 : decode kM_bestOf 129 = .ok (.iload 9, 2) := by decide +kernel
theorem dM_bestOf_131 : decode kM_bestOf 131 = .ok (.iload 4, 2) := by decide +kernel
theorem dM_bestOf_133 : decode kM_bestOf 133 = .ok (.if_icmp .ge 10, 3) := by decide +kernel
theorem dM_bestOf_136 : decode kM_bestOf 136 = .ok (.iload 9, 2) := by decide +kernel
theorem dM_bestOf_138 : decode kM_bestOf 138 = .ok (.istore 4, 2) := by decide +kernel
theorem dM_bestOf_140 : decode kM_bestOf 140 = .ok (.iload 6, 2) := by decide +kernel
theorem dM_bestOf_142 : decode kM_bestOf 142 = .ok (.istore_n 3, 1) := by decide +kernel
theorem dM_bestOf_143 : decode kM_bestOf 143 = .ok (.iinc 5 1, 3) := by decide +kernel
theorem dM_bestOf_146 : decode kM_bestOf 146 = .ok (.goto (-137), 3) := by decide +kernel
theorem dM_bestOf_149 : decode kM_bestOf 149 = .ok (.iload_n 3, 1) := by decide +kernel
theorem dM_bestOf_150 : decode kM_bestOf 150 = .ok (.ireturn, 1) := by decide +kernel
theorem dM_lieOf_0 : decode kM_lieOf 0 = .ok (.aload_n 0, 1) := by decide +kernel
theorem dM_lieOf_1 : decode kM_lieOf 1 = .ok (.getfield 26, 3) := by decide +kernel
theorem dM_lieOf_4 : decode kM_lieOf 4 = .ok (.iload_n 2, 1) := by decide +kernel
theorem dM_lieOf_5 : decode kM_lieOf 5 = .ok (.iaload, 1) := by decide +kernel
theorem dM_lieOf_6 : decode kM_lieOf 6 = .ok (.istore_n 3, 1) := by decide +kernel
theorem dM_lieOf_7 : decode kM_lieOf 7 = .ok (.aload_n 0, 1) := by decide +kernel
theorem dM_lieOf_8 : decode kM_lieOf 8 = .ok (.iload_n 1, 1) := by decide +kernel
theorem dM_lieOf_9 : decode kM_lieOf 9 = .ok (.iload_n 3, 1) := by decide +kernel
theorem dM_lieOf_10 : decode kM_lieOf 10 = .ok (.aload_n 0, 1) := by decide +kernel
theorem dM_lieOf_11 : decode kM_lieOf 11 = .ok (.getfield 29, 3) := by decide +kernel
theorem dM_lieOf_14 : decode kM_lieOf 14 = .ok (.iload_n 2, 1) := by decide +kernel
theorem dM_lieOf_15 : decode kM_lieOf 15 = .ok (.laload, 1) := by decide +kernel
theorem dM_lieOf_16 : decode kM_lieOf 16 = .ok (.aload_n 0, 1) := by decide +kernel
theorem dM_lieOf_17 : decode kM_lieOf 17 = .ok (.getfield 33, 3) := by decide +kernel
theorem dM_lieOf_20 : decode kM_lieOf 20 = .ok (.iload_n 2, 1) := by decide +kernel
theorem dM_lieOf_21 : decode kM_lieOf 21 = .ok (.laload, 1) := by decide +kernel
theorem dM_lieOf_22 : decode kM_lieOf 22 = .ok (.invokevirtual 146, 3) := by decide +kernel
theorem dM_lieOf_25 : decode kM_lieOf 25 = .ok (.istore 4, 2) := by decide +kernel
theorem dM_lieOf_27 : decode kM_lieOf 27 = .ok (.aload_n 0, 1) := by decide +kernel
theorem dM_lieOf_28 : decode kM_lieOf 28 = .ok (.iload_n 1, 1) := by decide +kernel
theorem dM_lieOf_29 : decode kM_lieOf 29 = .ok (.iload_n 3, 1) := by decide +kernel
theorem dM_lieOf_30 : decode kM_lieOf 30 = .ok (.aload_n 0, 1) := by decide +kernel
theorem dM_lieOf_31 : decode kM_lieOf 31 = .ok (.getfield 36, 3) := by decide +kernel
theorem dM_lieOf_34 : decode kM_lieOf 34 = .ok (.iload_n 2, 1) := by decide +kernel
theorem dM_lieOf_35 : decode kM_lieOf 35 = .ok (.laload, 1) := by decide +kernel
theorem dM_lieOf_36 : decode kM_lieOf 36 = .ok (.aload_n 0, 1) := by decide +kernel
theorem dM_lieOf_37 : decode kM_lieOf 37 = .ok (.getfield 39, 3) := by decide +kernel
theorem dM_lieOf_40 : decode kM_lieOf 40 = .ok (.iload_n 2, 1) := by decide +kernel
theorem dM_lieOf_41 : decode kM_lieOf 41 = .ok (.laload, 1) := by decide +kernel
theorem dM_lieOf_42 : decode kM_lieOf 42 = .ok (.invokevirtual 146, 3) := by decide +kernel
theorem dM_lieOf_45 : decode kM_lieOf 45 = .ok (.istore 5, 2) := by decide +kernel
theorem dM_lieOf_47 : decode kM_lieOf 47 = .ok (.iload 4, 2) := by decide +kernel
theorem dM_lieOf_49 : decode kM_lieOf 49 = .ok (.iload 5, 2) := by decide +kernel
theorem dM_lieOf_51 : decode kM_lieOf 51 = .ok (.imul, 1) := by decide +kernel
theorem dM_lieOf_52 : decode kM_lieOf 52 = .ok (.ifCond .ge 7, 3) := by decide +kernel
theorem dM_lieOf_55 : decode kM_lieOf 55 = .ok (.iconst 2, 1) := by decide +kernel
theorem dM_lieOf_56 : decode kM_lieOf 56 = .ok (.goto 15, 3) := by decide +kernel
theorem dM_lieOf_59 : decode kM_lieOf 59 = .ok (.iload 4, 2) := by decide +kernel
theorem dM_lieOf_61 : decode kM_lieOf 61 = .ok (.ifCond .eq 8, 3) := by decide +kernel
theorem dM_lieOf_64 : decode kM_lieOf 64 = .ok (.iload 4, 2) := by decide +kernel
theorem dM_lieOf_66 : decode kM_lieOf 66 = .ok (.goto 5, 3) := by decide +kernel
theorem dM_lieOf_69 : decode kM_lieOf 69 = .ok (.iload 5, 2) := by decide +kernel
theorem dM_lieOf_71 : decode kM_lieOf 71 = .ok (.ireturn, 1) := by decide +kernel
theorem dM_sideAt_0 : decode kM_sideAt 0 = .ok (.aload_n 0, 1) := by decide +kernel
theorem dM_sideAt_1 : decode kM_sideAt 1 = .ok (.iload_n 1, 1) := by decide +kernel
theorem dM_sideAt_2 : decode kM_sideAt 2 = .ok (.aload_n 0, 1) := by decide +kernel
theorem dM_sideAt_3 : decode kM_sideAt 3 = .ok (.getfield 13, 3) := by decide +kernel
theorem dM_sideAt_6 : decode kM_sideAt 6 = .ok (.iload_n 2, 1) := by decide +kernel
theorem dM_sideAt_7 : decode kM_sideAt 7 = .ok (.iaload, 1) := by decide +kernel
theorem dM_sideAt_8 : decode kM_sideAt 8 = .ok (.i2l, 1) := by decide +kernel
theorem dM_sideAt_9 : decode kM_sideAt 9 = .ok (.aload_n 0, 1) := by decide +kernel
theorem dM_sideAt_10 : decode kM_sideAt 10 = .ok (.getfield 17, 3) := by decide +kernel
theorem dM_sideAt_13 : decode kM_sideAt 13 = .ok (.iload_n 2, 1) := by decide +kernel
theorem dM_sideAt_14 : decode kM_sideAt 14 = .ok (.iaload, 1) := by decide +kernel
theorem dM_sideAt_15 : decode kM_sideAt 15 = .ok (.i2l, 1) := by decide +kernel
theorem dM_sideAt_16 : decode kM_sideAt 16 = .ok (.invokevirtual 106, 3) := by decide +kernel
theorem dM_sideAt_19 : decode kM_sideAt 19 = .ok (.lstore 7, 2) := by decide +kernel
theorem dM_sideAt_21 : decode kM_sideAt 21 = .ok (.aload_n 0, 1) := by decide +kernel
theorem dM_sideAt_22 : decode kM_sideAt 22 = .ok (.iload_n 1, 1) := by decide +kernel
theorem dM_sideAt_23 : decode kM_sideAt 23 = .ok (.aload_n 0, 1) := by decide +kernel
theorem dM_sideAt_24 : decode kM_sideAt 24 = .ok (.getfield 20, 3) := by decide +kernel
theorem dM_sideAt_27 : decode kM_sideAt 27 = .ok (.iload_n 2, 1) := by decide +kernel
theorem dM_sideAt_28 : decode kM_sideAt 28 = .ok (.iaload, 1) := by decide +kernel
theorem dM_sideAt_29 : decode kM_sideAt 29 = .ok (.i2l, 1) := by decide +kernel
theorem dM_sideAt_30 : decode kM_sideAt 30 = .ok (.aload_n 0, 1) := by decide +kernel
theorem dM_sideAt_31 : decode kM_sideAt 31 = .ok (.getfield 23, 3) := by decide +kernel
theorem dM_sideAt_34 : decode kM_sideAt 34 = .ok (.iload_n 2, 1) := by decide +kernel
theorem dM_sideAt_35 : decode kM_sideAt 35 = .ok (.iaload, 1) := by decide +kernel
theorem dM_sideAt_36 : decode kM_sideAt 36 = .ok (.i2l, 1) := by decide +kernel
theorem dM_sideAt_37 : decode kM_sideAt 37 = .ok (.invokevirtual 106, 3) := by decide +kernel
theorem dM_sideAt_40 : decode kM_sideAt 40 = .ok (.lstore 9, 2) := by decide +kernel
theorem dM_sideAt_42 : decode kM_sideAt 42 = .ok (.lload 7, 2) := by decide +kernel
theorem dM_sideAt_44 : decode kM_sideAt 44 = .ok (.lload 5, 2) := by decide +kernel
theorem dM_sideAt_46 : decode kM_sideAt 46 = .ok (.lload_n 3, 1) := by decide +kernel
theorem dM_sideAt_47 : decode kM_sideAt 47 = .ok (.lsub, 1) := by decide +kernel
theorem dM_sideAt_48 : decode kM_sideAt 48 = .ok (.lload 9, 2) := by decide +kernel
theorem dM_sideAt_50 : decode kM_sideAt 50 = .ok (.lneg, 1) := by decide +kernel
theorem dM_sideAt_51 : decode kM_sideAt 51 = .ok (.lload_n 3, 1) := by decide +kernel
theorem dM_sideAt_52 : decode kM_sideAt 52 = .ok (.invokestatic 142, 3) := by decide +kernel
theorem dM_sideAt_55 : decode kM_sideAt 55 = .ok (.ireturn, 1) := by decide +kernel
theorem dM_order_0 : decode kM_order 0 = .ok (.lload_n 0, 1) := by decide +kernel
theorem dM_order_1 : decode kM_order 1 = .ok (.lload_n 2, 1) := by decide +kernel
theorem dM_order_2 : decode kM_order 2 = .ok (.invokestatic 88, 3) := by decide +kernel
theorem dM_order_5 : decode kM_order 5 = .ok (.lstore 8, 2) := by decide +kernel
theorem dM_order_7 : decode kM_order 7 = .ok (.lload 4, 2) := by decide +kernel
theorem dM_order_9 : decode kM_order 9 = .ok (.lload 6, 2) := by decide +kernel
theorem dM_order_11 : decode kM_order 11 = .ok (.invokestatic 88, 3) := by decide +kernel
theorem dM_order_14 : decode kM_order 14 = .ok (.lstore 10, 2) := by decide +kernel
theorem dM_order_16 : decode kM_order 16 = .ok (.lload 8, 2) := by decide +kernel
theorem dM_order_18 : decode kM_order 18 = .ok (.lload 10, 2) := by decide +kernel
theorem dM_order_20 : decode kM_order 20 = .ok (.lcmp, 1) := by decide +kernel
theorem dM_order_21 : decode kM_order 21 = .ok (.ifCond .eq 17, 3) := by decide +kernel
theorem dM_order_24 : decode kM_order 24 = .ok (.lload 8, 2) := by decide +kernel
theorem dM_order_26 : decode kM_order 26 = .ok (.lload 10, 2) := by decide +kernel
theorem dM_order_28 : decode kM_order 28 = .ok (.lcmp, 1) := by decide +kernel
theorem dM_order_29 : decode kM_order 29 = .ok (.ifCond .le 7, 3) := by decide +kernel
theorem dM_order_32 : decode kM_order 32 = .ok (.iconst 1, 1) := by decide +kernel
theorem dM_order_33 : decode kM_order 33 = .ok (.goto 4, 3) := by decide +kernel
theorem dM_order_36 : decode kM_order 36 = .ok (.iconst (-1), 1) := by decide +kernel
theorem dM_order_37 : decode kM_order 37 = .ok (.ireturn, 1) := by decide +kernel
theorem dM_order_38 : decode kM_order 38 = .ok (.lload_n 0, 1) := by decide +kernel
theorem dM_order_39 : decode kM_order 39 = .ok (.lload_n 2, 1) := by decide +kernel
theorem dM_order_40 : decode kM_order 40 = .ok (.lmul, 1) := by decide +kernel
theorem dM_order_41 : decode kM_order 41 = .ok (.ldc2_w 96, 3) := by decide +kernel
theorem dM_order_44 : decode kM_order 44 = .ok (.ladd, 1) := by decide +kernel
theorem dM_order_45 : decode kM_order 45 = .ok (.lstore 12, 2) := by decide +kernel
theorem dM_order_47 : decode kM_order 47 = .ok (.lload 4, 2) := by decide +kernel
theorem dM_order_49 : decode kM_order 49 = .ok (.lload 6, 2) := by decide +kernel
theorem dM_order_51 : decode kM_order 51 = .ok (.lmul, 1) := by decide +kernel
theorem dM_order_52 : decode kM_order 52 = .ok (.ldc2_w 96, 3) := by decide +kernel
theorem dM_order_55 : decode kM_order 55 = .ok (.ladd, 1) := by decide +kernel
theorem dM_order_56 : decode kM_order 56 = .ok (.lstore 14, 2) := by decide +kernel
theorem dM_order_58 : decode kM_order 58 = .ok (.lload 12, 2) := by decide +kernel
theorem dM_order_60 : decode kM_order 60 = .ok (.lload 14, 2) := by decide +kernel
theorem dM_order_62 : decode kM_order 62 = .ok (.lcmp, 1) := by decide +kernel
theorem dM_order_63 : decode kM_order 63 = .ok (.ifCond .le 7, 3) := by decide +kernel
theorem dM_order_66 : decode kM_order 66 = .ok (.iconst 1, 1) := by decide +kernel
theorem dM_order_67 : decode kM_order 67 = .ok (.goto 16, 3) := by decide +kernel
theorem dM_order_70 : decode kM_order 70 = .ok (.lload 12, 2) := by decide +kernel
theorem dM_order_72 : decode kM_order 72 = .ok (.lload 14, 2) := by decide +kernel
theorem dM_order_74 : decode kM_order 74 = .ok (.lcmp, 1) := by decide +kernel
theorem dM_order_75 : decode kM_order 75 = .ok (.ifCond .ge 7, 3) := by decide +kernel
theorem dM_order_78 : decode kM_order 78 = .ok (.iconst (-1), 1) := by decide +kernel
theorem dM_order_79 : decode kM_order 79 = .ok (.goto 4, 3) := by decide +kernel
theorem dM_order_82 : decode kM_order 82 = .ok (.iconst 0, 1) := by decide +kernel
theorem dM_order_83 : decode kM_order 83 = .ok (.ireturn, 1) := by decide +kernel
theorem dM_collect_0 : decode kM_collect 0 = .ok (.iconst 0, 1) := by decide +kernel
theorem dM_collect_1 : decode kM_collect 1 = .ok (.istore 6, 2) := by decide +kernel
theorem dM_collect_3 : decode kM_collect 3 = .ok (.iconst 0, 1) := by decide +kernel
theorem dM_collect_4 : decode kM_collect 4 = .ok (.istore 7, 2) := by decide +kernel
theorem dM_collect_6 : decode kM_collect 6 = .ok (.iload 7, 2) := by decide +kernel
theorem dM_collect_8 : decode kM_collect 8 = .ok (.iload_n 2, 1) := by decide +kernel
theorem dM_collect_9 : decode kM_collect 9 = .ok (.if_icmp .ge 101, 3) := by decide +kernel
theorem dM_collect_12 : decode kM_collect 12 = .ok (.aload_n 0, 1) := by decide +kernel
theorem dM_collect_13 : decode kM_collect 13 = .ok (.getfield 42, 3) := by decide +kernel
theorem dM_collect_16 : decode kM_collect 16 = .ok (.iload_n 1, 1) := by decide +kernel
theorem dM_collect_17 : decode kM_collect 17 = .ok (.iload 7, 2) := by decide +kernel
theorem dM_collect_19 : decode kM_collect 19 = .ok (.iadd, 1) := by decide +kernel
theorem dM_collect_20 : decode kM_collect 20 = .ok (.iaload, 1) := by decide +kernel
theorem dM_collect_21 : decode kM_collect 21 = .ok (.istore 8, 2) := by decide +kernel
theorem dM_collect_23 : decode kM_collect 23 = .ok (.aload_n 0, 1) := by decide +kernel
theorem dM_collect_24 : decode kM_collect 24 = .ok (.iload_n 3, 1) := by decide +kernel
theorem dM_collect_25 : decode kM_collect 25 = .ok (.iload 8, 2) := by decide +kernel
theorem dM_collect_27 : decode kM_collect 27 = .ok (.invokevirtual 151, 3) := by decide +kernel
theorem dM_collect_30 : decode kM_collect 30 = .ok (.istore 9, 2) := by decide +kernel
theorem dM_collect_32 : decode kM_collect 32 = .ok (.iload 9, 2) := by decide +kernel
theorem dM_collect_34 : decode kM_collect 34 = .ok (.iload 4, 2) := by decide +kernel
theorem dM_collect_36 : decode kM_collect 36 = .ok (.if_icmp .eq 9, 3) := by decide +kernel
theorem dM_collect_39 : decode kM_collect 39 = .ok (.iload 9, 2) := by decide +kernel
theorem dM_collect_41 : decode kM_collect 41 = .ok (.iconst 2, 1) := by decide +kernel
theorem dM_collect_42 : decode kM_collect 42 = .ok (.if_icmp .ne 62, 3) := by decide +kernel
theorem dM_collect_45 : decode kM_collect 45 = .ok (.aload_n 0, 1) := by decide +kernel
theorem dM_collect_46 : decode kM_collect 46 = .ok (.getfield 42, 3) := by decide +kernel
theorem dM_collect_49 : decode kM_collect 49 = .ok (.iload 5, 2) := by decide +kernel
theorem dM_collect_51 : decode kM_collect 51 = .ok (.iload 6, 2) := by decide +kernel
theorem dM_collect_53 : decode kM_collect 53 = .ok (.iadd, 1) := by decide +kernel
theorem dM_collect_54 : decode kM_collect 54 = .ok (.iload 9, 2) := by decide +kernel
theorem dM_collect_56 : decode kM_collect 56 = .ok (.iconst 2, 1) := by decide +kernel
theorem dM_collect_57 : decode kM_collect 57 = .ok (.if_icmp .ne 15, 3) := by decide +kernel
theorem dM_collect_60 : decode kM_collect 60 = .ok (.aload_n 0, 1) := by decide +kernel
theorem dM_collect_61 : decode kM_collect 61 = .ok (.iload 8, 2) := by decide +kernel
theorem dM_collect_63 : decode kM_collect 63 = .ok (.iload_n 3, 1) := by decide +kernel
theorem dM_collect_64 : decode kM_collect 64 = .ok (.iload 4, 2) := by decide +kernel
theorem dM_collect_66 : decode kM_collect 66 = .ok (.invokevirtual 191, 3) := by decide +kernel
theorem dM_collect_69 : decode kM_collect 69 = .ok (.goto 5, 3) := by decide +kernel
theorem dM_collect_72 : decode kM_collect 72 = .ok (.iload 8, 2) := by decide +kernel
theorem dM_collect_74 : decode kM_collect 74 = .ok (.iastore, 1) := by decide +kernel
theorem dM_collect_75 : decode kM_collect 75 = .ok (.iinc 6 1, 3) := by decide +kernel
theorem dM_collect_78 : decode kM_collect 78 = .ok (.aload_n 0, 1) := by decide +kernel
theorem dM_collect_79 : decode kM_collect 79 = .ok (.dup, 1) := by decide +kernel
theorem dM_collect_80 : decode kM_collect 80 = .ok (.getfield 162, 3) := by decide +kernel
theorem dM_collect_83 : decode kM_collect 83 = .ok (.iload 9, 2) := by decide +kernel
theorem dM_collect_85 : decode kM_collect 85 = .ok (.iconst 2, 1) := by decide +kernel
theorem dM_collect_86 : decode kM_collect 86 = .ok (.if_icmp .ne 13, 3) := by decide +kernel
theorem dM_collect_89 : decode kM_collect 89 = .ok (.iload 4, 2) := by decide +kernel
theorem dM_collect_91 : decode kM_collect 91 = .ok (.iconst 1, 1) := by decide +kernel
theorem dM_collect_92 : decode kM_collect 92 = .ok (.if_icmp .ne 7, 3) := by decide +kernel
theorem dM_collect_95 : decode kM_collect 95 = .ok (.iconst 1, 1) := by decide +kernel
theorem dM_collect_96 : decode kM_collect 96 = .ok (.goto 4, 3) := by decide +kernel
theorem dM_collect_99 : decode kM_collect 99 = .ok (.iconst 0, 1) := by decide +kernel
theorem dM_collect_100 : decode kM_collect 100 = .ok (.iadd, 1) := by decide +kernel
theorem dM_collect_101 : decode kM_collect 101 = .ok (.putfield 162, 3) := by decide +kernel
theorem dM_collect_104 : decode kM_collect 104 = .ok (.iinc 7 1, 3) := by decide +kernel
theorem dM_collect_107 : decode kM_collect 107 = .ok (.goto (-101), 3) := by decide +kernel
theorem dM_collect_110 : decode kM_collect 110 = .ok (.iload 6, 2) := by decide +kernel
theorem dM_collect_112 : decode kM_collect 112 = .ok (.ireturn, 1) := by decide +kernel
theorem dM_part_0 : decode kM_part 0 = .ok (.aload_n 0, 1) := by decide +kernel
theorem dM_part_1 : decode kM_part 1 = .ok (.getfield 26, 3) := by decide +kernel
theorem dM_part_4 : decode kM_part 4 = .ok (.iload_n 1, 1) := by decide +kernel
theorem dM_part_5 : decode kM_part 5 = .ok (.iaload, 1) := by decide +kernel
theorem dM_part_6 : decode kM_part 6 = .ok (.istore 4, 2) := by decide +kernel
theorem dM_part_8 : decode kM_part 8 = .ok (.aload_n 0, 1) := by decide +kernel
theorem dM_part_9 : decode kM_part 9 = .ok (.iload_n 2, 1) := by decide +kernel
theorem dM_part_10 : decode kM_part 10 = .ok (.aload_n 0, 1) := by decide +kernel
theorem dM_part_11 : decode kM_part 11 = .ok (.getfield 13, 3) := by decide +kernel
theorem dM_part_14 : decode kM_part 14 = .ok (.iload 4, 2) := by decide +kernel
theorem dM_part_16 : decode kM_part 16 = .ok (.iaload, 1) := by decide +kernel
theorem dM_part_17 : decode kM_part 17 = .ok (.i2l, 1) := by decide +kernel
theorem dM_part_18 : decode kM_part 18 = .ok (.aload_n 0, 1) := by decide +kernel
theorem dM_part_19 : decode kM_part 19 = .ok (.getfield 17, 3) := by decide +kernel
theorem dM_part_22 : decode kM_part 22 = .ok (.iload 4, 2) := by decide +kernel
theorem dM_part_24 : decode kM_part 24 = .ok (.iaload, 1) := by decide +kernel
theorem dM_part_25 : decode kM_part 25 = .ok (.i2l, 1) := by decide +kernel
theorem dM_part_26 : decode kM_part 26 = .ok (.invokevirtual 106, 3) := by decide +kernel
theorem dM_part_29 : decode kM_part 29 = .ok (.lstore 5, 2) := by decide +kernel
theorem dM_part_31 : decode kM_part 31 = .ok (.lload 5, 2) := by decide +kernel
theorem dM_part_33 : decode kM_part 33 = .ok (.aload_n 0, 1) := by decide +kernel
theorem dM_part_34 : decode kM_part 34 = .ok (.iload_n 2, 1) := by decide +kernel
theorem dM_part_35 : decode kM_part 35 = .ok (.aload_n 0, 1) := by decide +kernel
theorem dM_part_36 : decode kM_part 36 = .ok (.getfield 20, 3) := by decide +kernel
theorem dM_part_39 : decode kM_part 39 = .ok (.iload 4, 2) := by decide +kernel
theorem dM_part_41 : decode kM_part 41 = .ok (.iaload, 1) := by decide +kernel
theorem dM_part_42 : decode kM_part 42 = .ok (.i2l, 1) := by decide +kernel
theorem dM_part_43 : decode kM_part 43 = .ok (.aload_n 0, 1) := by decide +kernel
theorem dM_part_44 : decode kM_part 44 = .ok (.getfield 23, 3) := by decide +kernel
theorem dM_part_47 : decode kM_part 47 = .ok (.iload 4, 2) := by decide +kernel
theorem dM_part_49 : decode kM_part 49 = .ok (.iaload, 1) := by decide +kernel
theorem dM_part_50 : decode kM_part 50 = .ok (.i2l, 1) := by decide +kernel
theorem dM_part_51 : decode kM_part 51 = .ok (.invokevirtual 106, 3) := by decide +kernel
theorem dM_part_54 : decode kM_part 54 = .ok (.lsub, 1) := by decide +kernel
theorem dM_part_55 : decode kM_part 55 = .ok (.lstore 7, 2) := by decide +kernel
theorem dM_part_57 : decode kM_part 57 = .ok (.lload 7, 2) := by decide +kernel
theorem dM_part_59 : decode kM_part 59 = .ok (.lconst 0, 1) := by decide +kernel
theorem dM_part_60 : decode kM_part 60 = .ok (.lcmp, 1) := by decide +kernel
theorem dM_part_61 : decode kM_part 61 = .ok (.ifCond .ge 13, 3) := by decide +kernel
theorem dM_part_64 : decode kM_part 64 = .ok (.lload 5, 2) := by decide +kernel
theorem dM_part_66 : decode kM_part 66 = .ok (.lneg, 1) := by decide +kernel
theorem dM_part_67 : decode kM_part 67 = .ok (.lstore 5, 2) := by decide +kernel
theorem dM_part_69 : decode kM_part 69 = .ok (.lload 7, 2) := by decide +kernel
theorem dM_part_71 : decode kM_part 71 = .ok (.lneg, 1) := by decide +kernel
theorem dM_part_72 : decode kM_part 72 = .ok (.lstore 7, 2) := by decide +kernel
theorem dM_part_74 : decode kM_part 74 = .ok (.aload_n 0, 1) := by decide +kernel
theorem dM_part_75 : decode kM_part 75 = .ok (.iload_n 2, 1) := by decide +kernel
theorem dM_part_76 : decode kM_part 76 = .ok (.iload 4, 2) := by decide +kernel
theorem dM_part_78 : decode kM_part 78 = .ok (.aload_n 0, 1) := by decide +kernel
theorem dM_part_79 : decode kM_part 79 = .ok (.getfield 29, 3) := by decide +kernel
theorem dM_part_82 : decode kM_part 82 = .ok (.iload_n 1, 1) := by decide +kernel
theorem dM_part_83 : decode kM_part 83 = .ok (.laload, 1) := by decide +kernel
theorem dM_part_84 : decode kM_part 84 = .ok (.aload_n 0, 1) := by decide +kernel
theorem dM_part_85 : decode kM_part 85 = .ok (.getfield 33, 3) := by decide +kernel
theorem dM_part_88 : decode kM_part 88 = .ok (.iload_n 1, 1) := by decide +kernel
theorem dM_part_89 : decode kM_part 89 = .ok (.laload, 1) := by decide +kernel
theorem dM_part_90 : decode kM_part 90 = .ok (.invokevirtual 146, 3) := by decide +kernel
theorem dM_part_93 : decode kM_part 93 = .ok (.iload_n 3, 1) := by decide +kernel
theorem dM_part_94 : decode kM_part 94 = .ok (.if_icmp .ne 7, 3) := by decide +kernel
theorem dM_part_97 : decode kM_part 97 = .ok (.iconst 1, 1) := by decide +kernel
theorem dM_part_98 : decode kM_part 98 = .ok (.goto 4, 3) := by decide +kernel
theorem dM_part_101 : decode kM_part 101 = .ok (.iconst 0, 1) := by decide +kernel
theorem dM_part_102 : decode kM_part 102 = .ok (.istore 9, 2) := by decide +kernel
theorem dM_part_104 : decode kM_part 104 = .ok (.iload 9, 2) := by decide +kernel
theorem dM_part_106 : decode kM_part 106 = .ok (.ifCond .eq 28, 3) := by decide +kernel
theorem dM_part_109 : decode kM_part 109 = .ok (.aload_n 0, 1) := by decide +kernel
theorem dM_part_110 : decode kM_part 110 = .ok (.iload 4, 2) := by decide +kernel
theorem dM_part_112 : decode kM_part 112 = .ok (.aload_n 0, 1) := by decide +kernel
theorem dM_part_113 : decode kM_part 113 = .ok (.getfield 29, 3) := by decide +kernel
theorem dM_part_116 : decode kM_part 116 = .ok (.iload_n 1, 1) := by decide +kernel
theorem dM_part_117 : decode kM_part 117 = .ok (.laload, 1) := by decide +kernel
theorem dM_part_118 : decode kM_part 118 = .ok (.aload_n 0, 1) := by decide +kernel
theorem dM_part_119 : decode kM_part 119 = .ok (.getfield 33, 3) := by decide +kernel
theorem dM_part_122 : decode kM_part 122 = .ok (.iload_n 1, 1) := by decide +kernel
theorem dM_part_123 : decode kM_part 123 = .ok (.laload, 1) := by decide +kernel
theorem dM_part_124 : decode kM_part 124 = .ok (.lload 5, 2) := by decide +kernel
theorem dM_part_126 : decode kM_part 126 = .ok (.lload 7, 2) := by decide +kernel
theorem dM_part_128 : decode kM_part 128 = .ok (.invokevirtual 158, 3) := by decide +kernel
theorem dM_part_131 : decode kM_part 131 = .ok (.goto 25, 3) := by decide +kernel
theorem dM_part_134 : decode kM_part 134 = .ok (.aload_n 0, 1) := by decide +kernel
theorem dM_part_135 : decode kM_part 135 = .ok (.iload 4, 2) := by decide +kernel
theorem dM_part_137 : decode kM_part 137 = .ok (.lload 5, 2) := by decide +kernel
theorem dM_part_139 : decode kM_part 139 = .ok (.lload 7, 2) := by decide +kernel
theorem dM_part_141 : decode kM_part 141 = .ok (.aload_n 0, 1) := by decide +kernel
theorem dM_part_142 : decode kM_part 142 = .ok (.getfield 36, 3) := by decide +kernel
theorem dM_part_145 : decode kM_part 145 = .ok (.iload_n 1, 1) := by decide +kernel
theorem dM_part_146 : decode kM_part 146 = .ok (.laload, 1) := by decide +kernel
theorem dM_part_147 : decode kM_part 147 = .ok (.aload_n 0, 1) := by decide +kernel
theorem dM_part_148 : decode kM_part 148 = .ok (.getfield 39, 3) := by decide +kernel
theorem dM_part_151 : decode kM_part 151 = .ok (.iload_n 1, 1) := by decide +kernel
theorem dM_part_152 : decode kM_part 152 = .ok (.laload, 1) := by decide +kernel
theorem dM_part_153 : decode kM_part 153 = .ok (.invokevirtual 158, 3) := by decide +kernel
theorem dM_part_156 : decode kM_part 156 = .ok (.ireturn, 1) := by decide +kernel
theorem dM_within_0 : decode kM_within 0 = .ok (.iload_n 1, 1) := by decide +kernel
theorem dM_within_1 : decode kM_within 1 = .ok (.iconst 1, 1) := by decide +kernel
theorem dM_within_2 : decode kM_within 2 = .ok (.iadd, 1) := by decide +kernel
theorem dM_within_3 : decode kM_within 3 = .ok (.istore_n 2, 1) := by decide +kernel
theorem dM_within_4 : decode kM_within 4 = .ok (.iload_n 2, 1) := by decide +kernel
theorem dM_within_5 : decode kM_within 5 = .ok (.aload_n 0, 1) := by decide +kernel
theorem dM_within_6 : decode kM_within 6 = .ok (.getfield 165, 3) := by decide +kernel
theorem dM_within_9 : decode kM_within 9 = .ok (.if_icmp .ge 24, 3) := by decide +kernel
theorem dM_within_12 : decode kM_within 12 = .ok (.aload_n 0, 1) := by decide +kernel
theorem dM_within_13 : decode kM_within 13 = .ok (.getfield 66, 3) := by decide +kernel
theorem dM_within_16 : decode kM_within 16 = .ok (.iload_n 2, 1) := by decide +kernel
theorem dM_within_17 : decode kM_within 17 = .ok (.iaload, 1) := by decide +kernel
theorem dM_within_18 : decode kM_within 18 = .ok (.aload_n 0, 1) := by decide +kernel
theorem dM_within_19 : decode kM_within 19 = .ok (.getfield 66, 3) := by decide +kernel
theorem dM_within_22 : decode kM_within 22 = .ok (.iload_n 1, 1) := by decide +kernel
theorem dM_within_23 : decode kM_within 23 = .ok (.iaload, 1) := by decide +kernel
theorem dM_within_24 : decode kM_within 24 = .ok (.if_icmp .le 9, 3) := by decide +kernel
theorem dM_within_27 : decode kM_within 27 = .ok (.iinc 2 1, 3) := by decide +kernel
theorem dM_within_30 : decode kM_within 30 = .ok (.goto (-26), 3) := by decide +kernel
theorem dM_within_33 : decode kM_within 33 = .ok (.iload_n 2, 1) := by decide +kernel
theorem dM_within_34 : decode kM_within 34 = .ok (.iload_n 1, 1) := by decide +kernel
theorem dM_within_35 : decode kM_within 35 = .ok (.isub, 1) := by decide +kernel
theorem dM_within_36 : decode kM_within 36 = .ok (.ireturn, 1) := by decide +kernel
theorem dM_wall_0 : decode kM_wall 0 = .ok (.aload_n 0, 1) := by decide +kernel
theorem dM_wall_1 : decode kM_wall 1 = .ok (.iconst 0, 1) := by decide +kernel
theorem dM_wall_2 : decode kM_wall 2 = .ok (.putfield 84, 3) := by decide +kernel
theorem dM_wall_5 : decode kM_wall 5 = .ok (.aload_n 0, 1) := by decide +kernel
theorem dM_wall_6 : decode kM_wall 6 = .ok (.iload_n 1, 1) := by decide +kernel
theorem dM_wall_7 : decode kM_wall 7 = .ok (.iload_n 2, 1) := by decide +kernel
theorem dM_wall_8 : decode kM_wall 8 = .ok (.invokevirtual 208, 3) := by decide +kernel
theorem dM_wall_11 : decode kM_wall 11 = .ok (.ifCond .eq 24, 3) := by decide +kernel
theorem dM_wall_14 : decode kM_wall 14 = .ok (.aload_n 0, 1) := by decide +kernel
theorem dM_wall_15 : decode kM_wall 15 = .ok (.getfield 26, 3) := by decide +kernel
theorem dM_wall_18 : decode kM_wall 18 = .ok (.aload_n 0, 1) := by decide +kernel
theorem dM_wall_19 : decode kM_wall 19 = .ok (.getfield 75, 3) := by decide +kernel
theorem dM_wall_22 : decode kM_wall 22 = .ok (.aload_n 0, 1) := by decide +kernel
theorem dM_wall_23 : decode kM_wall 23 = .ok (.getfield 69, 3) := by decide +kernel
theorem dM_wall_26 : decode kM_wall 26 = .ok (.iload_n 1, 1) := by decide +kernel
theorem dM_wall_27 : decode kM_wall 27 = .ok (.iaload, 1) := by decide +kernel
theorem dM_wall_28 : decode kM_wall 28 = .ok (.iload_n 2, 1) := by decide +kernel
theorem dM_wall_29 : decode kM_wall 29 = .ok (.iadd, 1) := by decide +kernel
theorem dM_wall_30 : decode kM_wall 30 = .ok (.iaload, 1) := by decide +kernel
theorem dM_wall_31 : decode kM_wall 31 = .ok (.iaload, 1) := by decide +kernel
theorem dM_wall_32 : decode kM_wall 32 = .ok (.goto 4, 3) := by decide +kernel
theorem dM_wall_35 : decode kM_wall 35 = .ok (.iconst (-1), 1) := by decide +kernel
theorem dM_wall_36 : decode kM_wall 36 = .ok (.ireturn, 1) := by decide +kernel
theorem dM_isOn_0 : decode kM_isOn 0 = .ok (.aload_n 0, 1) := by decide +kernel
theorem dM_isOn_1 : decode kM_isOn 1 = .ok (.iload_n 1, 1) := by decide +kernel
theorem dM_isOn_2 : decode kM_isOn 2 = .ok (.invokevirtual 201, 3) := by decide +kernel
theorem dM_isOn_5 : decode kM_isOn 5 = .ok (.ifCond .eq 33, 3) := by decide +kernel
theorem dM_isOn_8 : decode kM_isOn 8 = .ok (.iload_n 2, 1) := by decide +kernel
theorem dM_isOn_9 : decode kM_isOn 9 = .ok (.ifCond .lt 29, 3) := by decide +kernel
theorem dM_isOn_12 : decode kM_isOn 12 = .ok (.iload_n 2, 1) := by decide +kernel
theorem dM_isOn_13 : decode kM_isOn 13 = .ok (.aload_n 0, 1) := by decide +kernel
theorem dM_isOn_14 : decode kM_isOn 14 = .ok (.getfield 72, 3) := by decide +kernel
theorem dM_isOn_17 : decode kM_isOn 17 = .ok (.aload_n 0, 1) := by decide +kernel
theorem dM_isOn_18 : decode kM_isOn 18 = .ok (.iload_n 1, 1) := by decide +kernel
theorem dM_isOn_19 : decode kM_isOn 19 = .ok (.invokevirtual 201, 3) := by decide +kernel
theorem dM_isOn_22 : decode kM_isOn 22 = .ok (.ifCond .eq 7, 3) := by decide +kernel
theorem dM_isOn_25 : decode kM_isOn 25 = .ok (.iload_n 1, 1) := by decide +kernel
theorem dM_isOn_26 : decode kM_isOn 26 = .ok (.goto 4, 3) := by decide +kernel
theorem dM_isOn_29 : decode kM_isOn 29 = .ok (.iconst 0, 1) := by decide +kernel
theorem dM_isOn_30 : decode kM_isOn 30 = .ok (.iaload, 1) := by decide +kernel
theorem dM_isOn_31 : decode kM_isOn 31 = .ok (.if_icmp .ge 7, 3) := by decide +kernel
theorem dM_isOn_34 : decode kM_isOn 34 = .ok (.iconst 1, 1) := by decide +kernel
theorem dM_isOn_35 : decode kM_isOn 35 = .ok (.goto 4, 3) := by decide +kernel
theorem dM_isOn_38 : decode kM_isOn 38 = .ok (.iconst 0, 1) := by decide +kernel
theorem dM_isOn_39 : decode kM_isOn 39 = .ok (.ireturn, 1) := by decide +kernel
theorem dM_quotient_0 : decode kM_quotient 0 = .ok (.aload_n 0, 1) := by decide +kernel
theorem dM_quotient_1 : decode kM_quotient 1 = .ok (.iconst 0, 1) := by decide +kernel
theorem dM_quotient_2 : decode kM_quotient 2 = .ok (.putfield 84, 3) := by decide +kernel
theorem dM_quotient_5 : decode kM_quotient 5 = .ok (.aload_n 0, 1) := by decide +kernel
theorem dM_quotient_6 : decode kM_quotient 6 = .ok (.iload_n 1, 1) := by decide +kernel
theorem dM_quotient_7 : decode kM_quotient 7 = .ok (.iload_n 2, 1) := by decide +kernel
theorem dM_quotient_8 : decode kM_quotient 8 = .ok (.invokevirtual 208, 3) := by decide +kernel
theorem dM_quotient_11 : decode kM_quotient 11 = .ok (.ifCond .eq 12, 3) := by decide +kernel
theorem dM_quotient_14 : decode kM_quotient 14 = .ok (.iload_n 3, 1) := by decide +kernel
theorem dM_quotient_15 : decode kM_quotient 15 = .ok (.ifCond .lt 8, 3) := by decide +kernel
theorem dM_quotient_18 : decode kM_quotient 18 = .ok (.iload_n 3, 1) := by decide +kernel
theorem dM_quotient_19 : decode kM_quotient 19 = .ok (.iconst 3, 1) := by decide +kernel
theorem dM_quotient_20 : decode kM_quotient 20 = .ok (.if_icmp .le 7, 3) := by decide +kernel
theorem dM_quotient_23 : decode kM_quotient 23 = .ok (.ldc2_w 211, 3) := by decide +kernel
theorem dM_quotient_26 : decode kM_quotient 26 = .ok (.lreturn, 1) := by decide +kernel
theorem dM_quotient_27 : decode kM_quotient 27 = .ok (.aload_n 0, 1) := by decide +kernel
theorem dM_quotient_28 : decode kM_quotient 28 = .ok (.getfield 75, 3) := by decide +kernel
theorem dM_quotient_31 : decode kM_quotient 31 = .ok (.aload_n 0, 1) := by decide +kernel
theorem dM_quotient_32 : decode kM_quotient 32 = .ok (.getfield 69, 3) := by decide +kernel
theorem dM_quotient_35 : decode kM_quotient 35 = .ok (.iload_n 1, 1) := by decide +kernel
theorem dM_quotient_36 : decode kM_quotient 36 = .ok (.iaload, 1) := by decide +kernel
theorem dM_quotient_37 : decode kM_quotient 37 = .ok (.iload_n 2, 1) := by decide +kernel
theorem dM_quotient_38 : decode kM_quotient 38 = .ok (.iadd, 1) := by decide +kernel
theorem dM_quotient_39 : decode kM_quotient 39 = .ok (.iaload, 1) := by decide +kernel
theorem dM_quotient_40 : decode kM_quotient 40 = .ok (.istore 4, 2) := by decide +kernel
theorem dM_quotient_42 : decode kM_quotient 42 = .ok (.iload_n 3, 1) := by decide +kernel
theorem dM_quotient_43 : decode kM_quotient 43 = .ok (.iconst 2, 1) := by decide +kernel
theorem dM_quotient_44 : decode kM_quotient 44 = .ok (.if_icmp .ge 13, 3) := by decide +kernel
theorem dM_quotient_47 : decode kM_quotient 47 = .ok (.aload_n 0, 1) := by decide +kernel
theorem dM_quotient_48 : decode kM_quotient 48 = .ok (.getfield 29, 3) := by decide +kernel
theorem dM_quotient_51 : decode kM_quotient 51 = .ok (.iload 4, 2) := by decide +kernel
theorem dM_quotient_53 : decode kM_quotient 53 = .ok (.laload, 1) := by decide +kernel
theorem dM_quotient_54 : decode kM_quotient 54 = .ok (.goto 10, 3) := by decide +kernel
theorem dM_quotient_57 : decode kM_quotient 57 = .ok (.aload_n 0, 1) := by decide +kernel
theorem dM_quotient_58 : decode kM_quotient 58 = .ok (.getfield 36, 3) := by decide +kernel
theorem dM_quotient_61 : decode kM_quotient 61 = .ok (.iload 4, 2) := by decide +kernel
theorem dM_quotient_63 : decode kM_quotient 63 = .ok (.laload, 1) := by decide +kernel
theorem dM_quotient_64 : decode kM_quotient 64 = .ok (.lstore 5, 2) := by decide +kernel
theorem dM_quotient_66 : decode kM_quotient 66 = .ok (.iload_n 3, 1) := by decide +kernel
theorem dM_quotient_67 : decode kM_quotient 67 = .ok (.iconst 2, 1) := by decide +kernel
theorem dM_quotient_68 : decode kM_quotient 68 = .ok (.if_icmp .ge 13, 3) := by decide +kernel
theorem dM_quotient_71 : decode kM_quotient 71 = .ok (.aload_n 0, 1) := by decide +kernel
theorem dM_quotient_72 : decode kM_quotient 72 = .ok (.getfield 33, 3) := by decide +kernel
theorem dM_quotient_75 : decode kM_quotient 75 = .ok (.iload 4, 2) := by decide +kernel
theorem dM_quotient_77 : decode kM_quotient 77 = .ok (.laload, 1) := by decide +kernel
theorem dM_quotient_78 : decode kM_quotient 78 = .ok (.goto 10, 3) := by decide +kernel
theorem dM_quotient_81 : decode kM_quotient 81 = .ok (.aload_n 0, 1) := by decide +kernel
theorem dM_quotient_82 : decode kM_quotient 82 = .ok (.getfield 39, 3) := by decide +kernel
theorem dM_quotient_85 : decode kM_quotient 85 = .ok (.iload 4, 2) := by decide +kernel
theorem dM_quotient_87 : decode kM_quotient 87 = .ok (.laload, 1) := by decide +kernel
theorem dM_quotient_88 : decode kM_quotient 88 = .ok (.lstore 7, 2) := by decide +kernel
theorem dM_quotient_90 : decode kM_quotient 90 = .ok (.iload_n 3, 1) := by decide +kernel
theorem dM_quotient_91 : decode kM_quotient 91 = .ok (.iconst 2, 1) := by decide +kernel
theorem dM_quotient_92 : decode kM_quotient 92 = .ok (.irem, 1) := by decide +kernel
theorem dM_quotient_93 : decode kM_quotient 93 = .ok (.ifCond .ne 8, 3) := by decide +kernel
theorem dM_quotient_96 : decode kM_quotient 96 = .ok (.lload 5, 2) := by decide +kernel
theorem dM_quotient_98 : decode kM_quotient 98 = .ok (.goto 5, 3) := by decide +kernel
theorem dM_quotient_101 : decode kM_quotient 101 = .ok (.lload 7, 2) := by decide +kernel
theorem dM_quotient_103 : decode kM_quotient 103 = .ok (.lload 5, 2) := by decide +kernel
theorem dM_quotient_105 : decode kM_quotient 105 = .ok (.lload 7, 2) := by decide +kernel
theorem dM_quotient_107 : decode kM_quotient 107 = .ok (.invokestatic 213, 3) := by decide +kernel
theorem dM_quotient_110 : decode kM_quotient 110 = .ok (.ldiv, 1) := by decide +kernel
theorem dM_quotient_111 : decode kM_quotient 111 = .ok (.lreturn, 1) := by decide +kernel
theorem dM_common_0 : decode kM_common 0 = .ok (.lload_n 0, 1) := by decide +kernel
theorem dM_common_1 : decode kM_common 1 = .ok (.lstore 4, 2) := by decide +kernel
theorem dM_common_3 : decode kM_common 3 = .ok (.lload_n 2, 1) := by decide +kernel
theorem dM_common_4 : decode kM_common 4 = .ok (.lstore 6, 2) := by decide +kernel
theorem dM_common_6 : decode kM_common 6 = .ok (.lload 6, 2) := by decide +kernel
theorem dM_common_8 : decode kM_common 8 = .ok (.lconst 0, 1) := by decide +kernel
theorem dM_common_9 : decode kM_common 9 = .ok (.lcmp, 1) := by decide +kernel
theorem dM_common_10 : decode kM_common 10 = .ok (.ifCond .le 21, 3) := by decide +kernel
theorem dM_common_13 : decode kM_common 13 = .ok (.lload 4, 2) := by decide +kernel
theorem dM_common_15 : decode kM_common 15 = .ok (.lload 6, 2) := by decide +kernel
theorem dM_common_17 : decode kM_common 17 = .ok (.lrem, 1) := by decide +kernel
theorem dM_common_18 : decode kM_common 18 = .ok (.lstore 8, 2) := by decide +kernel
theorem dM_common_20 : decode kM_common 20 = .ok (.lload 6, 2) := by decide +kernel
theorem dM_common_22 : decode kM_common 22 = .ok (.lstore 4, 2) := by decide +kernel
theorem dM_common_24 : decode kM_common 24 = .ok (.lload 8, 2) := by decide +kernel
theorem dM_common_26 : decode kM_common 26 = .ok (.lstore 6, 2) := by decide +kernel
theorem dM_common_28 : decode kM_common 28 = .ok (.goto (-22), 3) := by decide +kernel
theorem dM_common_31 : decode kM_common 31 = .ok (.lload 4, 2) := by decide +kernel
theorem dM_common_33 : decode kM_common 33 = .ok (.lreturn, 1) := by decide +kernel
theorem dM_leaf_0 : decode kM_leaf 0 = .ok (.aload_n 0, 1) := by decide +kernel
theorem dM_leaf_1 : decode kM_leaf 1 = .ok (.iconst 0, 1) := by decide +kernel
theorem dM_leaf_2 : decode kM_leaf 2 = .ok (.putfield 84, 3) := by decide +kernel
theorem dM_leaf_5 : decode kM_leaf 5 = .ok (.iload_n 1, 1) := by decide +kernel
theorem dM_leaf_6 : decode kM_leaf 6 = .ok (.invokestatic 121, 3) := by decide +kernel
theorem dM_leaf_9 : decode kM_leaf 9 = .ok (.ifCond .eq 10, 3) := by decide +kernel
theorem dM_leaf_12 : decode kM_leaf 12 = .ok (.iload_n 2, 1) := by decide +kernel
theorem dM_leaf_13 : decode kM_leaf 13 = .ok (.invokestatic 121, 3) := by decide +kernel
theorem dM_leaf_16 : decode kM_leaf 16 = .ok (.ifCond .ne 5, 3) := by decide +kernel
theorem dM_leaf_19 : decode kM_leaf 19 = .ok (.iconst (-1), 1) := by decide +kernel
theorem dM_leaf_20 : decode kM_leaf 20 = .ok (.ireturn, 1) := by decide +kernel
theorem dM_leaf_21 : decode kM_leaf 21 = .ok (.aload_n 0, 1) := by decide +kernel
theorem dM_leaf_22 : decode kM_leaf 22 = .ok (.invokevirtual 198, 3) := by decide +kernel
theorem dM_leaf_25 : decode kM_leaf 25 = .ok (.aload_n 0, 1) := by decide +kernel
theorem dM_leaf_26 : decode kM_leaf 26 = .ok (.getfield 165, 3) := by decide +kernel
theorem dM_leaf_29 : decode kM_leaf 29 = .ok (.ifCond .le 7, 3) := by decide +kernel
theorem dM_leaf_32 : decode kM_leaf 32 = .ok (.iconst 0, 1) := by decide +kernel
theorem dM_leaf_33 : decode kM_leaf 33 = .ok (.goto 4, 3) := by decide +kernel
theorem dM_leaf_36 : decode kM_leaf 36 = .ok (.iconst (-1), 1) := by decide +kernel
theorem dM_leaf_37 : decode kM_leaf 37 = .ok (.istore_n 3, 1) := by decide +kernel
theorem dM_leaf_38 : decode kM_leaf 38 = .ok (.iload_n 3, 1) := by decide +kernel
theorem dM_leaf_39 : decode kM_leaf 39 = .ok (.ifCond .lt 32, 3) := by decide +kernel
theorem dM_leaf_42 : decode kM_leaf 42 = .ok (.aload_n 0, 1) := by decide +kernel
theorem dM_leaf_43 : decode kM_leaf 43 = .ok (.iload_n 3, 1) := by decide +kernel
theorem dM_leaf_44 : decode kM_leaf 44 = .ok (.iload_n 1, 1) := by decide +kernel
theorem dM_leaf_45 : decode kM_leaf 45 = .ok (.iload_n 2, 1) := by decide +kernel
theorem dM_leaf_46 : decode kM_leaf 46 = .ok (.invokevirtual 216, 3) := by decide +kernel
theorem dM_leaf_49 : decode kM_leaf 49 = .ok (.ifCond .eq 12, 3) := by decide +kernel
theorem dM_leaf_52 : decode kM_leaf 52 = .ok (.aload_n 0, 1) := by decide +kernel
theorem dM_leaf_53 : decode kM_leaf 53 = .ok (.getfield 60, 3) := by decide +kernel
theorem dM_leaf_56 : decode kM_leaf 56 = .ok (.iload_n 3, 1) := by decide +kernel
theorem dM_leaf_57 : decode kM_leaf 57 = .ok (.iaload, 1) := by decide +kernel
theorem dM_leaf_58 : decode kM_leaf 58 = .ok (.goto 9, 3) := by decide +kernel
theorem dM_leaf_61 : decode kM_leaf 61 = .ok (.aload_n 0, 1) := by decide +kernel
theorem dM_leaf_62 : decode kM_leaf 62 = .ok (.getfield 63, 3) := by decide +kernel
theorem dM_leaf_65 : decode kM_leaf 65 = .ok (.iload_n 3, 1) := by decide +kernel
theorem dM_leaf_66 : decode kM_leaf 66 = .ok (.iaload, 1) := by decide +kernel
theorem dM_leaf_67 : decode kM_leaf 67 = .ok (.istore_n 3, 1) := by decide +kernel
theorem dM_leaf_68 : decode kM_leaf 68 = .ok (.goto (-30), 3) := by decide +kernel
theorem dM_leaf_71 : decode kM_leaf 71 = .ok (.iconst (-1), 1) := by decide +kernel
theorem dM_leaf_72 : decode kM_leaf 72 = .ok (.iload_n 3, 1) := by decide +kernel
theorem dM_leaf_73 : decode kM_leaf 73 = .ok (.isub, 1) := by decide +kernel
theorem dM_leaf_74 : decode kM_leaf 74 = .ok (.ireturn, 1) := by decide +kernel
theorem dM_isLeft_0 : decode kM_isLeft 0 = .ok (.aload_n 0, 1) := by decide +kernel
theorem dM_isLeft_1 : decode kM_isLeft 1 = .ok (.aload_n 0, 1) := by decide +kernel
theorem dM_isLeft_2 : decode kM_isLeft 2 = .ok (.getfield 57, 3) := by decide +kernel
theorem dM_isLeft_5 : decode kM_isLeft 5 = .ok (.iload_n 1, 1) := by decide +kernel
theorem dM_isLeft_6 : decode kM_isLeft 6 = .ok (.iaload, 1) := by decide +kernel
theorem dM_isLeft_7 : decode kM_isLeft 7 = .ok (.iload_n 2, 1) := by decide +kernel
theorem dM_isLeft_8 : decode kM_isLeft 8 = .ok (.i2l, 1) := by decide +kernel
theorem dM_isLeft_9 : decode kM_isLeft 9 = .ok (.iload_n 3, 1) := by decide +kernel
theorem dM_isLeft_10 : decode kM_isLeft 10 = .ok (.i2l, 1) := by decide +kernel
theorem dM_isLeft_11 : decode kM_isLeft 11 = .ok (.invokevirtual 106, 3) := by decide +kernel
theorem dM_isLeft_14 : decode kM_isLeft 14 = .ok (.lconst 0, 1) := by decide +kernel
theorem dM_isLeft_15 : decode kM_isLeft 15 = .ok (.lcmp, 1) := by decide +kernel
theorem dM_isLeft_16 : decode kM_isLeft 16 = .ok (.ifCond .le 7, 3) := by decide +kernel
theorem dM_isLeft_19 : decode kM_isLeft 19 = .ok (.iconst 1, 1) := by decide +kernel
theorem dM_isLeft_20 : decode kM_isLeft 20 = .ok (.goto 4, 3) := by decide +kernel
theorem dM_isLeft_23 : decode kM_isLeft 23 = .ok (.iconst 0, 1) := by decide +kernel
theorem dM_isLeft_24 : decode kM_isLeft 24 = .ok (.ireturn, 1) := by decide +kernel
theorem dM_way_0 : decode kM_way 0 = .ok (.aload_n 0, 1) := by decide +kernel
theorem dM_way_1 : decode kM_way 1 = .ok (.iconst 0, 1) := by decide +kernel
theorem dM_way_2 : decode kM_way 2 = .ok (.putfield 84, 3) := by decide +kernel
theorem dM_way_5 : decode kM_way 5 = .ok (.iload_n 1, 1) := by decide +kernel
theorem dM_way_6 : decode kM_way 6 = .ok (.invokestatic 121, 3) := by decide +kernel
theorem dM_way_9 : decode kM_way 9 = .ok (.ifCond .eq 10, 3) := by decide +kernel
theorem dM_way_12 : decode kM_way 12 = .ok (.iload_n 2, 1) := by decide +kernel
theorem dM_way_13 : decode kM_way 13 = .ok (.invokestatic 121, 3) := by decide +kernel
theorem dM_way_16 : decode kM_way 16 = .ok (.ifCond .ne 5, 3) := by decide +kernel
theorem dM_way_19 : decode kM_way 19 = .ok (.iconst (-1), 1) := by decide +kernel
theorem dM_way_20 : decode kM_way 20 = .ok (.ireturn, 1) := by decide +kernel
theorem dM_way_21 : decode kM_way 21 = .ok (.aload_n 0, 1) := by decide +kernel
theorem dM_way_22 : decode kM_way 22 = .ok (.iconst 1, 1) := by decide +kernel
theorem dM_way_23 : decode kM_way 23 = .ok (.putfield 219, 3) := by decide +kernel
theorem dM_way_26 : decode kM_way 26 = .ok (.aload_n 0, 1) := by decide +kernel
theorem dM_way_27 : decode kM_way 27 = .ok (.iload_n 1, 1) := by decide +kernel
theorem dM_way_28 : decode kM_way 28 = .ok (.putfield 222, 3) := by decide +kernel
theorem dM_way_31 : decode kM_way 31 = .ok (.aload_n 0, 1) := by decide +kernel
theorem dM_way_32 : decode kM_way 32 = .ok (.iload_n 2, 1) := by decide +kernel
theorem dM_way_33 : decode kM_way 33 = .ok (.putfield 225, 3) := by decide +kernel
theorem dM_way_36 : decode kM_way 36 = .ok (.aload_n 0, 1) := by decide +kernel
theorem dM_way_37 : decode kM_way 37 = .ok (.invokevirtual 198, 3) := by decide +kernel
theorem dM_way_40 : decode kM_way 40 = .ok (.aload_n 0, 1) := by decide +kernel
theorem dM_way_41 : decode kM_way 41 = .ok (.getfield 171, 3) := by decide +kernel
theorem dM_way_44 : decode kM_way 44 = .ok (.ireturn, 1) := by decide +kernel
theorem dM_step_0 : decode kM_step 0 = .ok (.aload_n 0, 1) := by decide +kernel
theorem dM_step_1 : decode kM_step 1 = .ok (.iconst 0, 1) := by decide +kernel
theorem dM_step_2 : decode kM_step 2 = .ok (.putfield 84, 3) := by decide +kernel
theorem dM_step_5 : decode kM_step 5 = .ok (.aload_n 0, 1) := by decide +kernel
theorem dM_step_6 : decode kM_step 6 = .ok (.invokevirtual 198, 3) := by decide +kernel
theorem dM_step_9 : decode kM_step 9 = .ok (.aload_n 0, 1) := by decide +kernel
theorem dM_step_10 : decode kM_step 10 = .ok (.getfield 219, 3) := by decide +kernel
theorem dM_step_13 : decode kM_step 13 = .ok (.ifCond .eq 24, 3) := by decide +kernel
theorem dM_step_16 : decode kM_step 16 = .ok (.iload_n 1, 1) := by decide +kernel
theorem dM_step_17 : decode kM_step 17 = .ok (.ifCond .lt 20, 3) := by decide +kernel
theorem dM_step_20 : decode kM_step 20 = .ok (.iload_n 1, 1) := by decide +kernel
theorem dM_step_21 : decode kM_step 21 = .ok (.aload_n 0, 1) := by decide +kernel
theorem dM_step_22 : decode kM_step 22 = .ok (.getfield 171, 3) := by decide +kernel
theorem dM_step_25 : decode kM_step 25 = .ok (.if_icmp .ge 12, 3) := by decide +kernel
theorem dM_step_28 : decode kM_step 28 = .ok (.iload_n 2, 1) := by decide +kernel
theorem dM_step_29 : decode kM_step 29 = .ok (.ifCond .lt 8, 3) := by decide +kernel
theorem dM_step_32 : decode kM_step 32 = .ok (.iload_n 2, 1) := by decide +kernel
theorem dM_step_33 : decode kM_step 33 = .ok (.iconst 2, 1) := by decide +kernel
theorem dM_step_34 : decode kM_step 34 = .ok (.if_icmp .le 5, 3) := by decide +kernel
theorem dM_step_37 : decode kM_step 37 = .ok (.iconst (-1), 1) := by decide +kernel
theorem dM_step_38 : decode kM_step 38 = .ok (.ireturn, 1) := by decide +kernel
theorem dM_step_39 : decode kM_step 39 = .ok (.aload_n 0, 1) := by decide +kernel
theorem dM_step_40 : decode kM_step 40 = .ok (.iload_n 1, 1) := by decide +kernel
theorem dM_step_41 : decode kM_step 41 = .ok (.invokevirtual 228, 3) := by decide +kernel
theorem dM_step_44 : decode kM_step 44 = .ok (.istore_n 3, 1) := by decide +kernel
theorem dM_step_45 : decode kM_step 45 = .ok (.iload_n 2, 1) := by decide +kernel
theorem dM_step_46 : decode kM_step 46 = .ok (.iconst 1, 1) := by decide +kernel
theorem dM_step_47 : decode kM_step 47 = .ok (.if_icmp .ne 5, 3) := by decide +kernel
theorem dM_step_50 : decode kM_step 50 = .ok (.iload_n 3, 1) := by decide +kernel
theorem dM_step_51 : decode kM_step 51 = .ok (.ireturn, 1) := by decide +kernel
theorem dM_step_52 : decode kM_step 52 = .ok (.iload_n 1, 1) := by decide +kernel
theorem dM_step_53 : decode kM_step 53 = .ok (.aload_n 0, 1) := by decide +kernel
theorem dM_step_54 : decode kM_step 54 = .ok (.iload_n 3, 1) := by decide +kernel
theorem dM_step_55 : decode kM_step 55 = .ok (.invokevirtual 231, 3) := by decide +kernel
theorem dM_step_58 : decode kM_step 58 = .ok (.isub, 1) := by decide +kernel
theorem dM_step_59 : decode kM_step 59 = .ok (.istore 4, 2) := by decide +kernel
theorem dM_step_61 : decode kM_step 61 = .ok (.iload_n 2, 1) := by decide +kernel
theorem dM_step_62 : decode kM_step 62 = .ok (.iconst 2, 1) := by decide +kernel
theorem dM_step_63 : decode kM_step 63 = .ok (.if_icmp .ne 8, 3) := by decide +kernel
theorem dM_step_66 : decode kM_step 66 = .ok (.iload 4, 2) := by decide +kernel
theorem dM_step_68 : decode kM_step 68 = .ok (.goto 22, 3) := by decide +kernel
theorem dM_step_71 : decode kM_step 71 = .ok (.aload_n 0, 1) := by decide +kernel
theorem dM_step_72 : decode kM_step 72 = .ok (.getfield 26, 3) := by decide +kernel
theorem dM_step_75 : decode kM_step 75 = .ok (.aload_n 0, 1) := by decide +kernel
theorem dM_step_76 : decode kM_step 76 = .ok (.getfield 75, 3) := by decide +kernel
theorem dM_step_79 : decode kM_step 79 = .ok (.aload_n 0, 1) := by decide +kernel
theorem dM_step_80 : decode kM_step 80 = .ok (.getfield 69, 3) := by decide +kernel
theorem dM_step_83 : decode kM_step 83 = .ok (.iload_n 3, 1) := by decide +kernel
theorem dM_step_84 : decode kM_step 84 = .ok (.iaload, 1) := by decide +kernel
theorem dM_step_85 : decode kM_step 85 = .ok (.iload 4, 2) := by decide +kernel
theorem dM_step_87 : decode kM_step 87 = .ok (.iadd, 1) := by decide +kernel
theorem dM_step_88 : decode kM_step 88 = .ok (.iaload, 1) := by decide +kernel
theorem dM_step_89 : decode kM_step 89 = .ok (.iaload, 1) := by decide +kernel
theorem dM_step_90 : decode kM_step 90 = .ok (.ireturn, 1) := by decide +kernel
theorem dM_nodeOf_0 : decode kM_nodeOf 0 = .ok (.iconst 0, 1) := by decide +kernel
theorem dM_nodeOf_1 : decode kM_nodeOf 1 = .ok (.istore_n 2, 1) := by decide +kernel
theorem dM_nodeOf_2 : decode kM_nodeOf 2 = .ok (.iload_n 1, 1) := by decide +kernel
theorem dM_nodeOf_3 : decode kM_nodeOf 3 = .ok (.istore_n 3, 1) := by decide +kernel
theorem dM_nodeOf_4 : decode kM_nodeOf 4 = .ok (.aload_n 0, 1) := by decide +kernel
theorem dM_nodeOf_5 : decode kM_nodeOf 5 = .ok (.getfield 81, 3) := by decide +kernel
theorem dM_nodeOf_8 : decode kM_nodeOf 8 = .ok (.iconst 0, 1) := by decide +kernel
theorem dM_nodeOf_9 : decode kM_nodeOf 9 = .ok (.iconst 0, 1) := by decide +kernel
theorem dM_nodeOf_10 : decode kM_nodeOf 10 = .ok (.iastore, 1) := by decide +kernel
theorem dM_nodeOf_11 : decode kM_nodeOf 11 = .ok (.aload_n 0, 1) := by decide +kernel
theorem dM_nodeOf_12 : decode kM_nodeOf 12 = .ok (.getfield 165, 3) := by decide +kernel
theorem dM_nodeOf_15 : decode kM_nodeOf 15 = .ok (.ifCond .le 7, 3) := by decide +kernel
theorem dM_nodeOf_18 : decode kM_nodeOf 18 = .ok (.iconst 1, 1) := by decide +kernel
theorem dM_nodeOf_19 : decode kM_nodeOf 19 = .ok (.goto 4, 3) := by decide +kernel
theorem dM_nodeOf_22 : decode kM_nodeOf 22 = .ok (.iconst 0, 1) := by decide +kernel
theorem dM_nodeOf_23 : decode kM_nodeOf 23 = .ok (.istore_n 2, 1) := by decide +kernel
theorem dM_nodeOf_24 : decode kM_nodeOf 24 = .ok (.iload_n 2, 1) := by decide +kernel
theorem dM_nodeOf_25 : decode kM_nodeOf 25 = .ok (.ifCond .le 172, 3) := by decide +kernel
theorem dM_nodeOf_28 : decode kM_nodeOf 28 = .ok (.iinc 2 (-1), 3) := by decide +kernel
theorem dM_nodeOf_31 : decode kM_nodeOf 31 = .ok (.aload_n 0, 1) := by decide +kernel
theorem dM_nodeOf_32 : decode kM_nodeOf 32 = .ok (.getfield 81, 3) := by decide +kernel
theorem dM_nodeOf_35 : decode kM_nodeOf 35 = .ok (.iload_n 2, 1) := by decide +kernel
theorem dM_nodeOf_36 : decode kM_nodeOf 36 = .ok (.iaload, 1) := by decide +kernel
theorem dM_nodeOf_37 : decode kM_nodeOf 37 = .ok (.istore 4, 2) := by decide +kernel
theorem dM_nodeOf_39 : decode kM_nodeOf 39 = .ok (.iload 4, 2) := by decide +kernel
theorem dM_nodeOf_41 : decode kM_nodeOf 41 = .ok (.ifCond .lt 71, 3) := by decide +kernel
theorem dM_nodeOf_44 : decode kM_nodeOf 44 = .ok (.aload_n 0, 1) := by decide +kernel
theorem dM_nodeOf_45 : decode kM_nodeOf 45 = .ok (.iload 4, 2) := by decide +kernel
theorem dM_nodeOf_47 : decode kM_nodeOf 47 = .ok (.aload_n 0, 1) := by decide +kernel
theorem dM_nodeOf_48 : decode kM_nodeOf 48 = .ok (.getfield 222, 3) := by decide +kernel
theorem dM_nodeOf_51 : decode kM_nodeOf 51 = .ok (.aload_n 0, 1) := by decide +kernel
theorem dM_nodeOf_52 : decode kM_nodeOf 52 = .ok (.getfield 225, 3) := by decide +kernel
theorem dM_nodeOf_55 : decode kM_nodeOf 55 = .ok (.invokevirtual 216, 3) := by decide +kernel
theorem dM_nodeOf_58 : decode kM_nodeOf 58 = .ok (.ifCond .eq 13, 3) := by decide +kernel
theorem dM_nodeOf_61 : decode kM_nodeOf 61 = .ok (.aload_n 0, 1) := by decide +kernel
theorem dM_nodeOf_62 : decode kM_nodeOf 62 = .ok (.getfield 60, 3) := by decide +kernel
theorem dM_nodeOf_65 : decode kM_nodeOf 65 = .ok (.iload 4, 2) := by decide +kernel
theorem dM_nodeOf_67 : decode kM_nodeOf 67 = .ok (.iaload, 1) := by decide +kernel
theorem dM_nodeOf_68 : decode kM_nodeOf 68 = .ok (.goto 10, 3) := by decide +kernel
theorem dM_nodeOf_71 : decode kM_nodeOf 71 = .ok (.aload_n 0, 1) := by decide +kernel
theorem dM_nodeOf_72 : decode kM_nodeOf 72 = .ok (.getfield 63, 3) := by decide +kernel
theorem dM_nodeOf_75 : decode kM_nodeOf 75 = .ok (.iload 4, 2) := by decide +kernel
theorem dM_nodeOf_77 : decode kM_nodeOf 77 = .ok (.iaload, 1) := by decide +kernel
theorem dM_nodeOf_78 : decode kM_nodeOf 78 = .ok (.istore 5, 2) := by decide +kernel
theorem dM_nodeOf_80 : decode kM_nodeOf 80 = .ok (.aload_n 0, 1) := by decide +kernel
theorem dM_nodeOf_81 : decode kM_nodeOf 81 = .ok (.getfield 81, 3) := by decide +kernel
theorem dM_nodeOf_84 : decode kM_nodeOf 84 = .ok (.iload_n 2, 1) := by decide +kernel
theorem dM_nodeOf_85 : decode kM_nodeOf 85 = .ok (.iconst (-1), 1) := by decide +kernel
theorem dM_nodeOf_86 : decode kM_nodeOf 86 = .ok (.iload 4, 2) := by decide +kernel
theorem dM_nodeOf_88 : decode kM_nodeOf 88 = .ok (.isub, 1) := by decide +kernel
theorem dM_nodeOf_89 : decode kM_nodeOf 89 = .ok (.iastore, 1) := by decide +kernel
theorem dM_nodeOf_90 : decode kM_nodeOf 90 = .ok (.iinc 2 1, 3) := by decide +kernel
theorem dM_nodeOf_93 : decode kM_nodeOf 93 = .ok (.iload 5, 2) := by decide +kernel
theorem dM_nodeOf_95 : decode kM_nodeOf 95 = .ok (.ifCond .lt 14, 3) := by decide +kernel
theorem dM_nodeOf_98 : decode kM_nodeOf 98 = .ok (.aload_n 0, 1) := by decide +kernel
theorem dM_nodeOf_99 : decode kM_nodeOf 99 = .ok (.getfield 81, 3) := by decide +kernel
theorem dM_nodeOf_102 : decode kM_nodeOf 102 = .ok (.iload_n 2, 1) := by decide +kernel
theorem dM_nodeOf_103 : decode kM_nodeOf 103 = .ok (.iload 5, 2) := by decide +kernel
theorem dM_nodeOf_105 : decode kM_nodeOf 105 = .ok (.iastore, 1) := by decide +kernel
theorem dM_nodeOf_106 : decode kM_nodeOf 106 = .ok (.iinc 2 1, 3) := by decide +kernel
theorem dM_nodeOf_109 : decode kM_nodeOf 109 = .ok (.goto 85, 3) := by decide +kernel
theorem dM_nodeOf_112 : decode kM_nodeOf 112 = .ok (.iconst (-1), 1) := by decide +kernel
theorem dM_nodeOf_113 : decode kM_nodeOf 113 = .ok (.iload 4, 2) := by decide +kernel
theorem dM_nodeOf_115 : decode kM_nodeOf 115 = .ok (.isub, 1) := by decide +kernel
theorem dM_nodeOf_116 : decode kM_nodeOf 116 = .ok (.istore 5, 2) := by decide +kernel
theorem dM_nodeOf_118 : decode kM_nodeOf 118 = .ok (.iload_n 3, 1) := by decide +kernel
theorem dM_nodeOf_119 : decode kM_nodeOf 119 = .ok (.aload_n 0, 1) := by decide +kernel
theorem dM_nodeOf_120 : decode kM_nodeOf 120 = .ok (.getfield 72, 3) := by decide +kernel
theorem dM_nodeOf_123 : decode kM_nodeOf 123 = .ok (.iload 5, 2) := by decide +kernel
theorem dM_nodeOf_125 : decode kM_nodeOf 125 = .ok (.iaload, 1) := by decide +kernel
theorem dM_nodeOf_126 : decode kM_nodeOf 126 = .ok (.if_icmp .ge 6, 3) := by decide +kernel
theorem dM_nodeOf_129 : decode kM_nodeOf 129 = .ok (.iload 5, 2) := by decide +kernel
theorem dM_nodeOf_131 : decode kM_nodeOf 131 = .ok (.ireturn, 1) := by decide +kernel
theorem dM_nodeOf_132 : decode kM_nodeOf 132 = .ok (.iload_n 3, 1) := by decide +kernel
theorem dM_nodeOf_133 : decode kM_nodeOf 133 = .ok (.aload_n 0, 1) := by decide +kernel
theorem dM_nodeOf_134 : decode kM_nodeOf 134 = .ok (.getfield 72, 3) := by decide +kernel
theorem dM_nodeOf_137 : decode kM_nodeOf 137 = .ok (.iload 5, 2) := by decide +kernel
theorem dM_nodeOf_139 : decode kM_nodeOf 139 = .ok (.iaload, 1) := by decide +kernel
theorem dM_nodeOf_140 : decode kM_nodeOf 140 = .ok (.isub, 1) := by decide +kernel
theorem dM_nodeOf_141 : decode kM_nodeOf 141 = .ok (.istore_n 3, 1) := by decide +kernel
theorem dM_nodeOf_142 : decode kM_nodeOf 142 = .ok (.aload_n 0, 1) := by decide +kernel
theorem dM_nodeOf_143 : decode kM_nodeOf 143 = .ok (.iload 5, 2) := by decide +kernel
theorem dM_nodeOf_145 : decode kM_nodeOf 145 = .ok (.aload_n 0, 1) := by decide +kernel
theorem dM_nodeOf_146 : decode kM_nodeOf 146 = .ok (.getfield 222, 3) := by decide +kernel
theorem dM_nodeOf_149 : decode kM_nodeOf 149 = .ok (.aload_n 0, 1) := by decide +kernel
theorem dM_nodeOf_150 : decode kM_nodeOf 150 = .ok (.getfield 225, 3) := by decide +kernel
theorem dM_nodeOf_153 : decode kM_nodeOf 153 = .ok (.invokevirtual 216, 3) := by decide +kernel
theorem dM_nodeOf_156 : decode kM_nodeOf 156 = .ok (.ifCond .eq 13, 3) := by decide +kernel
theorem dM_nodeOf_159 : decode kM_nodeOf 159 = .ok (.aload_n 0, 1) := by decide +kernel
theorem dM_nodeOf_160 : decode kM_nodeOf 160 = .ok (.getfield 63, 3) := by decide +kernel
theorem dM_nodeOf_163 : decode kM_nodeOf 163 = .ok (.iload 5, 2) := by decide +kernel
theorem dM_nodeOf_165 : decode kM_nodeOf 165 = .ok (.iaload, 1) := by decide +kernel
theorem dM_nodeOf_166 : decode kM_nodeOf 166 = .ok (.goto 10, 3) := by decide +kernel
theorem dM_nodeOf_169 : decode kM_nodeOf 169 = .ok (.aload_n 0, 1) := by decide +kernel
theorem dM_nodeOf_170 : decode kM_nodeOf 170 = .ok (.getfield 60, 3) := by decide +kernel
theorem dM_nodeOf_173 : decode kM_nodeOf 173 = .ok (.iload 5, 2) := by decide +kernel
theorem dM_nodeOf_175 : decode kM_nodeOf 175 = .ok (.iaload, 1) := by decide +kernel
theorem dM_nodeOf_176 : decode kM_nodeOf 176 = .ok (.istore 6, 2) := by decide +kernel
theorem dM_nodeOf_178 : decode kM_nodeOf 178 = .ok (.iload 6, 2) := by decide +kernel
theorem dM_nodeOf_180 : decode kM_nodeOf 180 = .ok (.ifCond .lt 14, 3) := by decide +kernel
theorem dM_nodeOf_183 : decode kM_nodeOf 183 = .ok (.aload_n 0, 1) := by decide +kernel
theorem dM_nodeOf_184 : decode kM_nodeOf 184 = .ok (.getfield 81, 3) := by decide +kernel
theorem dM_nodeOf_187 : decode kM_nodeOf 187 = .ok (.iload_n 2, 1) := by decide +kernel
theorem dM_nodeOf_188 : decode kM_nodeOf 188 = .ok (.iload 6, 2) := by decide +kernel
theorem dM_nodeOf_190 : decode kM_nodeOf 190 = .ok (.iastore, 1) := by decide +kernel
theorem dM_nodeOf_191 : decode kM_nodeOf 191 = .ok (.iinc 2 1, 3) := by decide +kernel
theorem dM_nodeOf_194 : decode kM_nodeOf 194 = .ok (.goto (-170), 3) := by decide +kernel
theorem dM_nodeOf_197 : decode kM_nodeOf 197 = .ok (.iconst (-1), 1) := by decide +kernel
theorem dM_nodeOf_198 : decode kM_nodeOf 198 = .ok (.ireturn, 1) := by decide +kernel
theorem dM_aheadOf_0 : decode kM_aheadOf 0 = .ok (.iconst 0, 1) := by decide +kernel
theorem dM_aheadOf_1 : decode kM_aheadOf 1 = .ok (.istore_n 2, 1) := by decide +kernel
theorem dM_aheadOf_2 : decode kM_aheadOf 2 = .ok (.aload_n 0, 1) := by decide +kernel
theorem dM_aheadOf_3 : decode kM_aheadOf 3 = .ok (.iload_n 2, 1) := by decide +kernel
theorem dM_aheadOf_4 : decode kM_aheadOf 4 = .ok (.invokevirtual 228, 3) := by decide +kernel
theorem dM_aheadOf_7 : decode kM_aheadOf 7 = .ok (.iload_n 1, 1) := by decide +kernel
theorem dM_aheadOf_8 : decode kM_aheadOf 8 = .ok (.if_icmp .eq 9, 3) := by decide +kernel
theorem dM_aheadOf_11 : decode kM_aheadOf 11 = .ok (.iinc 2 1, 3) := by decide +kernel
theorem dM_aheadOf_14 : decode kM_aheadOf 14 = .ok (.goto (-12), 3) := by decide +kernel
theorem dM_aheadOf_17 : decode kM_aheadOf 17 = .ok (.iload_n 2, 1) := by decide +kernel
theorem dM_aheadOf_18 : decode kM_aheadOf 18 = .ok (.ireturn, 1) := by decide +kernel
theorem dM_of_0 : decode kM_of 0 = .ok (.aload_n 0, 1) := by decide +kernel
theorem dM_of_1 : decode kM_of 1 = .ok (.iconst 0, 1) := by decide +kernel
theorem dM_of_2 : decode kM_of 2 = .ok (.putfield 84, 3) := by decide +kernel
theorem dM_of_5 : decode kM_of 5 = .ok (.aload_n 0, 1) := by decide +kernel
theorem dM_of_6 : decode kM_of 6 = .ok (.iload_n 1, 1) := by decide +kernel
theorem dM_of_7 : decode kM_of 7 = .ok (.invokevirtual 136, 3) := by decide +kernel
theorem dM_of_10 : decode kM_of 10 = .ok (.ifCond .eq 12, 3) := by decide +kernel
theorem dM_of_13 : decode kM_of 13 = .ok (.iload_n 2, 1) := by decide +kernel
theorem dM_of_14 : decode kM_of 14 = .ok (.ifCond .lt 8, 3) := by decide +kernel
theorem dM_of_17 : decode kM_of 17 = .ok (.iload_n 2, 1) := by decide +kernel
theorem dM_of_18 : decode kM_of 18 = .ok (.iconst 4, 1) := by decide +kernel
theorem dM_of_19 : decode kM_of 19 = .ok (.if_icmp .le 6, 3) := by decide +kernel
theorem dM_of_22 : decode kM_of 22 = .ok (.ldc 234, 2) := by decide +kernel
theorem dM_of_24 : decode kM_of 24 = .ok (.ireturn, 1) := by decide +kernel
theorem dM_of_25 : decode kM_of 25 = .ok (.aload_n 0, 1) := by decide +kernel
theorem dM_of_26 : decode kM_of 26 = .ok (.invokevirtual 198, 3) := by decide +kernel
theorem dM_of_29 : decode kM_of 29 = .ok (.iload_n 2, 1) := by decide +kernel
theorem dM_of_30 : decode kM_of 30 = .ok (.ifCond .ne 12, 3) := by decide +kernel
theorem dM_of_33 : decode kM_of 33 = .ok (.aload_n 0, 1) := by decide +kernel
theorem dM_of_34 : decode kM_of 34 = .ok (.getfield 13, 3) := by decide +kernel
theorem dM_of_37 : decode kM_of 37 = .ok (.iload_n 1, 1) := by decide +kernel
theorem dM_of_38 : decode kM_of 38 = .ok (.iaload, 1) := by decide +kernel
theorem dM_of_39 : decode kM_of 39 = .ok (.goto 51, 3) := by decide +kernel
theorem dM_of_42 : decode kM_of 42 = .ok (.iload_n 2, 1) := by decide +kernel
theorem dM_of_43 : decode kM_of 43 = .ok (.iconst 1, 1) := by decide +kernel
theorem dM_of_44 : decode kM_of 44 = .ok (.if_icmp .ne 12, 3) := by decide +kernel
theorem dM_of_47 : decode kM_of 47 = .ok (.aload_n 0, 1) := by decide +kernel
theorem dM_of_48 : decode kM_of 48 = .ok (.getfield 17, 3) := by decide +kernel
theorem dM_of_51 : decode kM_of 51 = .ok (.iload_n 1, 1) := by decide +kernel
theorem dM_of_52 : decode kM_of 52 = .ok (.iaload, 1) := by decide +kernel
theorem dM_of_53 : decode kM_of 53 = .ok (.goto 37, 3) := by decide +kernel
theorem dM_of_56 : decode kM_of 56 = .ok (.iload_n 2, 1) := by decide +kernel
theorem dM_of_57 : decode kM_of 57 = .ok (.iconst 2, 1) := by decide +kernel
theorem dM_of_58 : decode kM_of 58 = .ok (.if_icmp .ne 12, 3) := by decide +kernel
theorem dM_of_61 : decode kM_of 61 = .ok (.aload_n 0, 1) := by decide +kernel
theorem dM_of_62 : decode kM_of 62 = .ok (.getfield 20, 3) := by decide +kernel
theorem dM_of_65 : decode kM_of 65 = .ok (.iload_n 1, 1) := by decide +kernel
theorem dM_of_66 : decode kM_of 66 = .ok (.iaload, 1) := by decide +kernel
theorem dM_of_67 : decode kM_of 67 = .ok (.goto 23, 3) := by decide +kernel
theorem dM_of_70 : decode kM_of 70 = .ok (.iload_n 2, 1) := by decide +kernel
theorem dM_of_71 : decode kM_of 71 = .ok (.iconst 3, 1) := by decide +kernel
theorem dM_of_72 : decode kM_of 72 = .ok (.if_icmp .ne 12, 3) := by decide +kernel
theorem dM_of_75 : decode kM_of 75 = .ok (.aload_n 0, 1) := by decide +kernel
theorem dM_of_76 : decode kM_of 76 = .ok (.getfield 23, 3) := by decide +kernel
theorem dM_of_79 : decode kM_of 79 = .ok (.iload_n 1, 1) := by decide +kernel
theorem dM_of_80 : decode kM_of 80 = .ok (.iaload, 1) := by decide +kernel
theorem dM_of_81 : decode kM_of 81 = .ok (.goto 9, 3) := by decide +kernel
theorem dM_of_84 : decode kM_of 84 = .ok (.aload_n 0, 1) := by decide +kernel
theorem dM_of_85 : decode kM_of 85 = .ok (.getfield 78, 3) := by decide +kernel
theorem dM_of_88 : decode kM_of 88 = .ok (.iload_n 1, 1) := by decide +kernel
theorem dM_of_89 : decode kM_of 89 = .ok (.iaload, 1) := by decide +kernel
theorem dM_of_90 : decode kM_of 90 = .ok (.ireturn, 1) := by decide +kernel
theorem dM_look_0 : decode kM_look 0 = .ok (.aload_n 0, 1) := by decide +kernel
theorem dM_look_1 : decode kM_look 1 = .ok (.iconst 0, 1) := by decide +kernel
theorem dM_look_2 : decode kM_look 2 = .ok (.putfield 84, 3) := by decide +kernel
theorem dM_look_5 : decode kM_look 5 = .ok (.aload_n 0, 1) := by decide +kernel
theorem dM_look_6 : decode kM_look 6 = .ok (.invokevirtual 198, 3) := by decide +kernel
theorem dM_look_9 : decode kM_look 9 = .ok (.iload_n 1, 1) := by decide +kernel
theorem dM_look_10 : decode kM_look 10 = .ok (.tableswitch 68 0 5 #[38, 43, 48, 53, 58, 63], 38) := by decide +kernel
theorem dM_look_48 : decode kM_look 48 = .ok (.aload_n 0, 1) := by decide +kernel
theorem dM_look_49 : decode kM_look 49 = .ok (.getfield 129, 3) := by decide +kernel
theorem dM_look_52 : decode kM_look 52 = .ok (.ireturn, 1) := by decide +kernel
theorem dM_look_53 : decode kM_look 53 = .ok (.aload_n 0, 1) := by decide +kernel
theorem dM_look_54 : decode kM_look 54 = .ok (.getfield 165, 3) := by decide +kernel
theorem dM_look_57 : decode kM_look 57 = .ok (.ireturn, 1) := by decide +kernel
theorem dM_look_58 : decode kM_look 58 = .ok (.aload_n 0, 1) := by decide +kernel
theorem dM_look_59 : decode kM_look 59 = .ok (.getfield 168, 3) := by decide +kernel
theorem dM_look_62 : decode kM_look 62 = .ok (.ireturn, 1) := by decide +kernel
theorem dM_look_63 : decode kM_look 63 = .ok (.aload_n 0, 1) := by decide +kernel
theorem dM_look_64 : decode kM_look 64 = .ok (.getfield 171, 3) := by decide +kernel
theorem dM_look_67 : decode kM_look 67 = .ok (.ireturn, 1) := by decide +kernel
theorem dM_look_68 : decode kM_look 68 = .ok (.aload_n 0, 1) := by decide +kernel
theorem dM_look_69 : decode kM_look 69 = .ok (.getfield 174, 3) := by decide +kernel
theorem dM_look_72 : decode kM_look 72 = .ok (.ireturn, 1) := by decide +kernel
theorem dM_look_73 : decode kM_look 73 = .ok (.aload_n 0, 1) := by decide +kernel
theorem dM_look_74 : decode kM_look 74 = .ok (.getfield 162, 3) := by decide +kernel
theorem dM_look_77 : decode kM_look 77 = .ok (.ireturn, 1) := by decide +kernel
theorem dM_look_78 : decode kM_look 78 = .ok (.iconst (-1), 1) := by decide +kernel
theorem dM_look_79 : decode kM_look 79 = .ok (.ireturn, 1) := by decide +kernel
end
section
theorem dL_law_0 : decode code 0 = .ok (.new 7, 3) := by decide +kernel
theorem dL_law_3 : decode code 3 = .ok (.dup, 1) := by decide +kernel
theorem dL_law_4 : decode code 4 = .ok (.invokespecial 9, 3) := by decide +kernel
theorem dL_law_7 : decode code 7 = .ok (.astore_n 1, 1) := by decide +kernel
theorem dL_law_8 : decode code 8 = .ok (.new 10, 3) := by decide +kernel
theorem dL_law_11 : decode code 11 = .ok (.dup, 1) := by decide +kernel
theorem dL_law_12 : decode code 12 = .ok (.invokespecial 12, 3) := by decide +kernel
theorem dL_law_15 : decode code 15 = .ok (.astore_n 2, 1) := by decide +kernel
theorem dL_law_16 : decode code 16 = .ok (.iconst 0, 1) := by decide +kernel
theorem dL_law_17 : decode code 17 = .ok (.istore_n 3, 1) := by decide +kernel
theorem dL_law_18 : decode code 18 = .ok (.iload_n 3, 1) := by decide +kernel
theorem dL_law_19 : decode code 19 = .ok (.aload_n 0, 1) := by decide +kernel
theorem dL_law_20 : decode code 20 = .ok (.arraylength, 1) := by decide +kernel
theorem dL_law_21 : decode code 21 = .ok (.iconst 5, 1) := by decide +kernel
theorem dL_law_22 : decode code 22 = .ok (.isub, 1) := by decide +kernel
theorem dL_law_23 : decode code 23 = .ok (.if_icmp .gt 427, 3) := by decide +kernel
theorem dL_law_26 : decode code 26 = .ok (.aload_n 0, 1) := by decide +kernel
theorem dL_law_27 : decode code 27 = .ok (.iload_n 3, 1) := by decide +kernel
theorem dL_law_28 : decode code 28 = .ok (.iaload, 1) := by decide +kernel
theorem dL_law_29 : decode code 29 = .ok (.bipush 15, 2) := by decide +kernel
theorem dL_law_31 : decode code 31 = .ok (.iand, 1) := by decide +kernel
theorem dL_law_32 : decode code 32 = .ok (.tableswitch 412 0 10 #[60, 113, 136, 147, 180, 213, 257, 290, 323, 356, 389], 60) := by decide +kernel
theorem dL_law_92 : decode code 92 = .ok (.aload_n 1, 1) := by decide +kernel
theorem dL_law_93 : decode code 93 = .ok (.aload_n 0, 1) := by decide +kernel
theorem dL_law_94 : decode code 94 = .ok (.iload_n 3, 1) := by decide +kernel
theorem dL_law_95 : decode code 95 = .ok (.iconst 1, 1) := by decide +kernel
theorem dL_law_96 : decode code 96 = .ok (.iadd, 1) := by decide +kernel
theorem dL_law_97 : decode code 97 = .ok (.iaload, 1) := by decide +kernel
theorem dL_law_98 : decode code 98 = .ok (.aload_n 0, 1) := by decide +kernel
theorem dL_law_99 : decode code 99 = .ok (.iload_n 3, 1) := by decide +kernel
theorem dL_law_100 : decode code 100 = .ok (.iconst 2, 1) := by decide +kernel
theorem dL_law_101 : decode code 101 = .ok (.iadd, 1) := by decide +kernel
theorem dL_law_102 : decode code 102 = .ok (.iaload, 1) := by decide +kernel
theorem dL_law_103 : decode code 103 = .ok (.aload_n 0, 1) := by decide +kernel
theorem dL_law_104 : decode code 104 = .ok (.iload_n 3, 1) := by decide +kernel
theorem dL_law_105 : decode code 105 = .ok (.iconst 3, 1) := by decide +kernel
theorem dL_law_106 : decode code 106 = .ok (.iadd, 1) := by decide +kernel
theorem dL_law_107 : decode code 107 = .ok (.iaload, 1) := by decide +kernel
theorem dL_law_108 : decode code 108 = .ok (.aload_n 0, 1) := by decide +kernel
theorem dL_law_109 : decode code 109 = .ok (.iload_n 3, 1) := by decide +kernel
theorem dL_law_110 : decode code 110 = .ok (.iconst 4, 1) := by decide +kernel
theorem dL_law_111 : decode code 111 = .ok (.iadd, 1) := by decide +kernel
theorem dL_law_112 : decode code 112 = .ok (.iaload, 1) := by decide +kernel
theorem dL_law_113 : decode code 113 = .ok (.invokevirtual 13, 3) := by decide +kernel
theorem dL_law_116 : decode code 116 = .ok (.aload_n 2, 1) := by decide +kernel
theorem dL_law_117 : decode code 117 = .ok (.aload_n 0, 1) := by decide +kernel
theorem dL_law_118 : decode code 118 = .ok (.iload_n 3, 1) := by decide +kernel
theorem dL_law_119 : decode code 119 = .ok (.iconst 1, 1) := by decide +kernel
theorem dL_law_120 : decode code 120 = .ok (.iadd, 1) := by decide +kernel
theorem dL_law_121 : decode code 121 = .ok (.iaload, 1) := by decide +kernel
theorem dL_law_122 : decode code 122 = .ok (.aload_n 0, 1) := by decide +kernel
theorem dL_law_123 : decode code 123 = .ok (.iload_n 3, 1) := by decide +kernel
theorem dL_law_124 : decode code 124 = .ok (.iconst 2, 1) := by decide +kernel
theorem dL_law_125 : decode code 125 = .ok (.iadd, 1) := by decide +kernel
theorem dL_law_126 : decode code 126 = .ok (.iaload, 1) := by decide +kernel
theorem dL_law_127 : decode code 127 = .ok (.aload_n 0, 1) := by decide +kernel
theorem dL_law_128 : decode code 128 = .ok (.iload_n 3, 1) := by decide +kernel
theorem dL_law_129 : decode code 129 = .ok (.iconst 3, 1) := by decide +kernel
theorem dL_law_130 : decode code 130 = .ok (.iadd, 1) := by decide +kernel
theorem dL_law_131 : decode code 131 = .ok (.iaload, 1) := by decide +kernel
theorem dL_law_132 : decode code 132 = .ok (.aload_n 0, 1) := by decide +kernel
theorem dL_law_133 : decode code 133 = .ok (.iload_n 3, 1) := by decide +kernel
theorem dL_law_134 : decode code 134 = .ok (.iconst 4, 1) := by decide +kernel
theorem dL_law_135 : decode code 135 = .ok (.iadd, 1) := by decide +kernel
theorem dL_law_136 : decode code 136 = .ok (.iaload, 1) := by decide +kernel
theorem dL_law_137 : decode code 137 = .ok (.invokevirtual 17, 3) := by decide +kernel
theorem dL_law_140 : decode code 140 = .ok (.if_icmp .eq 304, 3) := by decide +kernel
theorem dL_law_143 : decode code 143 = .ok (.iconst 0, 1) := by decide +kernel
theorem dL_law_144 : decode code 144 = .ok (.ireturn, 1) := by decide +kernel
theorem dL_law_145 : decode code 145 = .ok (.aload_n 1, 1) := by decide +kernel
theorem dL_law_146 : decode code 146 = .ok (.aload_n 0, 1) := by decide +kernel
theorem dL_law_147 : decode code 147 = .ok (.iload_n 3, 1) := by decide +kernel
theorem dL_law_148 : decode code 148 = .ok (.iconst 1, 1) := by decide +kernel
theorem dL_law_149 : decode code 149 = .ok (.iadd, 1) := by decide +kernel
theorem dL_law_150 : decode code 150 = .ok (.iaload, 1) := by decide +kernel
theorem dL_law_151 : decode code 151 = .ok (.invokevirtual 18, 3) := by decide +kernel
theorem dL_law_154 : decode code 154 = .ok (.aload_n 2, 1) := by decide +kernel
theorem dL_law_155 : decode code 155 = .ok (.aload_n 0, 1) := by decide +kernel
theorem dL_law_156 : decode code 156 = .ok (.iload_n 3, 1) := by decide +kernel
theorem dL_law_157 : decode code 157 = .ok (.iconst 1, 1) := by decide +kernel
theorem dL_law_158 : decode code 158 = .ok (.iadd, 1) := by decide +kernel
theorem dL_law_159 : decode code 159 = .ok (.iaload, 1) := by decide +kernel
theorem dL_law_160 : decode code 160 = .ok (.invokevirtual 22, 3) := by decide +kernel
theorem dL_law_163 : decode code 163 = .ok (.if_icmp .eq 281, 3) := by decide +kernel
theorem dL_law_166 : decode code 166 = .ok (.iconst 0, 1) := by decide +kernel
theorem dL_law_167 : decode code 167 = .ok (.ireturn, 1) := by decide +kernel
theorem dL_law_168 : decode code 168 = .ok (.aload_n 1, 1) := by decide +kernel
theorem dL_law_169 : decode code 169 = .ok (.invokevirtual 23, 3) := by decide +kernel
theorem dL_law_172 : decode code 172 = .ok (.aload_n 2, 1) := by decide +kernel
theorem dL_law_173 : decode code 173 = .ok (.invokevirtual 26, 3) := by decide +kernel
theorem dL_law_176 : decode code 176 = .ok (.goto 268, 3) := by decide +kernel
theorem dL_law_179 : decode code 179 = .ok (.aload_n 1, 1) := by decide +kernel
theorem dL_law_180 : decode code 180 = .ok (.aload_n 0, 1) := by decide +kernel
theorem dL_law_181 : decode code 181 = .ok (.iload_n 3, 1) := by decide +kernel
theorem dL_law_182 : decode code 182 = .ok (.iconst 1, 1) := by decide +kernel
theorem dL_law_183 : decode code 183 = .ok (.iadd, 1) := by decide +kernel
theorem dL_law_184 : decode code 184 = .ok (.iaload, 1) := by decide +kernel
theorem dL_law_185 : decode code 185 = .ok (.aload_n 0, 1) := by decide +kernel
theorem dL_law_186 : decode code 186 = .ok (.iload_n 3, 1) := by decide +kernel
theorem dL_law_187 : decode code 187 = .ok (.iconst 2, 1) := by decide +kernel
theorem dL_law_188 : decode code 188 = .ok (.iadd, 1) := by decide +kernel
theorem dL_law_189 : decode code 189 = .ok (.iaload, 1) := by decide +kernel
theorem dL_law_190 : decode code 190 = .ok (.invokevirtual 27, 3) := by decide +kernel
theorem dL_law_193 : decode code 193 = .ok (.aload_n 2, 1) := by decide +kernel
theorem dL_law_194 : decode code 194 = .ok (.aload_n 0, 1) := by decide +kernel
theorem dL_law_195 : decode code 195 = .ok (.iload_n 3, 1) := by decide +kernel
theorem dL_law_196 : decode code 196 = .ok (.iconst 1, 1) := by decide +kernel
theorem dL_law_197 : decode code 197 = .ok (.iadd, 1) := by decide +kernel
theorem dL_law_198 : decode code 198 = .ok (.iaload, 1) := by decide +kernel
theorem dL_law_199 : decode code 199 = .ok (.aload_n 0, 1) := by decide +kernel
theorem dL_law_200 : decode code 200 = .ok (.iload_n 3, 1) := by decide +kernel
theorem dL_law_201 : decode code 201 = .ok (.iconst 2, 1) := by decide +kernel
theorem dL_law_202 : decode code 202 = .ok (.iadd, 1) := by decide +kernel
theorem dL_law_203 : decode code 203 = .ok (.iaload, 1) := by decide +kernel
theorem dL_law_204 : decode code 204 = .ok (.invokevirtual 31, 3) := by decide +kernel
theorem dL_law_207 : decode code 207 = .ok (.if_icmp .eq 237, 3) := by decide +kernel
theorem dL_law_210 : decode code 210 = .ok (.iconst 0, 1) := by decide +kernel
theorem dL_law_211 : decode code 211 = .ok (.ireturn, 1) := by decide +kernel
theorem dL_law_212 : decode code 212 = .ok (.aload_n 1, 1) := by decide +kernel
theorem dL_law_213 : decode code 213 = .ok (.aload_n 0, 1) := by decide +kernel
theorem dL_law_214 : decode code 214 = .ok (.iload_n 3, 1) := by decide +kernel
theorem dL_law_215 : decode code 215 = .ok (.iconst 1, 1) := by decide +kernel
theorem dL_law_216 : decode code 216 = .ok (.iadd, 1) := by decide +kernel
theorem dL_law_217 : decode code 217 = .ok (.iaload, 1) := by decide +kernel
theorem dL_law_218 : decode code 218 = .ok (.aload_n 0, 1) := by decide +kernel
theorem dL_law_219 : decode code 219 = .ok (.iload_n 3, 1) := by decide +kernel
theorem dL_law_220 : decode code 220 = .ok (.iconst 2, 1) := by decide +kernel
theorem dL_law_221 : decode code 221 = .ok (.iadd, 1) := by decide +kernel
theorem dL_law_222 : decode code 222 = .ok (.iaload, 1) := by decide +kernel
theorem dL_law_223 : decode code 223 = .ok (.invokevirtual 32, 3) := by decide +kernel
theorem dL_law_226 : decode code 226 = .ok (.aload_n 2, 1) := by decide +kernel
theorem dL_law_227 : decode code 227 = .ok (.aload_n 0, 1) := by decide +kernel
theorem dL_law_228 : decode code 228 = .ok (.iload_n 3, 1) := by decide +kernel
theorem dL_law_229 : decode code 229 = .ok (.iconst 1, 1) := by decide +kernel
theorem dL_law_230 : decode code 230 = .ok (.iadd, 1) := by decide +kernel
theorem dL_law_231 : decode code 231 = .ok (.iaload, 1) := by decide +kernel
theorem dL_law_232 : decode code 232 = .ok (.aload_n 0, 1) := by decide +kernel
theorem dL_law_233 : decode code 233 = .ok (.iload_n 3, 1) := by decide +kernel
theorem dL_law_234 : decode code 234 = .ok (.iconst 2, 1) := by decide +kernel
theorem dL_law_235 : decode code 235 = .ok (.iadd, 1) := by decide +kernel
theorem dL_law_236 : decode code 236 = .ok (.iaload, 1) := by decide +kernel
theorem dL_law_237 : decode code 237 = .ok (.invokevirtual 35, 3) := by decide +kernel
theorem dL_law_240 : decode code 240 = .ok (.if_icmp .eq 204, 3) := by decide +kernel
theorem dL_law_243 : decode code 243 = .ok (.iconst 0, 1) := by decide +kernel
theorem dL_law_244 : decode code 244 = .ok (.ireturn, 1) := by decide +kernel
theorem dL_law_245 : decode code 245 = .ok (.aload_n 1, 1) := by decide +kernel
theorem dL_law_246 : decode code 246 = .ok (.aload_n 0, 1) := by decide +kernel
theorem dL_law_247 : decode code 247 = .ok (.iload_n 3, 1) := by decide +kernel
theorem dL_law_248 : decode code 248 = .ok (.iconst 1, 1) := by decide +kernel
theorem dL_law_249 : decode code 249 = .ok (.iadd, 1) := by decide +kernel
theorem dL_law_250 : decode code 250 = .ok (.iaload, 1) := by decide +kernel
theorem dL_law_251 : decode code 251 = .ok (.aload_n 0, 1) := by decide +kernel
theorem dL_law_252 : decode code 252 = .ok (.iload_n 3, 1) := by decide +kernel
theorem dL_law_253 : decode code 253 = .ok (.iconst 2, 1) := by decide +kernel
theorem dL_law_254 : decode code 254 = .ok (.iadd, 1) := by decide +kernel
theorem dL_law_255 : decode code 255 = .ok (.iaload, 1) := by decide +kernel
theorem dL_law_256 : decode code 256 = .ok (.aload_n 0, 1) := by decide +kernel
theorem dL_law_257 : decode code 257 = .ok (.iload_n 3, 1) := by decide +kernel
theorem dL_law_258 : decode code 258 = .ok (.iconst 3, 1) := by decide +kernel
theorem dL_law_259 : decode code 259 = .ok (.iadd, 1) := by decide +kernel
theorem dL_law_260 : decode code 260 = .ok (.iaload, 1) := by decide +kernel
theorem dL_law_261 : decode code 261 = .ok (.invokevirtual 36, 3) := by decide +kernel
theorem dL_law_264 : decode code 264 = .ok (.aload_n 2, 1) := by decide +kernel
theorem dL_law_265 : decode code 265 = .ok (.aload_n 0, 1) := by decide +kernel
theorem dL_law_266 : decode code 266 = .ok (.iload_n 3, 1) := by decide +kernel
theorem dL_law_267 : decode code 267 = .ok (.iconst 1, 1) := by decide +kernel
theorem dL_law_268 : decode code 268 = .ok (.iadd, 1) := by decide +kernel
theorem dL_law_269 : decode code 269 = .ok (.iaload, 1) := by decide +kernel
theorem dL_law_270 : decode code 270 = .ok (.aload_n 0, 1) := by decide +kernel
theorem dL_law_271 : decode code 271 = .ok (.iload_n 3, 1) := by decide +kernel
theorem dL_law_272 : decode code 272 = .ok (.iconst 2, 1) := by decide +kernel
theorem dL_law_273 : decode code 273 = .ok (.iadd, 1) := by decide +kernel
theorem dL_law_274 : decode code 274 = .ok (.iaload, 1) := by decide +kernel
theorem dL_law_275 : decode code 275 = .ok (.aload_n 0, 1) := by decide +kernel
theorem dL_law_276 : decode code 276 = .ok (.iload_n 3, 1) := by decide +kernel
theorem dL_law_277 : decode code 277 = .ok (.iconst 3, 1) := by decide +kernel
theorem dL_law_278 : decode code 278 = .ok (.iadd, 1) := by decide +kernel
theorem dL_law_279 : decode code 279 = .ok (.iaload, 1) := by decide +kernel
theorem dL_law_280 : decode code 280 = .ok (.invokevirtual 40, 3) := by decide +kernel
theorem dL_law_283 : decode code 283 = .ok (.lcmp, 1) := by decide +kernel
theorem dL_law_284 : decode code 284 = .ok (.ifCond .eq 160, 3) := by decide +kernel
theorem dL_law_287 : decode code 287 = .ok (.iconst 0, 1) := by decide +kernel
theorem dL_law_288 : decode code 288 = .ok (.ireturn, 1) := by decide +kernel
theorem dL_law_289 : decode code 289 = .ok (.aload_n 1, 1) := by decide +kernel
theorem dL_law_290 : decode code 290 = .ok (.aload_n 0, 1) := by decide +kernel
theorem dL_law_291 : decode code 291 = .ok (.iload_n 3, 1) := by decide +kernel
theorem dL_law_292 : decode code 292 = .ok (.iconst 1, 1) := by decide +kernel
theorem dL_law_293 : decode code 293 = .ok (.iadd, 1) := by decide +kernel
theorem dL_law_294 : decode code 294 = .ok (.iaload, 1) := by decide +kernel
theorem dL_law_295 : decode code 295 = .ok (.aload_n 0, 1) := by decide +kernel
theorem dL_law_296 : decode code 296 = .ok (.iload_n 3, 1) := by decide +kernel
theorem dL_law_297 : decode code 297 = .ok (.iconst 2, 1) := by decide +kernel
theorem dL_law_298 : decode code 298 = .ok (.iadd, 1) := by decide +kernel
theorem dL_law_299 : decode code 299 = .ok (.iaload, 1) := by decide +kernel
theorem dL_law_300 : decode code 300 = .ok (.invokevirtual 41, 3) := by decide +kernel
theorem dL_law_303 : decode code 303 = .ok (.aload_n 2, 1) := by decide +kernel
theorem dL_law_304 : decode code 304 = .ok (.aload_n 0, 1) := by decide +kernel
theorem dL_law_305 : decode code 305 = .ok (.iload_n 3, 1) := by decide +kernel
theorem dL_law_306 : decode code 306 = .ok (.iconst 1, 1) := by decide +kernel
theorem dL_law_307 : decode code 307 = .ok (.iadd, 1) := by decide +kernel
theorem dL_law_308 : decode code 308 = .ok (.iaload, 1) := by decide +kernel
theorem dL_law_309 : decode code 309 = .ok (.aload_n 0, 1) := by decide +kernel
theorem dL_law_310 : decode code 310 = .ok (.iload_n 3, 1) := by decide +kernel
theorem dL_law_311 : decode code 311 = .ok (.iconst 2, 1) := by decide +kernel
theorem dL_law_312 : decode code 312 = .ok (.iadd, 1) := by decide +kernel
theorem dL_law_313 : decode code 313 = .ok (.iaload, 1) := by decide +kernel
theorem dL_law_314 : decode code 314 = .ok (.invokevirtual 44, 3) := by decide +kernel
theorem dL_law_317 : decode code 317 = .ok (.if_icmp .eq 127, 3) := by decide +kernel
theorem dL_law_320 : decode code 320 = .ok (.iconst 0, 1) := by decide +kernel
theorem dL_law_321 : decode code 321 = .ok (.ireturn, 1) := by decide +kernel
theorem dL_law_322 : decode code 322 = .ok (.aload_n 1, 1) := by decide +kernel
theorem dL_law_323 : decode code 323 = .ok (.aload_n 0, 1) := by decide +kernel
theorem dL_law_324 : decode code 324 = .ok (.iload_n 3, 1) := by decide +kernel
theorem dL_law_325 : decode code 325 = .ok (.iconst 1, 1) := by decide +kernel
theorem dL_law_326 : decode code 326 = .ok (.iadd, 1) := by decide +kernel
theorem dL_law_327 : decode code 327 = .ok (.iaload, 1) := by decide +kernel
theorem dL_law_328 : decode code 328 = .ok (.aload_n 0, 1) := by decide +kernel
theorem dL_law_329 : decode code 329 = .ok (.iload_n 3, 1) := by decide +kernel
theorem dL_law_330 : decode code 330 = .ok (.iconst 2, 1) := by decide +kernel
theorem dL_law_331 : decode code 331 = .ok (.iadd, 1) := by decide +kernel
theorem dL_law_332 : decode code 332 = .ok (.iaload, 1) := by decide +kernel
theorem dL_law_333 : decode code 333 = .ok (.invokevirtual 45, 3) := by decide +kernel
theorem dL_law_336 : decode code 336 = .ok (.aload_n 2, 1) := by decide +kernel
theorem dL_law_337 : decode code 337 = .ok (.aload_n 0, 1) := by decide +kernel
theorem dL_law_338 : decode code 338 = .ok (.iload_n 3, 1) := by decide +kernel
theorem dL_law_339 : decode code 339 = .ok (.iconst 1, 1) := by decide +kernel
theorem dL_law_340 : decode code 340 = .ok (.iadd, 1) := by decide +kernel
theorem dL_law_341 : decode code 341 = .ok (.iaload, 1) := by decide +kernel
theorem dL_law_342 : decode code 342 = .ok (.aload_n 0, 1) := by decide +kernel
theorem dL_law_343 : decode code 343 = .ok (.iload_n 3, 1) := by decide +kernel
theorem dL_law_344 : decode code 344 = .ok (.iconst 2, 1) := by decide +kernel
theorem dL_law_345 : decode code 345 = .ok (.iadd, 1) := by decide +kernel
theorem dL_law_346 : decode code 346 = .ok (.iaload, 1) := by decide +kernel
theorem dL_law_347 : decode code 347 = .ok (.invokevirtual 48, 3) := by decide +kernel
theorem dL_law_350 : decode code 350 = .ok (.if_icmp .eq 94, 3) := by decide +kernel
theorem dL_law_353 : decode code 353 = .ok (.iconst 0, 1) := by decide +kernel
theorem dL_law_354 : decode code 354 = .ok (.ireturn, 1) := by decide +kernel
theorem dL_law_355 : decode code 355 = .ok (.aload_n 1, 1) := by decide +kernel
theorem dL_law_356 : decode code 356 = .ok (.aload_n 0, 1) := by decide +kernel
theorem dL_law_357 : decode code 357 = .ok (.iload_n 3, 1) := by decide +kernel
theorem dL_law_358 : decode code 358 = .ok (.iconst 1, 1) := by decide +kernel
theorem dL_law_359 : decode code 359 = .ok (.iadd, 1) := by decide +kernel
theorem dL_law_360 : decode code 360 = .ok (.iaload, 1) := by decide +kernel
theorem dL_law_361 : decode code 361 = .ok (.aload_n 0, 1) := by decide +kernel
theorem dL_law_362 : decode code 362 = .ok (.iload_n 3, 1) := by decide +kernel
theorem dL_law_363 : decode code 363 = .ok (.iconst 2, 1) := by decide +kernel
theorem dL_law_364 : decode code 364 = .ok (.iadd, 1) := by decide +kernel
theorem dL_law_365 : decode code 365 = .ok (.iaload, 1) := by decide +kernel
theorem dL_law_366 : decode code 366 = .ok (.invokevirtual 49, 3) := by decide +kernel
theorem dL_law_369 : decode code 369 = .ok (.aload_n 2, 1) := by decide +kernel
theorem dL_law_370 : decode code 370 = .ok (.aload_n 0, 1) := by decide +kernel
theorem dL_law_371 : decode code 371 = .ok (.iload_n 3, 1) := by decide +kernel
theorem dL_law_372 : decode code 372 = .ok (.iconst 1, 1) := by decide +kernel
theorem dL_law_373 : decode code 373 = .ok (.iadd, 1) := by decide +kernel
theorem dL_law_374 : decode code 374 = .ok (.iaload, 1) := by decide +kernel
theorem dL_law_375 : decode code 375 = .ok (.aload_n 0, 1) := by decide +kernel
theorem dL_law_376 : decode code 376 = .ok (.iload_n 3, 1) := by decide +kernel
theorem dL_law_377 : decode code 377 = .ok (.iconst 2, 1) := by decide +kernel
theorem dL_law_378 : decode code 378 = .ok (.iadd, 1) := by decide +kernel
theorem dL_law_379 : decode code 379 = .ok (.iaload, 1) := by decide +kernel
theorem dL_law_380 : decode code 380 = .ok (.invokevirtual 52, 3) := by decide +kernel
theorem dL_law_383 : decode code 383 = .ok (.if_icmp .eq 61, 3) := by decide +kernel
theorem dL_law_386 : decode code 386 = .ok (.iconst 0, 1) := by decide +kernel
theorem dL_law_387 : decode code 387 = .ok (.ireturn, 1) := by decide +kernel
theorem dL_law_388 : decode code 388 = .ok (.aload_n 1, 1) := by decide +kernel
theorem dL_law_389 : decode code 389 = .ok (.aload_n 0, 1) := by decide +kernel
theorem dL_law_390 : decode code 390 = .ok (.iload_n 3, 1) := by decide +kernel
theorem dL_law_391 : decode code 391 = .ok (.iconst 1, 1) := by decide +kernel
theorem dL_law_392 : decode code 392 = .ok (.iadd, 1) := by decide +kernel
theorem dL_law_393 : decode code 393 = .ok (.iaload, 1) := by decide +kernel
theorem dL_law_394 : decode code 394 = .ok (.aload_n 0, 1) := by decide +kernel
theorem dL_law_395 : decode code 395 = .ok (.iload_n 3, 1) := by decide +kernel
theorem dL_law_396 : decode code 396 = .ok (.iconst 2, 1) := by decide +kernel
theorem dL_law_397 : decode code 397 = .ok (.iadd, 1) := by decide +kernel
theorem dL_law_398 : decode code 398 = .ok (.iaload, 1) := by decide +kernel
theorem dL_law_399 : decode code 399 = .ok (.invokevirtual 53, 3) := by decide +kernel
theorem dL_law_402 : decode code 402 = .ok (.aload_n 2, 1) := by decide +kernel
theorem dL_law_403 : decode code 403 = .ok (.aload_n 0, 1) := by decide +kernel
theorem dL_law_404 : decode code 404 = .ok (.iload_n 3, 1) := by decide +kernel
theorem dL_law_405 : decode code 405 = .ok (.iconst 1, 1) := by decide +kernel
theorem dL_law_406 : decode code 406 = .ok (.iadd, 1) := by decide +kernel
theorem dL_law_407 : decode code 407 = .ok (.iaload, 1) := by decide +kernel
theorem dL_law_408 : decode code 408 = .ok (.aload_n 0, 1) := by decide +kernel
theorem dL_law_409 : decode code 409 = .ok (.iload_n 3, 1) := by decide +kernel
theorem dL_law_410 : decode code 410 = .ok (.iconst 2, 1) := by decide +kernel
theorem dL_law_411 : decode code 411 = .ok (.iadd, 1) := by decide +kernel
theorem dL_law_412 : decode code 412 = .ok (.iaload, 1) := by decide +kernel
theorem dL_law_413 : decode code 413 = .ok (.invokevirtual 56, 3) := by decide +kernel
theorem dL_law_416 : decode code 416 = .ok (.if_icmp .eq 28, 3) := by decide +kernel
theorem dL_law_419 : decode code 419 = .ok (.iconst 0, 1) := by decide +kernel
theorem dL_law_420 : decode code 420 = .ok (.ireturn, 1) := by decide +kernel
theorem dL_law_421 : decode code 421 = .ok (.aload_n 1, 1) := by decide +kernel
theorem dL_law_422 : decode code 422 = .ok (.aload_n 0, 1) := by decide +kernel
theorem dL_law_423 : decode code 423 = .ok (.iload_n 3, 1) := by decide +kernel
theorem dL_law_424 : decode code 424 = .ok (.iconst 1, 1) := by decide +kernel
theorem dL_law_425 : decode code 425 = .ok (.iadd, 1) := by decide +kernel
theorem dL_law_426 : decode code 426 = .ok (.iaload, 1) := by decide +kernel
theorem dL_law_427 : decode code 427 = .ok (.invokevirtual 57, 3) := by decide +kernel
theorem dL_law_430 : decode code 430 = .ok (.aload_n 2, 1) := by decide +kernel
theorem dL_law_431 : decode code 431 = .ok (.aload_n 0, 1) := by decide +kernel
theorem dL_law_432 : decode code 432 = .ok (.iload_n 3, 1) := by decide +kernel
theorem dL_law_433 : decode code 433 = .ok (.iconst 1, 1) := by decide +kernel
theorem dL_law_434 : decode code 434 = .ok (.iadd, 1) := by decide +kernel
theorem dL_law_435 : decode code 435 = .ok (.iaload, 1) := by decide +kernel
theorem dL_law_436 : decode code 436 = .ok (.invokevirtual 61, 3) := by decide +kernel
theorem dL_law_439 : decode code 439 = .ok (.if_icmp .eq 5, 3) := by decide +kernel
theorem dL_law_442 : decode code 442 = .ok (.iconst 0, 1) := by decide +kernel
theorem dL_law_443 : decode code 443 = .ok (.ireturn, 1) := by decide +kernel
theorem dL_law_444 : decode code 444 = .ok (.iinc 3 5, 3) := by decide +kernel
theorem dL_law_447 : decode code 447 = .ok (.goto (-429), 3) := by decide +kernel
theorem dL_law_450 : decode code 450 = .ok (.iconst 1, 1) := by decide +kernel
theorem dL_law_451 : decode code 451 = .ok (.ireturn, 1) := by decide +kernel
end
section
-- natives' words
theorem q_natCopy : Cond.native arraycopyName ∈ wT := wT_of (by decide +kernel) (by decide +kernel)
/-- the links among nest mates, and the arrays of walls: what no word list carries -/
def NW (U : State) : Prop := va_Nw (.methodLinkNest "NodeMaker" 11 yT_init "NodeMaker") U ∧ va_Nw (.methodLinkNest "NodeMaker$Tree" 11 yS_init "NodeMaker") U ∧ va_Nw (.methodLinkNest "NodeMaker$Tree" 20 yR_init "NodeMaker") U ∧ va_Nw (.methodLinkNest "NodeMaker$Tree" 42 yP_init "NodeMaker") U ∧ va_Nw (.methodLinkNest "NodeMaker$Pieces" 9 yR_init "NodeMaker") U ∧
  va_Nw (.fieldLinkNest "NodeMaker" 107 "NodeMaker$Wall" "ax" "I" "NodeMaker") U ∧ va_Nw (.fieldLinkNest "NodeMaker" 110 "NodeMaker$Wall" "ay" "I" "NodeMaker") U ∧ va_Nw (.fieldLinkNest "NodeMaker" 113 "NodeMaker$Wall" "bx" "I" "NodeMaker") U ∧ va_Nw (.fieldLinkNest "NodeMaker" 116 "NodeMaker$Wall" "by" "I" "NodeMaker") U ∧
  va_Nw (.fieldLinkNest "NodeMaker$Tree" 141 "NodeMaker$Wall" "ax" "I" "NodeMaker") U ∧ va_Nw (.fieldLinkNest "NodeMaker$Tree" 146 "NodeMaker$Wall" "ay" "I" "NodeMaker") U ∧ va_Nw (.fieldLinkNest "NodeMaker$Tree" 153 "NodeMaker$Wall" "bx" "I" "NodeMaker") U ∧ va_Nw (.fieldLinkNest "NodeMaker$Tree" 156 "NodeMaker$Wall" "by" "I" "NodeMaker") U ∧ va_AO "NodeMaker$Wall" U
theorem NW.warm {s U : State} (hW : s.WarmedH U.vm) (h : NW s) : NW U := by
  obtain ⟨a1, a2, a3, a4, a5, b1, b2, b3, b4, b5, b6, b7, b8, d⟩ := h
  exact ⟨a1.warmM hW, a2.warmM hW, a3.warmM hW, a4.warmM hW, a5.warmM hW, b1.warmF hW, b2.warmF hW, b3.warmF hW, b4.warmF hW, b5.warmF hW, b6.warmF hW, b7.warmF hW, b8.warmF hW, d.moved hW.alike⟩
theorem NW.same {s U : State} (hv : s.vm = U.vm) (h : NW s) : NW U := by
  obtain ⟨a1, a2, a3, a4, a5, b1, b2, b3, b4, b5, b6, b7, b8, d⟩ := h
  exact ⟨a1.same rfl hv, a2.same rfl hv, a3.same rfl hv, a4.same rfl hv, a5.same rfl hv, b1.same rfl hv, b2.same rfl hv, b3.same rfl hv, b4.same rfl hv, b5.same rfl hv, b6.same rfl hv, b7.same rfl hv, b8.same rfl hv, d.moved (by rw [hv]; exact Vm.Alike.refl _)⟩
/-- what the worlds are read by: the classes' numbers and slots; the array classes of int, Wall, long, boolean -/
abbrev CX : Type := va_G × (Nat → ClassId)
abbrev tyL (g : CX) : List (ClassId × FieldType) := [(g.2 0, .int), (g.2 1, .object "NodeMaker$Wall"), (g.2 2, .long), (g.2 3, .boolean)]
def KK (g : CX) (U : State) : Prop := va_K g.1 vwCl (tyL g) U ∧ NW U
theorem KK.warm {g : CX} {s U : State} (hW : s.WarmedH U.vm) (h : KK g s) : KK g U := ⟨va_K.moved hW.alike h.1, NW.warm hW h.2⟩
theorem KK.call {g : CX} {U : State} {f : JFrame} {mk : MethodId} {a : Array Value} (h : KK g U) : KK g (U.calling f mk a) := ⟨va_K.moved (u := U) (U := U.calling f mk a) (Vm.Alike.refl U.vm) h.1, NW.same rfl h.2⟩
/-- a read-only contract's start: the heap has B -/
def ro (g : CX) (av : List Value) (B : Heap → Prop) : Array Value → State → Prop := va_Pc av (fun U => KK g U ∧ B U.heap)
theorem ro_blind {g : CX} {av : List Value} {B : Heap → Prop} : FrameBlind (ro g av B) := fun _ _ _ _ q => ⟨q.1, q.2.1.call, q.2.2⟩
theorem ro_V {g : CX} {s : State} {H : Heap} {C : String} {b : Addr} {As : List Value} {B : Heap → Prop} (hK : KK g s) (hB : B H) (hr : ∃ cell : Cell, H[b]? = some cell ∧ cell.vm.isStatics = false ∧ s.vm.findClass C = some cell.cls) : PreV s H C b (ro g (.ref b :: As) B) As :=
  ⟨ro_blind, hr, fun U hU hW => ⟨rfl, hK.warm hW, by rw [hU]; exact hB⟩⟩
theorem ro_S {g : CX} {s : State} {H : Heap} {As : List Value} {B : Heap → Prop} (hK : KK g s) (hB : B H) : PreS s H (ro g As B) As := ⟨ro_blind, fun U hU hW => ⟨rfl, hK.warm hW, by rw [hU]; exact hB⟩⟩
section RO
variable {p : Program} {l : Launch} {e : Env} {R : Room} {s : State} {m : MethodId} {args : Array Value} {below : List Frame} {meth : Method} {c : Code} {H : Heap} {locs : List Loc} {cells slots : Nat} {Q : State → Prop}
variable {cc : ByteArray} {pc nL : Nat} {ls : Array Slot} {rest st0 : List Value} {own C : String} {index n maxL : Nat} {y : MethodName} {bytes : ByteArray} {ret : Option FieldType} {ws : List Cond} {rm : Room} {g : CX} {B : Heap → Prop} {b : Addr} {As : List Value}
theorem ro_Vi {v : Int32} (S : CallFix p m c cc nL s args wT own) (hM : Met l y ws rm (ro g (.ref b :: As) B) (vp_Si (fun r => r = v)) 0 0 (fun _ => False)) (cw : CallW R s args own C index y bytes maxL ret ws rm 0 0 n) (hK : KK g s) (hB : B H) (hr : ∃ cell : Cell, H[b]? = some cell ∧ cell.vm.isStatics = false ∧ s.vm.findClass C = some cell.cls)
    (hn : As.length = n) (hsz : ls.size = nL) (hst : st0 = As.reverse ++ .ref b :: rest) (hrm : (rest.map fun v => v.category).sum ≤ 8) (hdg : decode cc pc = .ok (.invokevirtual index, 3)) (hf : cells ≤ R.cells ∧ slots ≤ R.slots)
    (kk : W p l e R s m args below meth c H locs cells slots Q (F0 m (pc + 3) ls (.int v :: rest))) : W p l e R s m args below meth c H locs cells slots Q (F0 m pc ls st0) :=
  vp_callSi (W.runV (As := As) (rest := rest) S hM cw (ro_V hK hB hr) rfl hn hsz hst (lv_room hrm) hdg hf) (fun r hr => by subst hr; exact kk)
theorem ro_Si {v : Int32} (S : CallFix p m c cc nL s args wT own) (hM : Met l y ws rm (ro g As B) (vp_Si (fun r => r = v)) 0 0 (fun _ => False)) (cw : CallB R s args own index y bytes maxL ret ws rm 0 0 n ∧ (Cond.static y).before args s = true) (hK : KK g s) (hB : B H)
    (hn : As.length = n) (hsz : ls.size = nL) (hst : st0 = As.reverse ++ rest) (hrm : (rest.map fun v => v.category).sum ≤ 8) (hdg : decode cc pc = .ok (.invokestatic index, 3)) (hf : cells ≤ R.cells ∧ slots ≤ R.slots)
    (kk : W p l e R s m args below meth c H locs cells slots Q (F0 m (pc + 3) ls (.int v :: rest))) : W p l e R s m args below meth c H locs cells slots Q (F0 m pc ls st0) :=
  vp_callSi (W.runS (As := As) (rest := rest) S hM cw (ro_S hK hB) rfl hn hsz hst (lv_room hrm) hdg hf) (fun r hr => by subst hr; exact kk)
theorem ro_run_l {post : Int64 → Prop} {a : Array Value} (hr : CallRun p l e R s m args below meth c H locs cells slots 0 0 (F0 m pc ls st0) rest (vp_Sl post a) (fun _ => False))
    (kk : ∀ r : Int64, post r → W p l e R s m args below meth c H locs cells slots Q (F0 m (pc + 3) ls (.long r :: rest))) : W p l e R s m args below meth c H locs cells slots Q (F0 m pc ls st0) := by
  intro T hT X
  obtain ⟨v, st₀, t, T', L, h0, X', hL, e1, ⟨r, hv, hp, hh⟩, st⟩ := hr T hT X
  cases hv
  obtain ⟨t2, a1, b1⟩ := kk r hp T' (by rw [e1, hh, h0]) (Stand.forget X' (fun q h => (hL q h).elim))
  exact ⟨t2, st t2 a1, b1⟩
theorem ro_Vl {v : Int64} (S : CallFix p m c cc nL s args wT own) (hM : Met l y ws rm (ro g (.ref b :: As) B) (vp_Sl (fun r => r = v)) 0 0 (fun _ => False)) (cw : CallW R s args own C index y bytes maxL ret ws rm 0 0 n) (hK : KK g s) (hB : B H) (hr : ∃ cell : Cell, H[b]? = some cell ∧ cell.vm.isStatics = false ∧ s.vm.findClass C = some cell.cls)
    (hn : As.length = n) (hsz : ls.size = nL) (hst : st0 = As.reverse ++ .ref b :: rest) (hrm : (rest.map fun v => v.category).sum ≤ 8) (hdg : decode cc pc = .ok (.invokevirtual index, 3)) (hf : cells ≤ R.cells ∧ slots ≤ R.slots)
    (kk : W p l e R s m args below meth c H locs cells slots Q (F0 m (pc + 3) ls (.long v :: rest))) : W p l e R s m args below meth c H locs cells slots Q (F0 m pc ls st0) :=
  ro_run_l (W.runV (As := As) (rest := rest) S hM cw (ro_V hK hB hr) rfl hn hsz hst (lv_room hrm) hdg hf) (fun r hr => by subst hr; exact kk)
theorem ro_Sl {v : Int64} (S : CallFix p m c cc nL s args wT own) (hM : Met l y ws rm (ro g As B) (vp_Sl (fun r => r = v)) 0 0 (fun _ => False)) (cw : CallB R s args own index y bytes maxL ret ws rm 0 0 n ∧ (Cond.static y).before args s = true) (hK : KK g s) (hB : B H)
    (hn : As.length = n) (hsz : ls.size = nL) (hst : st0 = As.reverse ++ rest) (hrm : (rest.map fun v => v.category).sum ≤ 8) (hdg : decode cc pc = .ok (.invokestatic index, 3)) (hf : cells ≤ R.cells ∧ slots ≤ R.slots)
    (kk : W p l e R s m args below meth c H locs cells slots Q (F0 m (pc + 3) ls (.long v :: rest))) : W p l e R s m args below meth c H locs cells slots Q (F0 m pc ls st0) :=
  ro_run_l (W.runS (As := As) (rest := rest) S hM cw (ro_S hK hB) rfl hn hsz hst (lv_room hrm) hdg hf) (fun r hr => by subst hr; exact kk)
/-- a call that answers a reference or null -/
theorem ro_Vq {post : Option Nat → Prop} (S : CallFix p m c cc nL s args wT own) (hM : Met l y ws rm (ro g (.ref b :: As) B) (va_Sq post) 0 0 (fun _ => False)) (cw : CallW R s args own C index y bytes maxL ret ws rm 0 0 n) (hK : KK g s) (hB : B H) (hr : ∃ cell : Cell, H[b]? = some cell ∧ cell.vm.isStatics = false ∧ s.vm.findClass C = some cell.cls)
    (hn : As.length = n) (hsz : ls.size = nL) (hst : st0 = As.reverse ++ .ref b :: rest) (hrm : (rest.map fun v => v.category).sum ≤ 8) (hdg : decode cc pc = .ok (.invokevirtual index, 3)) (hf : cells ≤ R.cells ∧ slots ≤ R.slots)
    (k0 : post none → W p l e R s m args below meth c H locs cells slots Q (F0 m (pc + 3) ls (.null :: rest))) (k1 : ∀ x : Nat, post (some x) → W p l e R s m args below meth c H locs cells slots Q (F0 m (pc + 3) ls (.ref x :: rest))) : W p l e R s m args below meth c H locs cells slots Q (F0 m pc ls st0) :=
  va_csq (W.runV (As := As) (rest := rest) S hM cw (ro_V hK hB hr) rfl hn hsz hst (lv_room hrm) hdg hf) (fun r hr => by cases r with | none => exact k0 hr | some x => exact k1 x hr)
end RO
-- rows of numbers
/-- what a Row answers at a place: NONE outside -/
def rAt (L : List Int32) (i : Int32) : Int32 := if i < 0 then -1 else if nI L.length ≤ i then -1 else L.getD i.toNatClampNeg 0
/-- the cells of a Row at a with its array at q -/
abbrev rowW (g : CX) (a q cap : Nat) (f : Nat → Int32) (n : Nat) : va_W := [(a, .inr (0, [.ref q, .int (nI n)])), (q, .inl (g.2 0, cap, .inl f))]
/-- the lengths that a Row's array may have; the array f of cap places bears the list -/
def capOK (n : Nat) : Prop := n = 64 ∨ n = 128 ∨ n = 256 ∨ n = 512 ∨ n = 1024 ∨ n = 2048 ∨ n = 4096
def rowR (cap : Nat) (f : Nat → Int32) (L : List Int32) : Prop := L.length ≤ cap ∧ capOK cap ∧ cap ≤ 4096 ∧ ∀ j, j < L.length → f j = L.getD j 0
end
section
theorem nw_6 {U : State} (h : NW U): va_Nw (.fieldLinkNest "NodeMaker" 107 "NodeMaker$Wall" "ax" "I" "NodeMaker") U := h.2.2.2.2.2.1
theorem nw_7 {U : State} (h : NW U): va_Nw (.fieldLinkNest "NodeMaker" 110 "NodeMaker$Wall" "ay" "I" "NodeMaker") U := h.2.2.2.2.2.2.1
theorem nw_8 {U : State} (h : NW U): va_Nw (.fieldLinkNest "NodeMaker" 113 "NodeMaker$Wall" "bx" "I" "NodeMaker") U := h.2.2.2.2.2.2.2.1
theorem nw_9 {U : State} (h : NW U): va_Nw (.fieldLinkNest "NodeMaker" 116 "NodeMaker$Wall" "by" "I" "NodeMaker") U := h.2.2.2.2.2.2.2.2.1
theorem nw_10 {U : State} (h : NW U): va_Nw (.fieldLinkNest "NodeMaker$Tree" 141 "NodeMaker$Wall" "ax" "I" "NodeMaker") U := h.2.2.2.2.2.2.2.2.2.1
theorem nw_11 {U : State} (h : NW U): va_Nw (.fieldLinkNest "NodeMaker$Tree" 146 "NodeMaker$Wall" "ay" "I" "NodeMaker") U := h.2.2.2.2.2.2.2.2.2.2.1
theorem nw_12 {U : State} (h : NW U): va_Nw (.fieldLinkNest "NodeMaker$Tree" 153 "NodeMaker$Wall" "bx" "I" "NodeMaker") U := h.2.2.2.2.2.2.2.2.2.2.2.1
theorem nw_13 {U : State} (h : NW U): va_Nw (.fieldLinkNest "NodeMaker$Tree" 156 "NodeMaker$Wall" "by" "I" "NodeMaker") U := h.2.2.2.2.2.2.2.2.2.2.2.2.1
/-- a writing contract's start: the cells ws, apart, in a heap of sz cells -/
def rw (g : CX) (av : List Value) (ws : va_W) (sz : Nat) : Array Value → State → Prop := va_Pc av (fun U => U.heap.size = sz ∧ KK g U ∧ va_P g.1 vwCl ws U.heap ∧ va_D (fun _ => True) ws)
/-- its end: the cells w1 u, in A -/
def rB {S : Type} (g : CX) (A : Nat → Prop) (w1 : S → va_W) (u : S) (t : State) : Prop := va_P g.1 vwCl (w1 u) t.heap ∧ va_D A (w1 u)
theorem rw_blind {g : CX} {av : List Value} {ws : va_W} {sz : Nat} : FrameBlind (rw g av ws sz) := fun _ _ _ _ q => ⟨q.1, q.2.1, q.2.2.1.call, q.2.2.2⟩
theorem rw_V {g : CX} {s : State} {H : Heap} {C : String} {b : Addr} {As : List Value} {wc : va_W} {A : Nat → Prop} (hK : KK g s) (hP : va_P g.1 vwCl wc H) (hD : va_D A wc) (hr : ∃ cell : Cell, H[b]? = some cell ∧ cell.vm.isStatics = false ∧ s.vm.findClass C = some cell.cls) : PreV s H C b (rw g (.ref b :: As) wc H.size) As :=
  ⟨rw_blind, hr, fun U hU hW => ⟨rfl, by rw [hU], hK.warm hW, by rw [hU]; exact hP, hD.weaken (fun _ _ _ _ => trivial)⟩⟩
theorem rw_S {g : CX} {s : State} {H : Heap} {As : List Value} {wc : va_W} {A : Nat → Prop} (hK : KK g s) (hP : va_P g.1 vwCl wc H) (hD : va_D A wc) : PreS s H (rw g As wc H.size) As :=
  ⟨rw_blind, fun U hU hW => ⟨rfl, by rw [hU], hK.warm hW, by rw [hU]; exact hP, hD.weaken (fun _ _ _ _ => trivial)⟩⟩
section RW
variable {p : Program} {l : Launch} {e : Env} {R : Room} {s : State} {m : MethodId} {args : Array Value} {below : List Frame} {meth : Method} {c : Code} {H : Heap} {locs : List Loc} {cells slots mc ms : Nat} {Q : State → Prop}
variable {pc : Nat} {ls : Array Slot} {rest st0 : List Value} {g : CX} {a : Array Value} {A0 : Nat → Prop} {H0 : Heap} {X wc wr pl : va_W}
theorem rw_v {S : Type} {post : S → Prop} {w1 : S → va_W} (hr : va_Run p l e R s m args below meth c H locs cells slots mc ms (F0 m pc ls st0) rest (va_Qv post (rB g (va_A wc H.size) w1) (va_A wc H.size) a) (va_A wc H.size)) (hP : va_P g.1 vwCl X H) (hD : va_D A0 X) (hS : va_S A0 H0 H locs) (hA : ∀ q, H0.size ≤ q → A0 q)
    (isC isR : List Nat) (hC : isC.map (fun i => X[i]?) = wc.map some) (hR : isR.map (fun i => X[i]?) = wr.map some) (hn : va_nd isR = true) (hdis : ∀ i ∈ isR, i ∉ isC)
    (kk : ∀ (u : S) (H1 : Heap) (locs1 : List Loc), post u → va_P g.1 vwCl (wr ++ w1 u) H1 → va_D A0 (wr ++ w1 u) → va_S A0 H0 H1 locs1 → W p l e R s m args below meth c H1 locs1 (cells + mc) (slots + ms) Q (F0 m (pc + 3) ls rest)) : W p l e R s m args below meth c H locs cells slots Q (F0 m pc ls st0) := by
  have hFc := va_free (wc := wc) hD hS hA isC hC
  refine va_callv hr hS (fun q _ h => hFc q h) hFc (fun u t H1 locs1 ht hvm hw hB hz1 hk1 hS1 => ?_)
  obtain ⟨hP1, hD1⟩ := hB
  rw [ht] at hP1
  obtain ⟨hP2, hD2⟩ := va_join (wr := wr) (w1 := w1 u) hP hD isC isR hC hR hn hdis hk1 hFc hP1 hD1
  exact kk u H1 locs1 hw hP2 hD2 hS1
theorem rw_i {S : Type} {post : Int32 → S → Prop} {w1 : S → va_W} (hr : va_Run p l e R s m args below meth c H locs cells slots mc ms (F0 m pc ls st0) rest (va_Qi post (rB g (va_A wc H.size) w1) (va_A wc H.size) a) (va_A wc H.size)) (hP : va_P g.1 vwCl X H) (hD : va_D A0 X) (hS : va_S A0 H0 H locs) (hA : ∀ q, H0.size ≤ q → A0 q)
    (isC isR : List Nat) (hC : isC.map (fun i => X[i]?) = wc.map some) (hR : isR.map (fun i => X[i]?) = wr.map some) (hn : va_nd isR = true) (hdis : ∀ i ∈ isR, i ∉ isC)
    (kk : ∀ (r : Int32) (u : S) (H1 : Heap) (locs1 : List Loc), post r u → va_P g.1 vwCl (wr ++ w1 u) H1 → va_D A0 (wr ++ w1 u) → va_S A0 H0 H1 locs1 → W p l e R s m args below meth c H1 locs1 (cells + mc) (slots + ms) Q (F0 m (pc + 3) ls (.int r :: rest))) : W p l e R s m args below meth c H locs cells slots Q (F0 m pc ls st0) := by
  have hFc := va_free (wc := wc) hD hS hA isC hC
  refine va_calli hr hS (fun q _ h => hFc q h) hFc (fun r u t H1 locs1 ht hvm hw hB hz1 hk1 hS1 => ?_)
  obtain ⟨hP1, hD1⟩ := hB
  rw [ht] at hP1
  obtain ⟨hP2, hD2⟩ := va_join (wr := wr) (w1 := w1 u) hP hD isC isR hC hR hn hdis hk1 hFc hP1 hD1
  exact kk r u H1 locs1 hw hP2 hD2 hS1
/-- the answer is a reference; the cells behind it may name it -/
theorem rw_r {S : Type} {post : S → Prop} {w1 : S → Nat → va_W} (hr : va_Run p l e R s m args below meth c H locs cells slots mc ms (F0 m pc ls st0) rest (va_Qr post (fun u x t => rB g (va_A wc H.size) (fun u => w1 u x) u t) (va_A wc H.size) a) (va_A wc H.size)) (hP : va_P g.1 vwCl X H) (hD : va_D A0 X) (hS : va_S A0 H0 H locs) (hA : ∀ q, H0.size ≤ q → A0 q)
    (isC isR : List Nat) (hC : isC.map (fun i => X[i]?) = wc.map some) (hR : isR.map (fun i => X[i]?) = wr.map some) (hn : va_nd isR = true) (hdis : ∀ i ∈ isR, i ∉ isC)
    (kk : ∀ (u : S) (x : Nat) (H1 : Heap) (locs1 : List Loc), post u → va_P g.1 vwCl (wr ++ w1 u x) H1 → va_D A0 (wr ++ w1 u x) → va_S A0 H0 H1 locs1 → W p l e R s m args below meth c H1 locs1 (cells + mc) (slots + ms) Q (F0 m (pc + 3) ls (.ref x :: rest))) : W p l e R s m args below meth c H locs cells slots Q (F0 m pc ls st0) := by
  have hFc := va_free (wc := wc) hD hS hA isC hC
  refine va_callr hr hS (fun q _ h => hFc q h) hFc (fun u x t H1 locs1 ht hvm hw hB hz1 hk1 hS1 => ?_)
  obtain ⟨hP1, hD1⟩ := hB
  rw [ht] at hP1
  obtain ⟨hP2, hD2⟩ := va_join (wr := wr) (w1 := w1 u x) hP hD isC isR hC hR hn hdis hk1 hFc hP1 hD1
  exact kk u x H1 locs1 hw hP2 hD2 hS1
/-- the same beside a pool that the callee doesn't touch -/
theorem rw_vQ {S : Type} {post : S → Prop} {w1 : S → va_W} (hr : va_Run p l e R s m args below meth c H locs cells slots mc ms (F0 m pc ls st0) rest (va_Qv post (rB g (va_A wc H.size) w1) (va_A wc H.size) a) (va_A wc H.size)) (hP : va_P g.1 vwCl (X ++ pl) H) (hD : va_D A0 (X ++ pl)) (hS : va_S A0 H0 H locs) (hA : ∀ q, H0.size ≤ q → A0 q)
    (isC isR : List Nat) (hC : isC.map (fun i => X[i]?) = wc.map some) (hC2 : isC.map (fun i => (X ++ pl)[i]?) = wc.map some) (hR : isR.map (fun i => X[i]?) = wr.map some) (hn : va_nd isR = true) (hdis : ∀ i ∈ isR, i ∉ isC)
    (kk : ∀ (u : S) (H1 : Heap) (locs1 : List Loc), post u → va_P g.1 vwCl ((wr ++ w1 u) ++ pl) H1 → va_D A0 ((wr ++ w1 u) ++ pl) → va_S A0 H0 H1 locs1 → W p l e R s m args below meth c H1 locs1 (cells + mc) (slots + ms) Q (F0 m (pc + 3) ls rest)) : W p l e R s m args below meth c H locs cells slots Q (F0 m pc ls st0) := by
  have hFc := va_free (wc := wc) hD hS hA isC hC2
  refine va_callv hr hS (fun q _ h => hFc q h) hFc (fun u t H1 locs1 ht hvm hw hB hz1 hk1 hS1 => ?_)
  obtain ⟨hP1, hD1⟩ := hB
  rw [ht] at hP1
  obtain ⟨hP2, hD2⟩ := va_joinQ (wr := wr) (w1 := w1 u) hP hD isC isR hC hR hn hdis hk1 hFc hP1 hD1
  exact kk u H1 locs1 hw hP2 hD2 hS1
theorem rw_iQ {S : Type} {post : Int32 → S → Prop} {w1 : S → va_W} (hr : va_Run p l e R s m args below meth c H locs cells slots mc ms (F0 m pc ls st0) rest (va_Qi post (rB g (va_A wc H.size) w1) (va_A wc H.size) a) (va_A wc H.size)) (hP : va_P g.1 vwCl (X ++ pl) H) (hD : va_D A0 (X ++ pl)) (hS : va_S A0 H0 H locs) (hA : ∀ q, H0.size ≤ q → A0 q)
    (isC isR : List Nat) (hC : isC.map (fun i => X[i]?) = wc.map some) (hC2 : isC.map (fun i => (X ++ pl)[i]?) = wc.map some) (hR : isR.map (fun i => X[i]?) = wr.map some) (hn : va_nd isR = true) (hdis : ∀ i ∈ isR, i ∉ isC)
    (kk : ∀ (r : Int32) (u : S) (H1 : Heap) (locs1 : List Loc), post r u → va_P g.1 vwCl ((wr ++ w1 u) ++ pl) H1 → va_D A0 ((wr ++ w1 u) ++ pl) → va_S A0 H0 H1 locs1 → W p l e R s m args below meth c H1 locs1 (cells + mc) (slots + ms) Q (F0 m (pc + 3) ls (.int r :: rest))) : W p l e R s m args below meth c H locs cells slots Q (F0 m pc ls st0) := by
  have hFc := va_free (wc := wc) hD hS hA isC hC2
  refine va_calli hr hS (fun q _ h => hFc q h) hFc (fun r u t H1 locs1 ht hvm hw hB hz1 hk1 hS1 => ?_)
  obtain ⟨hP1, hD1⟩ := hB
  rw [ht] at hP1
  obtain ⟨hP2, hD2⟩ := va_joinQ (wr := wr) (w1 := w1 u) hP hD isC isR hC hR hn hdis hk1 hFc hP1 hD1
  exact kk r u H1 locs1 hw hP2 hD2 hS1
end RW
-- a row's places
theorem row_in {cap : Nat} {f : Nat → Int32} {L : List Int32} {i : Int32} (h : rowR cap f L) (h0 : ¬ i < 0) (h1 : ¬ nI L.length ≤ i) : vp_in i cap := by
  obtain ⟨a, b, c, -⟩ := h
  rcases pk_ix i (n := L.length) (by omega) with q | q | ⟨j, hj, rfl⟩
  · exact absurd q h0
  · exact absurd q h1
  · exact vp_in_nI (by omega) (by omega)
theorem row_at {cap : Nat} {f : Nat → Int32} {L : List Int32} {i : Int32} (h : rowR cap f L) (h0 : ¬ i < 0) (h1 : ¬ nI L.length ≤ i) : f i.toNatClampNeg = L.getD i.toNatClampNeg 0 := by
  obtain ⟨a, b, c, d⟩ := h
  rcases pk_ix i (n := L.length) (by omega) with q | q | ⟨j, hj, rfl⟩
  · exact absurd q h0
  · exact absurd q h1
  · rw [nI_clamp (by omega)]; exact d j hj
end
section
section XA
variable {p : Program} {l : Launch} {e : Env} {R : Room} {s : State} {m : MethodId} {args : Array Value} {below : List Frame} {meth : Method} {c : Code} {H : Heap} {locs : List Loc} {cells slots : Nat} {Q : State → Prop}
variable {cc : ByteArray} {pc : Nat} {ls : Array Slot} {rest : List Value} {g : CX} {A : Nat → Prop} {ws : va_W} {H0 : Heap}
theorem xa_same {k : Nat} {cA : ClassId} {ty : FieldType} (hK : KK g s) (h1 : va_K g.1 vwCl (tyL g ++ [(cA, ty)]) s) (hk : (tyL g)[k]? = some (g.2 k, ty)) (hp : ∀ U cB, va_RA U cB ty → U.vm.findClass ("[" ++ ty.toString) = some cB) : cA = g.2 k := by
  have e1 := hp _ _ (h1.2 4 (cA, ty) rfl).2
  have e2 := hp _ _ (hK.1.2 k (g.2 k, ty) hk).2
  exact Option.some.inj (e1.symm.trans e2)
theorem xa_newi (hexec : p.tables.exec = Jvm.exec) (hb : c.code = cc) (harr : (Cond.arrayClass .int).before args s = true) (hK : KK g s) (hP : va_P g.1 vwCl ws H) (hD : va_D A ws) (hS : va_S A H0 H locs) (hA : ∀ q, H0.size ≤ q → A q)
    {n : Int32} {N' : Nat} (hn : n = nI N') (hN : N' ≤ 100000) (hcells : cells + 1 ≤ R.cells) (hslots : slots + N' ≤ R.slots) (hdg : decode cc pc = .ok (.newarray .int, 2))
    (kk : ∀ (q : Nat) (H1 : Heap), va_P g.1 vwCl (ws ++ [(q, .inl (g.2 0, N', .inl (fun _ => 0)))]) H1 → va_D A (ws ++ [(q, .inl (g.2 0, N', .inl (fun _ => 0)))]) → va_S A H0 H1 locs →
      W p l e R s m args below meth c H1 locs (cells + 1) (slots + N') Q (F0 m (pc + 2) ls (.ref q :: rest))) : W p l e R s m args below meth c H locs cells slots Q (F0 m pc ls (.int n :: rest)) := by
  subst hn
  refine va_newa (ty := .int) (a0 := (N', .inl (fun _ => 0))) hexec hb (atype := .int) harr rfl hK.1 hP hD hS hA (fun _ => rfl) (nI_pos (by omega)) (nI_clamp (by omega)) (by show N' * 4 ≤ _; omega) hcells hslots hdg (fun q cA H1 hK1 hP1 hD1 hS1 => ?_)
  have e : cA = g.2 0 := xa_same hK hK1 rfl (fun _ _ h => h)
  subst e
  exact kk q H1 hP1 hD1 hS1
theorem xa_newl (hexec : p.tables.exec = Jvm.exec) (hb : c.code = cc) (harr : (Cond.arrayClass .long).before args s = true) (hK : KK g s) (hP : va_P g.1 vwCl ws H) (hD : va_D A ws) (hS : va_S A H0 H locs) (hA : ∀ q, H0.size ≤ q → A q)
    {n : Int32} {N' : Nat} (hn : n = nI N') (hN : N' ≤ 100000) (hcells : cells + 1 ≤ R.cells) (hslots : slots + N' ≤ R.slots) (hdg : decode cc pc = .ok (.newarray .long, 2))
    (kk : ∀ (q : Nat) (H1 : Heap), va_P g.1 vwCl (ws ++ [(q, .inl (g.2 2, N', .inr (.inl (fun _ => 0))))]) H1 → va_D A (ws ++ [(q, .inl (g.2 2, N', .inr (.inl (fun _ => 0))))]) → va_S A H0 H1 locs →
      W p l e R s m args below meth c H1 locs (cells + 1) (slots + N') Q (F0 m (pc + 2) ls (.ref q :: rest))) : W p l e R s m args below meth c H locs cells slots Q (F0 m pc ls (.int n :: rest)) := by
  subst hn
  refine va_newa (ty := .long) (a0 := (N', .inr (.inl (fun _ => 0)))) hexec hb (atype := .long) harr rfl hK.1 hP hD hS hA (fun _ => rfl) (nI_pos (by omega)) (nI_clamp (by omega)) (by show N' * 8 ≤ _; omega) hcells hslots hdg (fun q cA H1 hK1 hP1 hD1 hS1 => ?_)
  have e : cA = g.2 2 := xa_same hK hK1 rfl (fun _ _ h => h)
  subst e
  exact kk q H1 hP1 hD1 hS1
theorem xa_newz (hexec : p.tables.exec = Jvm.exec) (hb : c.code = cc) (harr : (Cond.arrayClass .boolean).before args s = true) (hK : KK g s) (hP : va_P g.1 vwCl ws H) (hD : va_D A ws) (hS : va_S A H0 H locs) (hA : ∀ q, H0.size ≤ q → A q)
    {n : Int32} {N' : Nat} (hn : n = nI N') (hN : N' ≤ 100000) (hcells : cells + 1 ≤ R.cells) (hslots : slots + N' ≤ R.slots) (hdg : decode cc pc = .ok (.newarray .boolean, 2))
    (kk : ∀ (q : Nat) (H1 : Heap), va_P g.1 vwCl (ws ++ [(q, .inl (g.2 3, N', .inl (fun _ => 0)))]) H1 → va_D A (ws ++ [(q, .inl (g.2 3, N', .inl (fun _ => 0)))]) → va_S A H0 H1 locs →
      W p l e R s m args below meth c H1 locs (cells + 1) (slots + N') Q (F0 m (pc + 2) ls (.ref q :: rest))) : W p l e R s m args below meth c H locs cells slots Q (F0 m pc ls (.int n :: rest)) := by
  subst hn
  refine va_newa (ty := .boolean) (a0 := (N', .inl (fun _ => 0))) hexec hb (atype := .boolean) harr rfl hK.1 hP hD hS hA (fun _ => rfl) (nI_pos (by omega)) (nI_clamp (by omega)) (by show N' * 1 ≤ _; omega) hcells hslots hdg (fun q cA H1 hK1 hP1 hD1 hS1 => ?_)
  have e : cA = g.2 3 := xa_same hK hK1 rfl (fun _ _ h => h)
  subst e
  exact kk q H1 hP1 hD1 hS1
theorem xa_newq (hexec : p.tables.exec = Jvm.exec) (hb : c.code = cc) {own : String} {index : Nat} (hown : s.vm.findClass own = some m.cls) (hclink : (Cond.classLink own index "NodeMaker$Wall").before args s = true) (hK : KK g s) (hP : va_P g.1 vwCl ws H) (hD : va_D A ws) (hS : va_S A H0 H locs) (hA : ∀ q, H0.size ≤ q → A q)
    {n : Int32} {N' : Nat} (hn : n = nI N') (hN : N' ≤ 100000) (hcells : cells + 1 ≤ R.cells) (hslots : slots + N' ≤ R.slots) (hdg : decode cc pc = .ok (.anewarray index, 3))
    (kk : ∀ (q : Nat) (H1 : Heap), va_P g.1 vwCl (ws ++ [(q, .inl (g.2 1, N', .inr (.inr (.inr (.inr (fun _ => none))))))]) H1 → va_D A (ws ++ [(q, .inl (g.2 1, N', .inr (.inr (.inr (.inr (fun _ => none))))))]) → va_S A H0 H1 locs →
      W p l e R s m args below meth c H1 locs (cells + 1) (slots + N') Q (F0 m (pc + 3) ls (.ref q :: rest))) : W p l e R s m args below meth c H locs cells slots Q (F0 m pc ls (.int n :: rest)) := by
  subst hn
  refine va_newq hexec hb hown hclink hK.2.2.2.2.2.2.2.2.2.2.2.2.2.2 hK.1 hP hD hS hA (nI_pos (by omega)) (nI_clamp (by omega)) (by omega) hcells hslots hdg (fun q cA H1 hK1 hP1 hD1 hS1 => ?_)
  have e : cA = g.2 1 := xa_same hK hK1 rfl (fun _ _ h => h.choose_spec.choose_spec.2.2.2)
  subst e
  exact kk q H1 hP1 hD1 hS1
end XA
-- a row that grows
theorem lt4096 {n : Nat} (h : n < 2 ^ 31) : nI n < 4096 ↔ n < 4096 := nI_ltI (b := 4096) h (by decide)
def aCap (cap : Nat) (L : List Int32) : Nat := if 4096 ≤ L.length then cap else if L.length < cap then cap else 2 * cap
def rAdd (L : List Int32) (v : Int32) : List Int32 := if 4096 ≤ L.length then L else L ++ [v]
/-- what an add may take: slots (and cells, counted as roughly) -/
def aUse (cap : Nat) (L : List Int32) : Nat := 2 * aCap cap L - 2 * cap
theorem rowR_add {cap : Nat} {f f' : Nat → Int32} {L : List Int32} {v : Int32} (h : rowR cap f L) (h1 : L.length < 4096) (hf : ∀ j, j < L.length → f' j = f j) (hv : f' L.length = v) : rowR (aCap cap L) f' (rAdd L v) := by
  obtain ⟨a, b, c, d⟩ := h
  have e : rAdd L v = L ++ [v] := if_neg (by omega)
  have hc : aCap cap L = if L.length < cap then cap else 2 * cap := if_neg (by omega)
  rw [e]
  refine ⟨?_, ?_, ?_, fun j hj => ?_⟩
  · rw [hc, List.length_append, List.length_singleton]; unfold capOK at b; split <;> omega
  · rw [hc]; unfold capOK at b ⊢; split <;> omega
  · rw [hc]; unfold capOK at b; split <;> omega
  · rw [List.length_append, List.length_singleton] at hj
    by_cases q : j < L.length
    · rw [hf j q, d j q]
      simp [List.getD_eq_getElem?_getD, List.getElem?_append, q]
    · have : j = L.length := by omega
      subst this
      rw [hv]
      simp [List.getD_eq_getElem?_getD]
theorem aUse_le {cap : Nat} {f : Nat → Int32} {L : List Int32} (h : rowR cap f L) : aCap cap L ≤ 4096 ∧ cap ≤ aCap cap L := by
  obtain ⟨a, b, c, d⟩ := h
  unfold capOK at b
  unfold aCap
  split
  · omega
  · split <;> omega
end
section
theorem hd_R_count : yR_count.cls = "NodeMaker$Row" ∧ yR_count.cls ≠ "java/lang/invoke/MethodHandle" ∧ yR_count.cls ≠ "java/lang/invoke/VarHandle" ∧ (parseMethodDescriptor yR_count.desc).map (fun d => d.parameters.length) = some 0 := by decide +kernel
theorem hd_R_at : yR_at.cls = "NodeMaker$Row" ∧ yR_at.cls ≠ "java/lang/invoke/MethodHandle" ∧ yR_at.cls ≠ "java/lang/invoke/VarHandle" ∧ (parseMethodDescriptor yR_at.desc).map (fun d => d.parameters.length) = some 1 := by decide +kernel
theorem hd_R_set : yR_set.cls = "NodeMaker$Row" ∧ yR_set.cls ≠ "java/lang/invoke/MethodHandle" ∧ yR_set.cls ≠ "java/lang/invoke/VarHandle" ∧ (parseMethodDescriptor yR_set.desc).map (fun d => d.parameters.length) = some 2 := by decide +kernel
theorem hd_R_add : yR_add.cls = "NodeMaker$Row" ∧ yR_add.cls ≠ "java/lang/invoke/MethodHandle" ∧ yR_add.cls ≠ "java/lang/invoke/VarHandle" ∧ (parseMethodDescriptor yR_add.desc).map (fun d => d.parameters.length) = some 1 := by decide +kernel
theorem hd_R_shorten : yR_shorten.cls = "NodeMaker$Row" ∧ yR_shorten.cls ≠ "java/lang/invoke/MethodHandle" ∧ yR_shorten.cls ≠ "java/lang/invoke/VarHandle" ∧ (parseMethodDescriptor yR_shorten.desc).map (fun d => d.parameters.length) = some 1 := by decide +kernel
theorem hd_R_init : yR_init.cls ≠ "java/lang/invoke/MethodHandle" ∧ yR_init.cls ≠ "java/lang/invoke/VarHandle" ∧ (parseMethodDescriptor yR_init.desc).map (fun d => d.parameters.length) = some 0 := by decide +kernel
set_option maxHeartbeats 4000000 in
set_option maxRecDepth 100000 in
theorem cR_count (l : Launch) (g : CX) (a q cap : Nat) (f : Nat → Int32) (L : List Int32) : Met l yR_count (wm yR_count kR_count 1 (some .int)) ({ frames := 0, cells := 0, slots := 0, locals := 0 }) (ro g [.ref a] (va_P g.1 vwCl (rowW g a q cap f L.length))) (vp_Si (fun r => r = nI L.length)) 0 0 (fun _ => False) := by
  refine Met.ofW (cc := kR_count) (maxL := 1) (ret := (some .int)) (by decide) rfl ?_
  intro p e s m args below meth c s₁ B hml hv
  obtain ⟨rfl, hK, hP⟩ := hv
  have hx := B.exec
  have hb := B.bytes
  have hr := B.returns
  have ht : ∀ w ∈ wT, w.before _ s = true := fun w h => atoms_spec (ws := wm yR_count kR_count 1 (some .int)) B.pre w (List.mem_cons_of_mem _ h)
  have hown : s.vm.findClass "NodeMaker$Row" = some m.cls := findClass_of_methodNamed B.named
  have hlocks := B.notSynchronized
  have hl := lv_entry ([.ref a]) (n := 1) (Nat.le_of_ble_eq_true rfl)
  rw [lg_entry_eq]
  generalize (lg_sl ([.ref a]) ++ List.replicate (1 - (lg_sl ([.ref a])).length) Slot.unset).toArray = ls at hl ⊢
  have hl : lv_has ls 1 [(0, .ref a)] := hl
  refine lv_aload_n hx hb dR_count_0 rfl (lv_at hl 0 rfl) ?_
  refine va_get (D := g.1) (ci := 0) (v := .int (nI L.length)) (C := "NodeMaker$Row") (T := Fd_R) (N := 2) hx hb ht i_R hown hK.1 hP 0 rfl rfl 1 (by decide) (ht _ q_78) (fun _ h9 => h9) rfl dR_count_1 ?_
  exact W.iret hx hb hr (fun t ht9 hW => ⟨_, rfl, rfl, ht9⟩) (fun q h => by cases h) dR_count_4
set_option maxHeartbeats 4000000 in
set_option maxRecDepth 100000 in
theorem cR_at (l : Launch) (g : CX) (a q cap : Nat) (f : Nat → Int32) (L : List Int32) (hrow : rowR cap f L) (i : Int32) : Met l yR_at (wm yR_at kR_at 2 (some .int)) ({ frames := 0, cells := 0, slots := 0, locals := 0 }) (ro g [.ref a, .int i] (va_P g.1 vwCl (rowW g a q cap f L.length))) (vp_Si (fun r => r = rAt L i)) 0 0 (fun _ => False) := by
  refine Met.ofW (cc := kR_at) (maxL := 2) (ret := (some .int)) (by decide) rfl ?_
  intro p e s m args below meth c s₁ B hml hv
  obtain ⟨rfl, hK, hP⟩ := hv
  have hx := B.exec
  have hb := B.bytes
  have hr := B.returns
  have ht : ∀ w ∈ wT, w.before _ s = true := fun w h => atoms_spec (ws := wm yR_at kR_at 2 (some .int)) B.pre w (List.mem_cons_of_mem _ h)
  have hown : s.vm.findClass "NodeMaker$Row" = some m.cls := findClass_of_methodNamed B.named
  have hlocks := B.notSynchronized
  have hl := lv_entry ([.ref a, .int i]) (n := 2) (Nat.le_of_ble_eq_true rfl)
  rw [lg_entry_eq]
  generalize (lg_sl ([.ref a, .int i]) ++ List.replicate (2 - (lg_sl ([.ref a, .int i])).length) Slot.unset).toArray = ls at hl ⊢
  have hl : lv_has ls 2 [(0, .ref a), (1, .int i)] := hl
  refine lv_iload_n hx hb dR_at_0 rfl (lv_at hl 1 rfl) ?_
  refine lv_if_lt (tgt := 21) hx hb dR_at_1 (by decide) (fun c_1 => ?_) (fun c_1 => ?_)
  · skip
    refine lv_iconst (v := -1) hx hb dR_at_21 (by decide) ?_
    exact W.iret hx hb hr (fun t ht9 hW => ⟨_, rfl, by rw [rAt, if_pos c_1], ht9⟩) (fun q h => by cases h) dR_at_22
  · skip
    refine lv_iload_n hx hb dR_at_4 rfl (lv_at hl 1 rfl) ?_
    refine lv_aload_n hx hb dR_at_5 rfl (lv_at hl 0 rfl) ?_
    refine va_get (D := g.1) (ci := 0) (v := .int (nI L.length)) (C := "NodeMaker$Row") (T := Fd_R) (N := 2) hx hb ht i_R hown hK.1 hP 0 rfl rfl 1 (by decide) (ht _ q_78) (fun _ h9 => h9) rfl dR_at_6 ?_
    refine lv_icmp_ge (tgt := 21) hx hb dR_at_9 (by decide) (fun c_2 => ?_) (fun c_2 => ?_)
    · skip
      refine lv_iconst (v := -1) hx hb dR_at_21 (by decide) ?_
      exact W.iret hx hb hr (fun t ht9 hW => ⟨_, rfl, by rw [rAt, if_neg c_1, if_pos c_2], ht9⟩) (fun q h => by cases h) dR_at_22
    · skip
      refine lv_aload_n hx hb dR_at_12 rfl (lv_at hl 0 rfl) ?_
      refine va_get (D := g.1) (ci := 0) (v := .ref q) (C := "NodeMaker$Row") (T := Fd_R) (N := 2) hx hb ht i_R hown hK.1 hP 0 rfl rfl 0 (by decide) (ht _ q_77) (fun _ h9 => h9) rfl dR_at_13 ?_
      refine lv_iload_n hx hb dR_at_16 rfl (lv_at hl 1 rfl) ?_
      refine va_iald hx hb hK.1 hP 1 0 rfl rfl (row_in hrow c_1 c_2) dR_at_17 ?_
      refine lv_goto (tgt := 22) hx hb dR_at_18 (by decide) ?_
      exact W.iret hx hb hr (fun t ht9 hW => ⟨_, rfl, by rw [rAt, if_neg c_1, if_neg c_2]; exact row_at hrow c_1 c_2, ht9⟩) (fun q h => by cases h) dR_at_22
/-- a Row with a value set at a place; nothing outside -/
def rSet (L : List Int32) (i v : Int32) : List Int32 := if i < 0 then L else if nI L.length ≤ i then L else L.set i.toNatClampNeg v
theorem rSet_len (L : List Int32) (i v : Int32) : (rSet L i v).length = L.length := by
  unfold rSet
  split
  · rfl
  · split
    · rfl
    · exact List.length_set
theorem rowR_set {cap : Nat} {f : Nat → Int32} {L : List Int32} {i v : Int32} (h : rowR cap f L) (h0 : ¬ i < 0) (h1 : ¬ nI L.length ≤ i) : rowR cap (upd f i.toNatClampNeg v) (rSet L i v) := by
  obtain ⟨a, b, c, d⟩ := h
  refine ⟨by rw [rSet_len]; exact a, b, c, fun j hj => ?_⟩
  rw [rSet_len] at hj
  rw [rSet, if_neg h0, if_neg h1]
  rcases pk_ix i (n := L.length) (by omega) with q | q | ⟨k, hk, rfl⟩
  · exact absurd q h0
  · exact absurd q h1
  · rw [nI_clamp (by omega)]
    by_cases e : j = k
    · subst e
      rw [pk_us]
      simp [hj]
    · rw [pk_un e, d j hj]
      simp [List.getD_eq_getElem?_getD, List.getElem?_set, Ne.symm e]
set_option maxHeartbeats 4000000 in
set_option maxRecDepth 100000 in
theorem cR_set (l : Launch) (g : CX) (sz : Nat) (a q cap : Nat) (f : Nat → Int32) (L : List Int32) (hrow : rowR cap f L) (i v : Int32) : Met l yR_set (wm yR_set kR_set 3 none) ({ frames := 0, cells := 0, slots := 0, locals := 0 }) (rw g [.ref a, .int i, .int v] (rowW g a q cap f L.length) sz) (va_Qv (fun (u : Nat → Int32) => rowR cap u (rSet L i v)) (rB g (va_A (rowW g a q cap f L.length) sz) (fun u => (rowW g a q cap u (rSet L i v).length))) (va_A (rowW g a q cap f L.length) sz)) 0 0 (va_A (rowW g a q cap f L.length) sz) := by
  refine Met.ofW (cc := kR_set) (maxL := 3) (ret := none) (by decide) rfl ?_
  intro p e s m args below meth c s₁ B hml hv
  obtain ⟨rfl, hsz, hK, hP, hD0⟩ := hv
  have hx := B.exec
  have hb := B.bytes
  have hr := B.returns
  have ht : ∀ w ∈ wT, w.before _ s = true := fun w h => atoms_spec (ws := wm yR_set kR_set 3 none) B.pre w (List.mem_cons_of_mem _ h)
  have hown : s.vm.findClass "NodeMaker$Row" = some m.cls := findClass_of_methodNamed B.named
  have hlocks := B.notSynchronized
  subst hsz
  have hD := hD0.self (sz := s.heap.size)
  generalize hAe : va_A (rowW g a q cap f L.length) s.heap.size = A at hD ⊢
  have hA : ∀ q : Nat, s.heap.size ≤ q → A q := fun q h => by rw [← hAe]; exact Or.inr h
  have hS : va_S A s.heap s.heap [] := va_S.rf
  have hl := lv_entry ([.ref a, .int i, .int v]) (n := 3) (Nat.le_of_ble_eq_true rfl)
  rw [lg_entry_eq]
  generalize (lg_sl ([.ref a, .int i, .int v]) ++ List.replicate (3 - (lg_sl ([.ref a, .int i, .int v])).length) Slot.unset).toArray = ls at hl ⊢
  have hl : lv_has ls 3 [(0, .ref a), (1, .int i), (2, .int v)] := hl
  refine lv_iload_n hx hb dR_set_0 rfl (lv_at hl 1 rfl) ?_
  refine lv_if_lt (tgt := 19) hx hb dR_set_1 (by decide) (fun c_3 => ?_) (fun c_3 => ?_)
  · skip
    have hP9 : va_P g.1 vwCl (rowW g a q cap (f) (rSet L i v).length) s.heap := by rw [rSet_len]; exact hP
    have hD9 : va_D A (rowW g a q cap (f) (rSet L i v).length) := by rw [rSet_len]; exact hD
    exact W.vret hx hb hr (fun t ht9 hW => ⟨⟨f, rfl, by rw [rSet, if_pos c_3]; exact hrow, by rw [ht9]; exact hP9, hD9⟩, hS.F ht9⟩) hS.2.2 dR_set_19
  · skip
    refine lv_iload_n hx hb dR_set_4 rfl (lv_at hl 1 rfl) ?_
    refine lv_aload_n hx hb dR_set_5 rfl (lv_at hl 0 rfl) ?_
    refine va_get (D := g.1) (ci := 0) (v := .int (nI L.length)) (C := "NodeMaker$Row") (T := Fd_R) (N := 2) hx hb ht i_R hown hK.1 hP 0 rfl rfl 1 (by decide) (ht _ q_78) (fun _ h9 => h9) rfl dR_set_6 ?_
    refine lv_icmp_ge (tgt := 19) hx hb dR_set_9 (by decide) (fun c_4 => ?_) (fun c_4 => ?_)
    · skip
      have hP9 : va_P g.1 vwCl (rowW g a q cap (f) (rSet L i v).length) s.heap := by rw [rSet_len]; exact hP
      have hD9 : va_D A (rowW g a q cap (f) (rSet L i v).length) := by rw [rSet_len]; exact hD
      exact W.vret hx hb hr (fun t ht9 hW => ⟨⟨f, rfl, by rw [rSet, if_neg c_3, if_pos c_4]; exact hrow, by rw [ht9]; exact hP9, hD9⟩, hS.F ht9⟩) hS.2.2 dR_set_19
    · skip
      refine lv_aload_n hx hb dR_set_12 rfl (lv_at hl 0 rfl) ?_
      refine va_get (D := g.1) (ci := 0) (v := .ref q) (C := "NodeMaker$Row") (T := Fd_R) (N := 2) hx hb ht i_R hown hK.1 hP 0 rfl rfl 0 (by decide) (ht _ q_77) (fun _ h9 => h9) rfl dR_set_13 ?_
      refine lv_iload_n hx hb dR_set_16 rfl (lv_at hl 1 rfl) ?_
      refine lv_iload_n hx hb dR_set_17 rfl (lv_at hl 2 rfl) ?_
      refine va_iast hx hb hK.1 hP hD hS 1 0 rfl rfl (row_in hrow c_3 c_4) dR_set_18 (fun H locs hP hD hS => ?_)
      have hP : va_P g.1 vwCl [(a, .inr (0, [.ref q, .int (nI L.length)])), (q, .inl (g.2 0, cap, .inl (upd f i.toNatClampNeg v)))] H := hP
      have hD : va_D A [(a, .inr (0, [.ref q, .int (nI L.length)])), (q, .inl (g.2 0, cap, .inl (upd f i.toNatClampNeg v)))] := hD
      have hP9 : va_P g.1 vwCl (rowW g a q cap (upd f i.toNatClampNeg v) (rSet L i v).length) H := by rw [rSet_len]; exact hP
      have hD9 : va_D A (rowW g a q cap (upd f i.toNatClampNeg v) (rSet L i v).length) := by rw [rSet_len]; exact hD
      exact W.vret hx hb hr (fun t ht9 hW => ⟨⟨upd f i.toNatClampNeg v, rfl, rowR_set hrow c_3 c_4, by rw [ht9]; exact hP9, hD9⟩, hS.F ht9⟩) hS.2.2 dR_set_19
/-- a Row cut down to its first n -/
def rCut (L : List Int32) (n : Int32) : List Int32 := if n < 0 then L else if nI L.length ≤ n then L else L.take n.toNatClampNeg
theorem rCut_len {L : List Int32} {n : Int32} (hL : L.length < 2 ^ 31) (h0 : ¬ n < 0) (h1 : ¬ nI L.length ≤ n) : n = nI (rCut L n).length := by
  rw [rCut, if_neg h0, if_neg h1]
  rcases pk_ix n hL with q | q | ⟨k, hk, rfl⟩
  · exact absurd q h0
  · exact absurd q h1
  · rw [nI_clamp (by omega), List.length_take, Nat.min_eq_left (Nat.le_of_lt hk)]
theorem rowR_cut {cap : Nat} {f : Nat → Int32} {L : List Int32} (n : Int32) (h : rowR cap f L) : rowR cap f (rCut L n) := by
  obtain ⟨a, b, c, d⟩ := h
  unfold rCut
  split
  · exact ⟨a, b, c, d⟩
  split
  · exact ⟨a, b, c, d⟩
  · refine ⟨Nat.le_trans (by rw [List.length_take]; omega) a, b, c, fun j hj => ?_⟩
    rw [List.length_take] at hj
    rw [d j (by omega)]
    simp [List.getD_eq_getElem?_getD, List.getElem?_take, show j < n.toNatClampNeg by omega]
set_option maxHeartbeats 4000000 in
set_option maxRecDepth 100000 in
theorem cR_shorten (l : Launch) (g : CX) (sz : Nat) (a q cap : Nat) (f : Nat → Int32) (L : List Int32) (hrow : rowR cap f L) (i : Int32) : Met l yR_shorten (wm yR_shorten kR_shorten 2 none) ({ frames := 0, cells := 0, slots := 0, locals := 0 }) (rw g [.ref a, .int i] (rowW g a q cap f L.length) sz) (va_Qv (fun (_u : Unit) => rowR cap f (rCut L i)) (rB g (va_A (rowW g a q cap f L.length) sz) (fun _u => (rowW g a q cap f (rCut L i).length))) (va_A (rowW g a q cap f L.length) sz)) 0 0 (va_A (rowW g a q cap f L.length) sz) := by
  refine Met.ofW (cc := kR_shorten) (maxL := 2) (ret := none) (by decide) rfl ?_
  intro p e s m args below meth c s₁ B hml hv
  obtain ⟨rfl, hsz, hK, hP, hD0⟩ := hv
  have hx := B.exec
  have hb := B.bytes
  have hr := B.returns
  have ht : ∀ w ∈ wT, w.before _ s = true := fun w h => atoms_spec (ws := wm yR_shorten kR_shorten 2 none) B.pre w (List.mem_cons_of_mem _ h)
  have hown : s.vm.findClass "NodeMaker$Row" = some m.cls := findClass_of_methodNamed B.named
  have hlocks := B.notSynchronized
  subst hsz
  have hD := hD0.self (sz := s.heap.size)
  generalize hAe : va_A (rowW g a q cap f L.length) s.heap.size = A at hD ⊢
  have hA : ∀ q : Nat, s.heap.size ≤ q → A q := fun q h => by rw [← hAe]; exact Or.inr h
  have hS : va_S A s.heap s.heap [] := va_S.rf
  have hl := lv_entry ([.ref a, .int i]) (n := 2) (Nat.le_of_ble_eq_true rfl)
  rw [lg_entry_eq]
  generalize (lg_sl ([.ref a, .int i]) ++ List.replicate (2 - (lg_sl ([.ref a, .int i])).length) Slot.unset).toArray = ls at hl ⊢
  have hl : lv_has ls 2 [(0, .ref a), (1, .int i)] := hl
  refine lv_iload_n hx hb dR_shorten_0 rfl (lv_at hl 1 rfl) ?_
  refine lv_if_lt (tgt := 17) hx hb dR_shorten_1 (by decide) (fun c_5 => ?_) (fun c_5 => ?_)
  · skip
    have hP9 : va_P g.1 vwCl (rowW g a q cap f (rCut L i).length) s.heap := by rw [rCut, if_pos c_5]; exact hP
    have hD9 : va_D A (rowW g a q cap f (rCut L i).length) := by rw [rCut, if_pos c_5]; exact hD
    exact W.vret hx hb hr (fun t ht9 hW => ⟨⟨(), rfl, rowR_cut i hrow, by rw [ht9]; exact hP9, hD9⟩, hS.F ht9⟩) hS.2.2 dR_shorten_17
  · skip
    refine lv_iload_n hx hb dR_shorten_4 rfl (lv_at hl 1 rfl) ?_
    refine lv_aload_n hx hb dR_shorten_5 rfl (lv_at hl 0 rfl) ?_
    refine va_get (D := g.1) (ci := 0) (v := .int (nI L.length)) (C := "NodeMaker$Row") (T := Fd_R) (N := 2) hx hb ht i_R hown hK.1 hP 0 rfl rfl 1 (by decide) (ht _ q_78) (fun _ h9 => h9) rfl dR_shorten_6 ?_
    refine lv_icmp_ge (tgt := 17) hx hb dR_shorten_9 (by decide) (fun c_6 => ?_) (fun c_6 => ?_)
    · skip
      have hP9 : va_P g.1 vwCl (rowW g a q cap f (rCut L i).length) s.heap := by rw [rCut, if_neg c_5, if_pos c_6]; exact hP
      have hD9 : va_D A (rowW g a q cap f (rCut L i).length) := by rw [rCut, if_neg c_5, if_pos c_6]; exact hD
      exact W.vret hx hb hr (fun t ht9 hW => ⟨⟨(), rfl, rowR_cut i hrow, by rw [ht9]; exact hP9, hD9⟩, hS.F ht9⟩) hS.2.2 dR_shorten_17
    · skip
      refine lv_aload_n hx hb dR_shorten_12 rfl (lv_at hl 0 rfl) ?_
      refine lv_iload_n hx hb dR_shorten_13 rfl (lv_at hl 1 rfl) ?_
      refine va_put (D := g.1) (ci := 0) (v := .int i) (ty := .int) (C := "NodeMaker$Row") (T := Fd_R) (N := 2) hx hb ht i_R ty_R ty_R_ok nm_R hown hK.1 hP hD hS 0 rfl rfl 1 (by decide) (ht _ q_78) (fun _ h9 => h9) rfl (by decide +kernel) rfl rfl (Nat.le_of_ble_eq_true rfl) dR_shorten_14 (fun H locs hP hD hS => ?_)
      have hP : va_P g.1 vwCl [(a, .inr (0, [.ref q, .int i])), (q, .inl (g.2 0, cap, .inl f))] H := hP
      have hD : va_D A [(a, .inr (0, [.ref q, .int i])), (q, .inl (g.2 0, cap, .inl f))] := hD
      have hn := rCut_len (L := L) (n := i) (by have := hrow.1; have := hrow.2.2.1; omega) c_5 c_6
      have hP9 : va_P g.1 vwCl (rowW g a q cap f (rCut L i).length) H := by rw [rowW, ← hn]; exact hP
      have hD9 : va_D A (rowW g a q cap f (rCut L i).length) := by rw [rowW, ← hn]; exact hD
      exact W.vret hx hb hr (fun t ht9 hW => ⟨⟨(), rfl, rowR_cut i hrow, by rw [ht9]; exact hP9, hD9⟩, hS.F ht9⟩) hS.2.2 dR_shorten_17
end
section
theorem hd_A_copyOf : yA_copyOf.cls ≠ "java/lang/invoke/MethodHandle" ∧ yA_copyOf.cls ≠ "java/lang/invoke/VarHandle" ∧ (parseMethodDescriptor yA_copyOf.desc).map (fun d => d.parameters.length) = some 2 := by decide +kernel
set_option maxHeartbeats 4000000 in
set_option maxRecDepth 100000 in
theorem cA_copyOf (l : Launch) (g : CX) (sz : Nat) (a cap N : Nat) (f : Nat → Int32) (n : Int32) (hn : n = nI N) (h1 : cap < N) (h2 : N ≤ 8192) : Met l yA_copyOf (wm yA_copyOf kA_copyOf 3 (some (.array .int))) ({ frames := 1, cells := 1, slots := N, locals := 60 }) (rw g [.ref a, .int n] [(a, .inl (g.2 0, cap, .inl f))] sz) (va_Qr (fun (u : Nat → Int32) => (∀ j, j < cap → u j = f j)) (fun u x t => rB g (va_A [(a, .inl (g.2 0, cap, .inl f))] sz) (fun u => [(a, .inl (g.2 0, cap, .inl f)), (x, .inl (g.2 0, N, .inl u))]) u t) (va_A [(a, .inl (g.2 0, cap, .inl f))] sz)) 1 N (va_A [(a, .inl (g.2 0, cap, .inl f))] sz) := by
  refine Met.ofW (cc := kA_copyOf) (maxL := 3) (ret := (some (.array .int))) (by decide) rfl ?_
  intro p e s m args below meth c s₁ B hml hv
  obtain ⟨rfl, hsz, hK, hP, hD0⟩ := hv
  have hx := B.exec
  have hb := B.bytes
  have hr := B.returns
  have ht : ∀ w ∈ wT, w.before _ s = true := fun w h => atoms_spec (ws := wm yA_copyOf kA_copyOf 3 (some (.array .int))) B.pre w (List.mem_cons_of_mem _ h)
  have hown : s.vm.findClass "java/util/Arrays" = some m.cls := findClass_of_methodNamed B.named
  have hlocks := B.notSynchronized
  subst hsz
  have hD := hD0.self (sz := s.heap.size)
  generalize hAe : va_A [(a, .inl (g.2 0, cap, .inl f))] s.heap.size = A at hD ⊢
  have hA : ∀ q : Nat, s.heap.size ≤ q → A q := fun q h => by rw [← hAe]; exact Or.inr h
  have hS : va_S A s.heap s.heap [] := va_S.rf
  have hl := lv_entry ([.ref a, .int n]) (n := 3) (Nat.le_of_ble_eq_true rfl)
  rw [lg_entry_eq]
  generalize (lg_sl ([.ref a, .int n]) ++ List.replicate (3 - (lg_sl ([.ref a, .int n])).length) Slot.unset).toArray = ls at hl ⊢
  have hl : lv_has ls 3 [(0, .ref a), (1, .int n)] := hl
  refine lv_iload_n hx hb dA_copyOf_0 rfl (lv_at hl 1 rfl) ?_
  refine lv_aload_n hx hb dA_copyOf_1 rfl (lv_at hl 0 rfl) ?_
  refine va_alen hx hb hK.1 hP 0 0 rfl rfl (v := nI cap) rfl dA_copyOf_2 ?_
  refine lv_icmp_ne (tgt := 14) hx hb dA_copyOf_3 (by decide) (fun c_1 => ?_) (fun c_1 => ?_)
  · skip
    refine lv_iload_n hx hb dA_copyOf_14 rfl (lv_at hl 1 rfl) ?_
    refine xa_newi hx hb (ht _ q_84) hK hP hD hS hA (N' := N) hn (by omega) (Nat.le_of_ble_eq_true rfl) (by show 0 + N ≤ N; omega) dA_copyOf_15 (fun x H hP hD hS => ?_)
    have hP : va_P g.1 vwCl [(a, .inl (g.2 0, cap, .inl f)), (x, .inl (g.2 0, N, .inl (fun _ => 0)))] H := hP
    have hD : va_D A [(a, .inl (g.2 0, cap, .inl f)), (x, .inl (g.2 0, N, .inl (fun _ => 0)))] := hD
    refine lv_astore_n (lv' := [(2, .ref x), (0, .ref a), (1, .int n)]) hx hb dA_copyOf_17 rfl hl (by decide) rfl (fun ls hl => ?_)
    refine lv_aload_n hx hb dA_copyOf_18 rfl (lv_at hl 1 rfl) ?_
    refine lv_iconst (v := 0) hx hb dA_copyOf_19 (by decide) ?_
    refine lv_aload_n hx hb dA_copyOf_20 rfl (lv_at hl 0 rfl) ?_
    refine lv_iconst (v := 0) hx hb dA_copyOf_21 (by decide) ?_
    refine lv_aload_n hx hb dA_copyOf_22 rfl (lv_at hl 1 rfl) ?_
    refine va_alen hx hb hK.1 hP 0 0 rfl rfl (v := nI cap) rfl dA_copyOf_23 ?_
    refine lv_iload_n hx hb dA_copyOf_24 rfl (lv_at hl 2 rfl) ?_
    refine va_mmin hx hb (by rw [hml]; exact hl.1.symm) hown (ht _ q_292) (ht _ q_219) (ht _ q_39) (ht _ q_220) (Nat.le_of_ble_eq_true rfl) (Nat.le_of_ble_eq_true rfl) (Nat.le_refl _) (by show 0 + N ≤ N; omega) dA_copyOf_25 ?_
    have hmin : (if n < nI cap then n else nI cap) = nI cap := if_neg (by rw [hn]; exact nI_nlt (by omega) (by omega))
    rw [hmin]
    refine va_copyi hx hb (by rw [hml]; exact hl.1.symm) hown (ht _ q_293) (ht _ q_natCopy) (ht _ q_294) (ht _ q_41) hK.1 hP hD hS 0 1 0 0 rfl rfl rfl rfl rfl (by decide) (by decide) (nI_pos (by omega)) (by rw [nI_clamp (by omega)]; exact Nat.le_of_eq (Nat.zero_add _)) (by rw [nI_clamp (by omega)]; show 0 + cap ≤ N; omega) (fun _ _ => rfl) (Nat.le_of_ble_eq_true rfl) (by show _ ≤ 60; decide) dA_copyOf_28 (fun H locs hP hD hS => ?_)
    have hP : va_P g.1 vwCl [(a, .inl (g.2 0, cap, .inl f)), (x, .inl (g.2 0, N, .inl (va_cpy f (fun _ => 0) (0 : Int32).toNatClampNeg (0 : Int32).toNatClampNeg (nI cap).toNatClampNeg)))] H := hP
    have hD : va_D A [(a, .inl (g.2 0, cap, .inl f)), (x, .inl (g.2 0, N, .inl (va_cpy f (fun _ => 0) (0 : Int32).toNatClampNeg (0 : Int32).toNatClampNeg (nI cap).toNatClampNeg)))] := hD
    refine lv_aload_n hx hb dA_copyOf_31 rfl (lv_at hl 0 rfl) ?_
    refine W.widen (k := 1) (n := N) (Nat.le_refl _) (by show 0 + N ≤ N; omega) ?_
    have hcp : ∀ j, j < cap → (va_cpy f (fun _ => 0) (0 : Int32).toNatClampNeg (0 : Int32).toNatClampNeg (nI cap).toNatClampNeg) j = f j := fun j hj => by rw [nI_clamp (by omega)]; exact (pk_cpy_in (Nat.zero_le _) (by show j < 0 + cap; omega)).trans (by show f (0 + (j - 0)) = f j; congr 1; omega)
    exact W.aret hx hb hr (Or.inr ⟨_, rfl⟩) (Or.inr ⟨_, rfl⟩) (fun t ht9 hW => ⟨⟨_, x, rfl, hcp, by rw [ht9]; exact hP, hD⟩, hS.F ht9⟩) hS.2.2 dA_copyOf_32
  · skip
    exact absurd ((nI_eq (by omega) (by omega)).mp (hn.symm.trans c_1)) (by omega)
theorem rAdd_len {L : List Int32} {v : Int32} (h : L.length < 4096) : (rAdd L v).length = L.length + 1 := by rw [rAdd, if_neg (by omega), List.length_append, List.length_singleton]
set_option maxHeartbeats 4000000 in
set_option maxRecDepth 100000 in
theorem cR_add (l : Launch) (g : CX) (sz : Nat) (a q cap : Nat) (f : Nat → Int32) (L : List Int32) (hrow : rowR cap f L) (v : Int32) : Met l yR_add (wm yR_add kR_add 2 none) ({ frames := 2, cells := (aUse cap L), slots := (aUse cap L), locals := 82 }) (rw g [.ref a, .int v] (rowW g a q cap f L.length) sz) (va_Qv (fun (u : Nat × (Nat → Int32)) => rowR (aCap cap L) u.2 (rAdd L v)) (rB g (va_A (rowW g a q cap f L.length) sz) (fun u => (rowW g a u.1 (aCap cap L) u.2 (rAdd L v).length))) (va_A (rowW g a q cap f L.length) sz)) (aUse cap L) (aUse cap L) (va_A (rowW g a q cap f L.length) sz) := by
  refine Met.ofW (cc := kR_add) (maxL := 2) (ret := none) (by decide) rfl ?_
  intro p e s m args below meth c s₁ B hml hv
  obtain ⟨rfl, hsz, hK, hP, hD0⟩ := hv
  have hx := B.exec
  have hb := B.bytes
  have hr := B.returns
  have ht : ∀ w ∈ wT, w.before _ s = true := fun w h => atoms_spec (ws := wm yR_add kR_add 2 none) B.pre w (List.mem_cons_of_mem _ h)
  have hown : s.vm.findClass "NodeMaker$Row" = some m.cls := findClass_of_methodNamed B.named
  have hlocks := B.notSynchronized
  subst hsz
  have hD := hD0.self (sz := s.heap.size)
  generalize hAe : va_A (rowW g a q cap f L.length) s.heap.size = A at hD ⊢
  have hA : ∀ q : Nat, s.heap.size ≤ q → A q := fun q h => by rw [← hAe]; exact Or.inr h
  have hS : va_S A s.heap s.heap [] := va_S.rf
  have hl := lv_entry ([.ref a, .int v]) (n := 2) (Nat.le_of_ble_eq_true rfl)
  rw [lg_entry_eq]
  generalize (lg_sl ([.ref a, .int v]) ++ List.replicate (2 - (lg_sl ([.ref a, .int v])).length) Slot.unset).toArray = ls at hl ⊢
  have hl : lv_has ls 2 [(0, .ref a), (1, .int v)] := hl
  have hb1 : L.length < 2 ^ 31 := by have := hrow.1; have := hrow.2.2.1; omega
  have hcap : cap < 2 ^ 31 := by have := hrow.2.2.1; omega
  refine lv_aload_n hx hb dR_add_0 rfl (lv_at hl 0 rfl) ?_
  refine va_get (D := g.1) (ci := 0) (v := .int (nI L.length)) (C := "NodeMaker$Row") (T := Fd_R) (N := 2) hx hb ht i_R hown hK.1 hP 0 rfl rfl 1 (by decide) (ht _ q_78) (fun _ h9 => h9) rfl dR_add_1 ?_
  refine lv_sipush (v := 4096) hx hb dR_add_4 (by decide) ?_
  refine lv_icmp_lt (tgt := 11) hx hb dR_add_7 (by decide) (fun c_2 => ?_) (fun c_2 => ?_)
  · skip
    refine lv_aload_n hx hb dR_add_11 rfl (lv_at hl 0 rfl) ?_
    refine va_get (D := g.1) (ci := 0) (v := .int (nI L.length)) (C := "NodeMaker$Row") (T := Fd_R) (N := 2) hx hb ht i_R hown hK.1 hP 0 rfl rfl 1 (by decide) (ht _ q_78) (fun _ h9 => h9) rfl dR_add_12 ?_
    refine lv_aload_n hx hb dR_add_15 rfl (lv_at hl 0 rfl) ?_
    refine va_get (D := g.1) (ci := 0) (v := .ref q) (C := "NodeMaker$Row") (T := Fd_R) (N := 2) hx hb ht i_R hown hK.1 hP 0 rfl rfl 0 (by decide) (ht _ q_77) (fun _ h9 => h9) rfl dR_add_16 ?_
    refine va_alen hx hb hK.1 hP 1 0 rfl rfl (v := nI cap) rfl dR_add_19 ?_
    refine lv_icmp_lt (tgt := 41) hx hb dR_add_20 (by decide) (fun c_3 => ?_) (fun c_3 => ?_)
    · skip
      have h1 : L.length < 4096 := (lt4096 hb1).mp c_2
      have h2 : L.length < cap := (nI_ltI hb1 hcap).mp c_3
      have e1 : aCap cap L = cap := by rw [aCap, if_neg (by omega), if_pos h2]
      refine lv_aload_n hx hb dR_add_41 rfl (lv_at hl 0 rfl) ?_
      refine va_get (D := g.1) (ci := 0) (v := .ref q) (C := "NodeMaker$Row") (T := Fd_R) (N := 2) hx hb ht i_R hown hK.1 hP 0 rfl rfl 0 (by decide) (ht _ q_77) (fun _ h9 => h9) rfl dR_add_42 ?_
      refine lv_aload_n hx hb dR_add_45 rfl (lv_at hl 0 rfl) ?_
      refine va_get (D := g.1) (ci := 0) (v := .int (nI L.length)) (C := "NodeMaker$Row") (T := Fd_R) (N := 2) hx hb ht i_R hown hK.1 hP 0 rfl rfl 1 (by decide) (ht _ q_78) (fun _ h9 => h9) rfl dR_add_46 ?_
      refine lv_iload_n hx hb dR_add_49 rfl (lv_at hl 1 rfl) ?_
      refine va_iast hx hb hK.1 hP hD hS 1 0 rfl rfl (vp_in_nI (by omega) (by omega)) dR_add_50 (fun H locs hP hD hS => ?_)
      have hP : va_P g.1 vwCl [(a, .inr (0, [.ref q, .int (nI L.length)])), (q, .inl (g.2 0, cap, .inl (upd f (nI L.length).toNatClampNeg v)))] H := hP
      have hD : va_D A [(a, .inr (0, [.ref q, .int (nI L.length)])), (q, .inl (g.2 0, cap, .inl (upd f (nI L.length).toNatClampNeg v)))] := hD
      refine lv_aload_n hx hb dR_add_51 rfl (lv_at hl 0 rfl) ?_
      refine lv_dup hx hb dR_add_52 rfl ?_
      refine va_get (D := g.1) (ci := 0) (v := .int (nI L.length)) (C := "NodeMaker$Row") (T := Fd_R) (N := 2) hx hb ht i_R hown hK.1 hP 0 rfl rfl 1 (by decide) (ht _ q_78) (fun _ h9 => h9) rfl dR_add_53 ?_
      refine lv_iconst (v := 1) hx hb dR_add_56 (by decide) ?_
      refine lv_iadd hx hb dR_add_57 ?_
      refine va_put (D := g.1) (ci := 0) (v := .int ((nI L.length) + 1)) (ty := .int) (C := "NodeMaker$Row") (T := Fd_R) (N := 2) hx hb ht i_R ty_R ty_R_ok nm_R hown hK.1 hP hD hS 0 rfl rfl 1 (by decide) (ht _ q_78) (fun _ h9 => h9) rfl (by decide +kernel) rfl rfl (Nat.le_of_ble_eq_true rfl) dR_add_58 (fun H locs hP hD hS => ?_)
      have hP : va_P g.1 vwCl [(a, .inr (0, [.ref q, .int ((nI L.length) + 1)])), (q, .inl (g.2 0, cap, .inl (upd f (nI L.length).toNatClampNeg v)))] H := hP
      have hD : va_D A [(a, .inr (0, [.ref q, .int ((nI L.length) + 1)])), (q, .inl (g.2 0, cap, .inl (upd f (nI L.length).toNatClampNeg v)))] := hD
      have e2 : nI L.length + 1 = nI (rAdd L v).length := by rw [rAdd_len h1]; exact nI_1 _
      have hP9 : va_P g.1 vwCl (rowW g a q (aCap cap L) (upd f (nI L.length).toNatClampNeg v) (rAdd L v).length) H := by rw [e1, rowW, ← e2]; exact hP
      have hD9 : va_D A (rowW g a q (aCap cap L) (upd f (nI L.length).toNatClampNeg v) (rAdd L v).length) := by rw [e1, rowW, ← e2]; exact hD
      refine W.widen (k := aUse cap L) (n := aUse cap L) (Nat.zero_le _) (Nat.zero_le _) ?_
      exact W.vret hx hb hr (fun t ht9 hW => ⟨⟨(q, upd f (nI L.length).toNatClampNeg v), rfl, rowR_add hrow h1 (fun j hj => by rw [nI_clamp hb1]; exact pk_un (by omega)) (by rw [nI_clamp hb1]; exact pk_us), by rw [ht9]; exact hP9, hD9⟩, hS.F ht9⟩) hS.2.2 dR_add_61
    · skip
      have h1 : L.length < 4096 := (lt4096 hb1).mp c_2
      have h2 : ¬ L.length < cap := fun h => c_3 ((nI_ltI hb1 hcap).mpr h)
      have hc0 := hrow.1
      have hcb : cap ≤ 2048 := by have h := hrow.2.1; unfold capOK at h; omega
      have hc1 : 64 ≤ cap := by have h := hrow.2.1; unfold capOK at h; omega
      have e1 : aCap cap L = 2 * cap := by rw [aCap, if_neg (by omega), if_neg h2]
      have e3 : aUse cap L = 2 * cap := by rw [aUse, e1]; omega
      refine lv_aload_n hx hb dR_add_23 rfl (lv_at hl 0 rfl) ?_
      refine lv_aload_n hx hb dR_add_24 rfl (lv_at hl 0 rfl) ?_
      refine va_get (D := g.1) (ci := 0) (v := .ref q) (C := "NodeMaker$Row") (T := Fd_R) (N := 2) hx hb ht i_R hown hK.1 hP 0 rfl rfl 0 (by decide) (ht _ q_77) (fun _ h9 => h9) rfl dR_add_25 ?_
      refine lv_iconst (v := 2) hx hb dR_add_28 (by decide) ?_
      refine lv_aload_n hx hb dR_add_29 rfl (lv_at hl 0 rfl) ?_
      refine va_get (D := g.1) (ci := 0) (v := .ref q) (C := "NodeMaker$Row") (T := Fd_R) (N := 2) hx hb ht i_R hown hK.1 hP 0 rfl rfl 0 (by decide) (ht _ q_77) (fun _ h9 => h9) rfl dR_add_30 ?_
      refine va_alen hx hb hK.1 hP 1 0 rfl rfl (v := nI cap) rfl dR_add_33 ?_
      refine lv_imul hx hb dR_add_34 ?_
      have hPc := hP.sub (ws' := [(q, .inl (g.2 0, cap, .inl f))]) [1] rfl
      have hDc := hD.sub (ws' := [(q, .inl (g.2 0, cap, .inl f))]) [1] (by decide) rfl
      refine rw_r (wr := [(a, .inr (0, [.ref q, .int (nI L.length)]))]) (va_runS (As := [.ref q, .int (2 * nI cap)]) (rest := [.ref a]) ⟨hx, hb, hml, hown, ht⟩ (cA_copyOf l g s.heap.size q cap (2 * cap) f (2 * nI cap) (pk_mul 2 cap) (by omega) (by omega)) ⟨callB_of 2 ht (g_all q_284) rfl rfl rfl (ht _ q_40) (ht _ q_282) hd_A_copyOf ⟨Nat.le_of_ble_eq_true rfl, Nat.le_of_ble_eq_true rfl⟩, ht _ q_283⟩ (rw_S hK hPc hDc) rfl rfl hl.1 rfl (lv_room (Nat.le_of_ble_eq_true rfl)) dR_add_35 ⟨by show 0 + 1 ≤ aUse cap L; omega, by show 0 + 2 * cap ≤ aUse cap L; omega⟩) hP hD hS hA [1] [0] rfl rfl (by decide) (by decide) (fun f2 x H locs hw hP hD hS => ?_)
      have hP : va_P g.1 vwCl [(a, .inr (0, [.ref q, .int (nI L.length)])), (q, .inl (g.2 0, cap, .inl f)), (x, .inl (g.2 0, 2 * cap, .inl f2))] H := hP
      have hD : va_D A [(a, .inr (0, [.ref q, .int (nI L.length)])), (q, .inl (g.2 0, cap, .inl f)), (x, .inl (g.2 0, 2 * cap, .inl f2))] := hD
      refine va_put (D := g.1) (ci := 0) (v := .ref x) (ty := (.array .int)) (C := "NodeMaker$Row") (T := Fd_R) (N := 2) hx hb ht i_R ty_R ty_R_ok nm_R hown hK.1 hP hD hS 0 rfl rfl 0 (by decide) (ht _ q_77) (fun _ h9 => h9) rfl (by decide +kernel) rfl rfl (Nat.le_of_ble_eq_true rfl) dR_add_38 (fun H locs hP hD hS => ?_)
      have hP : va_P g.1 vwCl [(a, .inr (0, [.ref x, .int (nI L.length)])), (q, .inl (g.2 0, cap, .inl f)), (x, .inl (g.2 0, 2 * cap, .inl f2))] H := hP
      have hD : va_D A [(a, .inr (0, [.ref x, .int (nI L.length)])), (q, .inl (g.2 0, cap, .inl f)), (x, .inl (g.2 0, 2 * cap, .inl f2))] := hD
      refine lv_aload_n hx hb dR_add_41 rfl (lv_at hl 0 rfl) ?_
      refine va_get (D := g.1) (ci := 0) (v := .ref x) (C := "NodeMaker$Row") (T := Fd_R) (N := 2) hx hb ht i_R hown hK.1 hP 0 rfl rfl 0 (by decide) (ht _ q_77) (fun _ h9 => h9) rfl dR_add_42 ?_
      refine lv_aload_n hx hb dR_add_45 rfl (lv_at hl 0 rfl) ?_
      refine va_get (D := g.1) (ci := 0) (v := .int (nI L.length)) (C := "NodeMaker$Row") (T := Fd_R) (N := 2) hx hb ht i_R hown hK.1 hP 0 rfl rfl 1 (by decide) (ht _ q_78) (fun _ h9 => h9) rfl dR_add_46 ?_
      refine lv_iload_n hx hb dR_add_49 rfl (lv_at hl 1 rfl) ?_
      refine va_iast hx hb hK.1 hP hD hS 2 0 rfl rfl (vp_in_nI (by omega) (by omega)) dR_add_50 (fun H locs hP hD hS => ?_)
      have hP : va_P g.1 vwCl [(a, .inr (0, [.ref x, .int (nI L.length)])), (q, .inl (g.2 0, cap, .inl f)), (x, .inl (g.2 0, 2 * cap, .inl (upd f2 (nI L.length).toNatClampNeg v)))] H := hP
      have hD : va_D A [(a, .inr (0, [.ref x, .int (nI L.length)])), (q, .inl (g.2 0, cap, .inl f)), (x, .inl (g.2 0, 2 * cap, .inl (upd f2 (nI L.length).toNatClampNeg v)))] := hD
      refine lv_aload_n hx hb dR_add_51 rfl (lv_at hl 0 rfl) ?_
      refine lv_dup hx hb dR_add_52 rfl ?_
      refine va_get (D := g.1) (ci := 0) (v := .int (nI L.length)) (C := "NodeMaker$Row") (T := Fd_R) (N := 2) hx hb ht i_R hown hK.1 hP 0 rfl rfl 1 (by decide) (ht _ q_78) (fun _ h9 => h9) rfl dR_add_53 ?_
      refine lv_iconst (v := 1) hx hb dR_add_56 (by decide) ?_
      refine lv_iadd hx hb dR_add_57 ?_
      refine va_put (D := g.1) (ci := 0) (v := .int ((nI L.length) + 1)) (ty := .int) (C := "NodeMaker$Row") (T := Fd_R) (N := 2) hx hb ht i_R ty_R ty_R_ok nm_R hown hK.1 hP hD hS 0 rfl rfl 1 (by decide) (ht _ q_78) (fun _ h9 => h9) rfl (by decide +kernel) rfl rfl (Nat.le_of_ble_eq_true rfl) dR_add_58 (fun H locs hP hD hS => ?_)
      have hP : va_P g.1 vwCl [(a, .inr (0, [.ref x, .int ((nI L.length) + 1)])), (q, .inl (g.2 0, cap, .inl f)), (x, .inl (g.2 0, 2 * cap, .inl (upd f2 (nI L.length).toNatClampNeg v)))] H := hP
      have hD : va_D A [(a, .inr (0, [.ref x, .int ((nI L.length) + 1)])), (q, .inl (g.2 0, cap, .inl f)), (x, .inl (g.2 0, 2 * cap, .inl (upd f2 (nI L.length).toNatClampNeg v)))] := hD
      have e2 : nI L.length + 1 = nI (rAdd L v).length := by rw [rAdd_len h1]; exact nI_1 _
      have hP8 := hP.sub (ws' := [(a, .inr (0, [.ref x, .int ((nI L.length) + 1)])), (x, .inl (g.2 0, 2 * cap, .inl (upd f2 (nI L.length).toNatClampNeg v)))]) [0, 2] rfl
      have hD8 := hD.sub (ws' := [(a, .inr (0, [.ref x, .int ((nI L.length) + 1)])), (x, .inl (g.2 0, 2 * cap, .inl (upd f2 (nI L.length).toNatClampNeg v)))]) [0, 2] (by decide) rfl
      have hP9 : va_P g.1 vwCl (rowW g a x (aCap cap L) (upd f2 (nI L.length).toNatClampNeg v) (rAdd L v).length) H := by rw [e1, rowW, ← e2]; exact hP8
      have hD9 : va_D A (rowW g a x (aCap cap L) (upd f2 (nI L.length).toNatClampNeg v) (rAdd L v).length) := by rw [e1, rowW, ← e2]; exact hD8
      refine W.widen (k := aUse cap L) (n := aUse cap L) (by omega) (by omega) ?_
      exact W.vret hx hb hr (fun t ht9 hW => ⟨⟨(x, upd f2 (nI L.length).toNatClampNeg v), rfl, rowR_add hrow h1 (fun j hj => by rw [nI_clamp hb1]; exact (pk_un (by omega)).trans (hw j (by omega))) (by rw [nI_clamp hb1]; exact pk_us), by rw [ht9]; exact hP9, hD9⟩, hS.F ht9⟩) hS.2.2 dR_add_61
  · skip
    have hF : 4096 ≤ L.length := by rcases Nat.lt_or_ge L.length 4096 with h | h; exact absurd ((lt4096 hb1).mpr h) c_2; exact h
    have e1 : aCap cap L = cap := if_pos hF
    have e2 : rAdd L v = L := if_pos hF
    have hP9 : va_P g.1 vwCl (rowW g a q (aCap cap L) f (rAdd L v).length) s.heap := by rw [e1, e2]; exact hP
    have hD9 : va_D A (rowW g a q (aCap cap L) f (rAdd L v).length) := by rw [e1, e2]; exact hD
    refine W.widen (k := aUse cap L) (n := aUse cap L) (Nat.zero_le _) (Nat.zero_le _) ?_
    exact W.vret hx hb hr (fun t ht9 hW => ⟨⟨(q, f), rfl, by rw [e1, e2]; exact hrow, by rw [ht9]; exact hP9, hD9⟩, hS.F ht9⟩) hS.2.2 dR_add_10
end
section
set_option maxHeartbeats 4000000 in
set_option maxRecDepth 100000 in
theorem cR_init (l : Launch) (g : CX) (sz : Nat) (a : Nat) : Met l yR_init (wm yR_init kR_init 1 none) ({ frames := 1, cells := 1, slots := 64, locals := 12 }) (rw g [.ref a] [(a, .inr (0, [.null, .int 0]))] sz) (va_Qv (fun (u : Nat) => True) (rB g (va_A [(a, .inr (0, [.null, .int 0]))] sz) (fun u => (rowW g a u 64 (fun _ => 0) 0))) (va_A [(a, .inr (0, [.null, .int 0]))] sz)) 1 64 (va_A [(a, .inr (0, [.null, .int 0]))] sz) := by
  refine Met.ofW (cc := kR_init) (maxL := 1) (ret := none) (by decide) rfl ?_
  intro p e s m args below meth c s₁ B hml hv
  obtain ⟨rfl, hsz, hK, hP, hD0⟩ := hv
  have hx := B.exec
  have hb := B.bytes
  have hr := B.returns
  have ht : ∀ w ∈ wT, w.before _ s = true := fun w h => atoms_spec (ws := wm yR_init kR_init 1 none) B.pre w (List.mem_cons_of_mem _ h)
  have hown : s.vm.findClass "NodeMaker$Row" = some m.cls := findClass_of_methodNamed B.named
  have hlocks := B.notSynchronized
  have hin : meth.name = "<init>" := (name_of_methodNamed B.named B.method).1
  subst hsz
  have hD := hD0.self (sz := s.heap.size)
  generalize hAe : va_A [(a, .inr (0, [.null, .int 0]))] s.heap.size = A at hD ⊢
  have hA : ∀ q : Nat, s.heap.size ≤ q → A q := fun q h => by rw [← hAe]; exact Or.inr h
  have hS : va_S A s.heap s.heap [] := va_S.rf
  have hl := lv_entry ([.ref a]) (n := 1) (Nat.le_of_ble_eq_true rfl)
  rw [lg_entry_eq]
  generalize (lg_sl ([.ref a]) ++ List.replicate (1 - (lg_sl ([.ref a])).length) Slot.unset).toArray = ls at hl ⊢
  have hl : lv_has ls 1 [(0, .ref a)] := hl
  refine lv_aload_n hx hb dR_init_0 rfl (lv_at hl 0 rfl) ?_
  refine W.objInit hx hb hown (ht _ q_76) (ht _ q_48) (ht _ q_49) rfl (by rw [hml]; exact hl.1) rfl dR_init_1 (Nat.le_of_ble_eq_true rfl) (Nat.le_of_ble_eq_true rfl) ?_
  refine W.eq (g2 := F0 m 4 ls []) rfl ?_
  refine lv_aload_n hx hb dR_init_4 rfl (lv_at hl 0 rfl) ?_
  refine lv_bipush (v := 64) hx hb dR_init_5 (by decide) ?_
  refine xa_newi hx hb (ht _ q_84) hK hP hD hS hA (N' := 64) rfl (by decide) (by show 0 + 1 ≤ 1; omega) (by show 0 + 64 ≤ 64; omega) dR_init_7 (fun q_1 H hP hD hS => ?_)
  have hP : va_P g.1 vwCl [(a, .inr (0, [.null, .int 0])), (q_1, .inl (g.2 0, 64, .inl (fun _ => 0)))] H := hP
  have hD : va_D A [(a, .inr (0, [.null, .int 0])), (q_1, .inl (g.2 0, 64, .inl (fun _ => 0)))] := hD
  refine va_put (D := g.1) (ci := 0) (v := .ref q_1) (ty := (.array .int)) (C := "NodeMaker$Row") (T := Fd_R) (N := 2) hx hb ht i_R ty_R ty_R_ok nm_R hown hK.1 hP hD hS 0 rfl rfl 0 (by decide) (ht _ q_77) (fun _ h9 => h9) rfl (by decide +kernel) rfl rfl (Nat.le_of_ble_eq_true rfl) dR_init_9 (fun H locs hP hD hS => ?_)
  have hP : va_P g.1 vwCl [(a, .inr (0, [.ref q_1, .int 0])), (q_1, .inl (g.2 0, 64, .inl (fun _ => 0)))] H := hP
  have hD : va_D A [(a, .inr (0, [.ref q_1, .int 0])), (q_1, .inl (g.2 0, 64, .inl (fun _ => 0)))] := hD
  exact W.vret hx hb hr (fun t ht9 hW => ⟨⟨q_1, rfl, trivial, by rw [ht9]; exact hP, hD⟩, hS.F ht9⟩) hS.2.2 dR_init_12
/-- three of a kind -/
def t3 {α : Type} (a b c : α) : Nat → α := fun k => match k with
  | 0 => a
  | 1 => b
  | _ => c
/-- the cells of a list of pieces at a, its three rows at r, their arrays at q -/
abbrev piW (g : CX) (a : Nat) (r q cap : Nat → Nat) (f : Nat → Nat → Int32) (n : Nat → Nat) : va_W := [(a, .inr (1, [.ref (r 0), .ref (r 1), .ref (r 2)])), (r 0, .inr (0, [.ref (q 0), .int (nI (n 0))])), (q 0, .inl (g.2 0, cap 0, .inl (f 0))), (r 1, .inr (0, [.ref (q 1), .int (nI (n 1))])), (q 1, .inl (g.2 0, cap 1, .inl (f 1))), (r 2, .inr (0, [.ref (q 2), .int (nI (n 2))])), (q 2, .inl (g.2 0, cap 2, .inl (f 2)))]
def rows3 (cap : Nat → Nat) (f : Nat → Nat → Int32) (L : Nat → List Int32) : Prop := ∀ k, k < 3 → rowR (cap k) (f k) (L k)
theorem rows3_of {cap : Nat → Nat} {f : Nat → Nat → Int32} {L : Nat → List Int32} (h0 : rowR (cap 0) (f 0) (L 0)) (h1 : rowR (cap 1) (f 1) (L 1)) (h2 : rowR (cap 2) (f 2) (L 2)) : rows3 cap f L := fun k hk => by
  match k, hk with
  | 0, _ => exact h0
  | 1, _ => exact h1
  | 2, _ => exact h2
theorem hd_P_count : yP_count.cls = "NodeMaker$Pieces" ∧ yP_count.cls ≠ "java/lang/invoke/MethodHandle" ∧ yP_count.cls ≠ "java/lang/invoke/VarHandle" ∧ (parseMethodDescriptor yP_count.desc).map (fun d => d.parameters.length) = some 0 := by decide +kernel
theorem hd_P_wallAt : yP_wallAt.cls = "NodeMaker$Pieces" ∧ yP_wallAt.cls ≠ "java/lang/invoke/MethodHandle" ∧ yP_wallAt.cls ≠ "java/lang/invoke/VarHandle" ∧ (parseMethodDescriptor yP_wallAt.desc).map (fun d => d.parameters.length) = some 1 := by decide +kernel
theorem hd_P_firstAt : yP_firstAt.cls = "NodeMaker$Pieces" ∧ yP_firstAt.cls ≠ "java/lang/invoke/MethodHandle" ∧ yP_firstAt.cls ≠ "java/lang/invoke/VarHandle" ∧ (parseMethodDescriptor yP_firstAt.desc).map (fun d => d.parameters.length) = some 1 := by decide +kernel
theorem hd_P_lastAt : yP_lastAt.cls = "NodeMaker$Pieces" ∧ yP_lastAt.cls ≠ "java/lang/invoke/MethodHandle" ∧ yP_lastAt.cls ≠ "java/lang/invoke/VarHandle" ∧ (parseMethodDescriptor yP_lastAt.desc).map (fun d => d.parameters.length) = some 1 := by decide +kernel
theorem hd_P_add : yP_add.cls = "NodeMaker$Pieces" ∧ yP_add.cls ≠ "java/lang/invoke/MethodHandle" ∧ yP_add.cls ≠ "java/lang/invoke/VarHandle" ∧ (parseMethodDescriptor yP_add.desc).map (fun d => d.parameters.length) = some 3 := by decide +kernel
theorem hd_P_set : yP_set.cls = "NodeMaker$Pieces" ∧ yP_set.cls ≠ "java/lang/invoke/MethodHandle" ∧ yP_set.cls ≠ "java/lang/invoke/VarHandle" ∧ (parseMethodDescriptor yP_set.desc).map (fun d => d.parameters.length) = some 4 := by decide +kernel
theorem hd_P_shorten : yP_shorten.cls = "NodeMaker$Pieces" ∧ yP_shorten.cls ≠ "java/lang/invoke/MethodHandle" ∧ yP_shorten.cls ≠ "java/lang/invoke/VarHandle" ∧ (parseMethodDescriptor yP_shorten.desc).map (fun d => d.parameters.length) = some 1 := by decide +kernel
theorem hd_P_init : yP_init.cls ≠ "java/lang/invoke/MethodHandle" ∧ yP_init.cls ≠ "java/lang/invoke/VarHandle" ∧ (parseMethodDescriptor yP_init.desc).map (fun d => d.parameters.length) = some 0 := by decide +kernel
set_option maxHeartbeats 4000000 in
set_option maxRecDepth 100000 in
theorem cP_count (l : Launch) (g : CX) (a : Nat) (r q cap : Nat → Nat) (f : Nat → Nat → Int32) (L : Nat → List Int32) (hrow : rows3 cap f L) : Met l yP_count (wm yP_count kP_count 1 (some .int)) ({ frames := 1, cells := 0, slots := 0, locals := 20 }) (ro g [.ref a] (va_P g.1 vwCl (piW g a r q cap f (fun k => (L k).length)))) (vp_Si (fun r => r = nI (L 0).length)) 0 0 (fun _ => False) := by
  refine Met.ofW (cc := kP_count) (maxL := 1) (ret := (some .int)) (by decide) rfl ?_
  intro p e s m args below meth c s₁ B hml hv
  obtain ⟨rfl, hK, hP⟩ := hv
  have hx := B.exec
  have hb := B.bytes
  have hr := B.returns
  have ht : ∀ w ∈ wT, w.before _ s = true := fun w h => atoms_spec (ws := wm yP_count kP_count 1 (some .int)) B.pre w (List.mem_cons_of_mem _ h)
  have hown : s.vm.findClass "NodeMaker$Pieces" = some m.cls := findClass_of_methodNamed B.named
  have hlocks := B.notSynchronized
  have hl := lv_entry ([.ref a]) (n := 1) (Nat.le_of_ble_eq_true rfl)
  rw [lg_entry_eq]
  generalize (lg_sl ([.ref a]) ++ List.replicate (1 - (lg_sl ([.ref a])).length) Slot.unset).toArray = ls at hl ⊢
  have hl : lv_has ls 1 [(0, .ref a)] := hl
  refine lv_aload_n hx hb dP_count_0 rfl (lv_at hl 0 rfl) ?_
  refine va_get (D := g.1) (ci := 1) (v := .ref (r 0)) (C := "NodeMaker$Pieces") (T := Fd_P) (N := 3) hx hb ht i_P hown hK.1 hP 0 rfl rfl 0 (by decide) (ht _ q_93) (fun _ h9 => h9) rfl dP_count_1 ?_
  have hPc := hP.sub (ws' := rowW g (r 0) (q 0) (cap 0) (f 0) (L 0).length) [1, 2] rfl
  refine ro_Vi (v := nI (L 0).length) (As := []) (rest := []) ⟨hx, hb, hml, hown, ht⟩ (cR_count l g (r 0) (q 0) (cap 0) (f 0) (L 0)) (cwV 0 ht (g_V q_304 q_305 q_306 q_35 q_307) rfl rfl rfl hd_R_count ⟨Nat.le_of_ble_eq_true rfl, Nat.le_of_ble_eq_true rfl⟩) hK (hPc) (va_recv hK.1 hPc (ci := 0) (q0 := 0) rfl rfl) rfl hl.1 rfl (Nat.le_of_ble_eq_true rfl) dP_count_4 ⟨by show 0 ≤ 0; omega, by show 0 ≤ 0; omega⟩ ?_
  exact W.iret hx hb hr (fun t ht9 hW => ⟨_, rfl, rfl, ht9⟩) (fun q h => by cases h) dP_count_7
set_option maxHeartbeats 4000000 in
set_option maxRecDepth 100000 in
theorem cP_wallAt (l : Launch) (g : CX) (a : Nat) (r q cap : Nat → Nat) (f : Nat → Nat → Int32) (L : Nat → List Int32) (hrow : rows3 cap f L) (i : Int32) : Met l yP_wallAt (wm yP_wallAt kP_wallAt 2 (some .int)) ({ frames := 1, cells := 0, slots := 0, locals := 21 }) (ro g [.ref a, .int i] (va_P g.1 vwCl (piW g a r q cap f (fun k => (L k).length)))) (vp_Si (fun r => r = rAt (L 0) i)) 0 0 (fun _ => False) := by
  refine Met.ofW (cc := kP_wallAt) (maxL := 2) (ret := (some .int)) (by decide) rfl ?_
  intro p e s m args below meth c s₁ B hml hv
  obtain ⟨rfl, hK, hP⟩ := hv
  have hx := B.exec
  have hb := B.bytes
  have hr := B.returns
  have ht : ∀ w ∈ wT, w.before _ s = true := fun w h => atoms_spec (ws := wm yP_wallAt kP_wallAt 2 (some .int)) B.pre w (List.mem_cons_of_mem _ h)
  have hown : s.vm.findClass "NodeMaker$Pieces" = some m.cls := findClass_of_methodNamed B.named
  have hlocks := B.notSynchronized
  have hl := lv_entry ([.ref a, .int i]) (n := 2) (Nat.le_of_ble_eq_true rfl)
  rw [lg_entry_eq]
  generalize (lg_sl ([.ref a, .int i]) ++ List.replicate (2 - (lg_sl ([.ref a, .int i])).length) Slot.unset).toArray = ls at hl ⊢
  have hl : lv_has ls 2 [(0, .ref a), (1, .int i)] := hl
  refine lv_aload_n hx hb dP_wallAt_0 rfl (lv_at hl 0 rfl) ?_
  refine va_get (D := g.1) (ci := 1) (v := .ref (r 0)) (C := "NodeMaker$Pieces") (T := Fd_P) (N := 3) hx hb ht i_P hown hK.1 hP 0 rfl rfl 0 (by decide) (ht _ q_93) (fun _ h9 => h9) rfl dP_wallAt_1 ?_
  refine lv_iload_n hx hb dP_wallAt_4 rfl (lv_at hl 1 rfl) ?_
  have hPc := hP.sub (ws' := rowW g (r 0) (q 0) (cap 0) (f 0) (L 0).length) [1, 2] rfl
  refine ro_Vi (v := rAt (L 0) i) (As := [.int i]) (rest := []) ⟨hx, hb, hml, hown, ht⟩ (cR_at l g (r 0) (q 0) (cap 0) (f 0) (L 0) (hrow 0 (by decide)) i) (cwV 1 ht (g_V q_317 q_318 q_319 q_35 q_320) rfl rfl rfl hd_R_at ⟨Nat.le_of_ble_eq_true rfl, Nat.le_of_ble_eq_true rfl⟩) hK (hPc) (va_recv hK.1 hPc (ci := 0) (q0 := 0) rfl rfl) rfl hl.1 rfl (Nat.le_of_ble_eq_true rfl) dP_wallAt_5 ⟨by show 0 ≤ 0; omega, by show 0 ≤ 0; omega⟩ ?_
  exact W.iret hx hb hr (fun t ht9 hW => ⟨_, rfl, rfl, ht9⟩) (fun q h => by cases h) dP_wallAt_8
set_option maxHeartbeats 4000000 in
set_option maxRecDepth 100000 in
theorem cP_firstAt (l : Launch) (g : CX) (a : Nat) (r q cap : Nat → Nat) (f : Nat → Nat → Int32) (L : Nat → List Int32) (hrow : rows3 cap f L) (i : Int32) : Met l yP_firstAt (wm yP_firstAt kP_firstAt 2 (some .int)) ({ frames := 1, cells := 0, slots := 0, locals := 21 }) (ro g [.ref a, .int i] (va_P g.1 vwCl (piW g a r q cap f (fun k => (L k).length)))) (vp_Si (fun r => r = rAt (L 1) i)) 0 0 (fun _ => False) := by
  refine Met.ofW (cc := kP_firstAt) (maxL := 2) (ret := (some .int)) (by decide) rfl ?_
  intro p e s m args below meth c s₁ B hml hv
  obtain ⟨rfl, hK, hP⟩ := hv
  have hx := B.exec
  have hb := B.bytes
  have hr := B.returns
  have ht : ∀ w ∈ wT, w.before _ s = true := fun w h => atoms_spec (ws := wm yP_firstAt kP_firstAt 2 (some .int)) B.pre w (List.mem_cons_of_mem _ h)
  have hown : s.vm.findClass "NodeMaker$Pieces" = some m.cls := findClass_of_methodNamed B.named
  have hlocks := B.notSynchronized
  have hl := lv_entry ([.ref a, .int i]) (n := 2) (Nat.le_of_ble_eq_true rfl)
  rw [lg_entry_eq]
  generalize (lg_sl ([.ref a, .int i]) ++ List.replicate (2 - (lg_sl ([.ref a, .int i])).length) Slot.unset).toArray = ls at hl ⊢
  have hl : lv_has ls 2 [(0, .ref a), (1, .int i)] := hl
  refine lv_aload_n hx hb dP_firstAt_0 rfl (lv_at hl 0 rfl) ?_
  refine va_get (D := g.1) (ci := 1) (v := .ref (r 1)) (C := "NodeMaker$Pieces") (T := Fd_P) (N := 3) hx hb ht i_P hown hK.1 hP 0 rfl rfl 1 (by decide) (ht _ q_94) (fun _ h9 => h9) rfl dP_firstAt_1 ?_
  refine lv_iload_n hx hb dP_firstAt_4 rfl (lv_at hl 1 rfl) ?_
  have hPc := hP.sub (ws' := rowW g (r 1) (q 1) (cap 1) (f 1) (L 1).length) [3, 4] rfl
  refine ro_Vi (v := rAt (L 1) i) (As := [.int i]) (rest := []) ⟨hx, hb, hml, hown, ht⟩ (cR_at l g (r 1) (q 1) (cap 1) (f 1) (L 1) (hrow 1 (by decide)) i) (cwV 1 ht (g_V q_317 q_318 q_319 q_35 q_320) rfl rfl rfl hd_R_at ⟨Nat.le_of_ble_eq_true rfl, Nat.le_of_ble_eq_true rfl⟩) hK (hPc) (va_recv hK.1 hPc (ci := 0) (q0 := 0) rfl rfl) rfl hl.1 rfl (Nat.le_of_ble_eq_true rfl) dP_firstAt_5 ⟨by show 0 ≤ 0; omega, by show 0 ≤ 0; omega⟩ ?_
  exact W.iret hx hb hr (fun t ht9 hW => ⟨_, rfl, rfl, ht9⟩) (fun q h => by cases h) dP_firstAt_8
set_option maxHeartbeats 4000000 in
set_option maxRecDepth 100000 in
theorem cP_lastAt (l : Launch) (g : CX) (a : Nat) (r q cap : Nat → Nat) (f : Nat → Nat → Int32) (L : Nat → List Int32) (hrow : rows3 cap f L) (i : Int32) : Met l yP_lastAt (wm yP_lastAt kP_lastAt 2 (some .int)) ({ frames := 1, cells := 0, slots := 0, locals := 21 }) (ro g [.ref a, .int i] (va_P g.1 vwCl (piW g a r q cap f (fun k => (L k).length)))) (vp_Si (fun r => r = rAt (L 2) i)) 0 0 (fun _ => False) := by
  refine Met.ofW (cc := kP_lastAt) (maxL := 2) (ret := (some .int)) (by decide) rfl ?_
  intro p e s m args below meth c s₁ B hml hv
  obtain ⟨rfl, hK, hP⟩ := hv
  have hx := B.exec
  have hb := B.bytes
  have hr := B.returns
  have ht : ∀ w ∈ wT, w.before _ s = true := fun w h => atoms_spec (ws := wm yP_lastAt kP_lastAt 2 (some .int)) B.pre w (List.mem_cons_of_mem _ h)
  have hown : s.vm.findClass "NodeMaker$Pieces" = some m.cls := findClass_of_methodNamed B.named
  have hlocks := B.notSynchronized
  have hl := lv_entry ([.ref a, .int i]) (n := 2) (Nat.le_of_ble_eq_true rfl)
  rw [lg_entry_eq]
  generalize (lg_sl ([.ref a, .int i]) ++ List.replicate (2 - (lg_sl ([.ref a, .int i])).length) Slot.unset).toArray = ls at hl ⊢
  have hl : lv_has ls 2 [(0, .ref a), (1, .int i)] := hl
  refine lv_aload_n hx hb dP_lastAt_0 rfl (lv_at hl 0 rfl) ?_
  refine va_get (D := g.1) (ci := 1) (v := .ref (r 2)) (C := "NodeMaker$Pieces") (T := Fd_P) (N := 3) hx hb ht i_P hown hK.1 hP 0 rfl rfl 2 (by decide) (ht _ q_95) (fun _ h9 => h9) rfl dP_lastAt_1 ?_
  refine lv_iload_n hx hb dP_lastAt_4 rfl (lv_at hl 1 rfl) ?_
  have hPc := hP.sub (ws' := rowW g (r 2) (q 2) (cap 2) (f 2) (L 2).length) [5, 6] rfl
  refine ro_Vi (v := rAt (L 2) i) (As := [.int i]) (rest := []) ⟨hx, hb, hml, hown, ht⟩ (cR_at l g (r 2) (q 2) (cap 2) (f 2) (L 2) (hrow 2 (by decide)) i) (cwV 1 ht (g_V q_317 q_318 q_319 q_35 q_320) rfl rfl rfl hd_R_at ⟨Nat.le_of_ble_eq_true rfl, Nat.le_of_ble_eq_true rfl⟩) hK (hPc) (va_recv hK.1 hPc (ci := 0) (q0 := 0) rfl rfl) rfl hl.1 rfl (Nat.le_of_ble_eq_true rfl) dP_lastAt_5 ⟨by show 0 ≤ 0; omega, by show 0 ≤ 0; omega⟩ ?_
  exact W.iret hx hb hr (fun t ht9 hW => ⟨_, rfl, rfl, ht9⟩) (fun q h => by cases h) dP_lastAt_8
end
section
set_option maxHeartbeats 4000000 in
set_option maxRecDepth 100000 in
theorem cP_add (l : Launch) (g : CX) (sz : Nat) (a : Nat) (r q cap : Nat → Nat) (f : Nat → Nat → Int32) (L : Nat → List Int32) (hrow : rows3 cap f L) (v0 v1 v2 : Int32) : Met l yP_add (wm yP_add kP_add 4 none) ({ frames := 3, cells := (aUse (cap 0) (L 0) + aUse (cap 1) (L 1) + aUse (cap 2) (L 2)), slots := (aUse (cap 0) (L 0) + aUse (cap 1) (L 1) + aUse (cap 2) (L 2)), locals := 103 }) (rw g [.ref a, .int v0, .int v1, .int v2] (piW g a r q cap f (fun k => (L k).length)) sz) (va_Qv (fun (u : (Nat → Nat) × (Nat → Nat → Int32)) => rows3 (fun k => aCap (cap k) (L k)) u.2 (fun k => rAdd (L k) (t3 v0 v1 v2 k))) (rB g (va_A (piW g a r q cap f (fun k => (L k).length)) sz) (fun u => (piW g a r u.1 (fun k => aCap (cap k) (L k)) u.2 (fun k => (rAdd (L k) (t3 v0 v1 v2 k)).length)))) (va_A (piW g a r q cap f (fun k => (L k).length)) sz)) (aUse (cap 0) (L 0) + aUse (cap 1) (L 1) + aUse (cap 2) (L 2)) (aUse (cap 0) (L 0) + aUse (cap 1) (L 1) + aUse (cap 2) (L 2)) (va_A (piW g a r q cap f (fun k => (L k).length)) sz) := by
  refine Met.ofW (cc := kP_add) (maxL := 4) (ret := none) (by decide) rfl ?_
  intro p e s m args below meth c s₁ B hml hv
  obtain ⟨rfl, hsz, hK, hP, hD0⟩ := hv
  have hx := B.exec
  have hb := B.bytes
  have hr := B.returns
  have ht : ∀ w ∈ wT, w.before _ s = true := fun w h => atoms_spec (ws := wm yP_add kP_add 4 none) B.pre w (List.mem_cons_of_mem _ h)
  have hown : s.vm.findClass "NodeMaker$Pieces" = some m.cls := findClass_of_methodNamed B.named
  have hlocks := B.notSynchronized
  subst hsz
  have hD := hD0.self (sz := s.heap.size)
  generalize hAe : va_A (piW g a r q cap f (fun k => (L k).length)) s.heap.size = A at hD ⊢
  have hA : ∀ q : Nat, s.heap.size ≤ q → A q := fun q h => by rw [← hAe]; exact Or.inr h
  have hS : va_S A s.heap s.heap [] := va_S.rf
  have hl := lv_entry ([.ref a, .int v0, .int v1, .int v2]) (n := 4) (Nat.le_of_ble_eq_true rfl)
  rw [lg_entry_eq]
  generalize (lg_sl ([.ref a, .int v0, .int v1, .int v2]) ++ List.replicate (4 - (lg_sl ([.ref a, .int v0, .int v1, .int v2])).length) Slot.unset).toArray = ls at hl ⊢
  have hl : lv_has ls 4 [(0, .ref a), (1, .int v0), (2, .int v1), (3, .int v2)] := hl
  refine lv_aload_n hx hb dP_add_0 rfl (lv_at hl 0 rfl) ?_
  refine va_get (D := g.1) (ci := 1) (v := .ref (r 0)) (C := "NodeMaker$Pieces") (T := Fd_P) (N := 3) hx hb ht i_P hown hK.1 hP 0 rfl rfl 0 (by decide) (ht _ q_93) (fun _ h9 => h9) rfl dP_add_1 ?_
  refine lv_iload_n hx hb dP_add_4 rfl (lv_at hl 1 rfl) ?_
  have hPc := hP.sub (ws' := (rowW g (r 0) (q 0) (cap 0) (f 0) (L 0).length)) [1, 2] rfl
  have hDc := hD.sub (ws' := (rowW g (r 0) (q 0) (cap 0) (f 0) (L 0).length)) [1, 2] (by decide) rfl
  refine rw_v (wr := [(a, .inr (1, [.ref (r 0), .ref (r 1), .ref (r 2)])), ((r 1), .inr (0, [.ref (q 1), .int (nI (L 1).length)])), ((q 1), .inl (g.2 0, (cap 1), .inl (f 1))), ((r 2), .inr (0, [.ref (q 2), .int (nI (L 2).length)])), ((q 2), .inl (g.2 0, (cap 2), .inl (f 2)))]) (va_runV (As := [.int v0]) (rest := []) ⟨hx, hb, hml, hown, ht⟩ (cR_add l g s.heap.size (r 0) (q 0) (cap 0) (f 0) (L 0) (hrow 0 (by decide)) v0) (cwV 1 ht (g_V q_278 q_279 q_280 q_35 q_281) rfl rfl rfl hd_R_add ⟨Nat.le_of_ble_eq_true rfl, Nat.le_of_ble_eq_true rfl⟩) (rw_V hK hPc hDc (va_recv hK.1 hPc (ci := 0) (q0 := 0) rfl rfl)) rfl rfl hl.1 rfl (lv_room (Nat.le_of_ble_eq_true rfl)) dP_add_5 ⟨by show 0 + (aUse (cap 0) (L 0)) ≤ (aUse (cap 0) (L 0) + aUse (cap 1) (L 1) + aUse (cap 2) (L 2)); omega, by show 0 + (aUse (cap 0) (L 0)) ≤ (aUse (cap 0) (L 0) + aUse (cap 1) (L 1) + aUse (cap 2) (L 2)); omega⟩) hP hD hS hA [1, 2] [0, 3, 4, 5, 6] rfl rfl (by decide) (by decide) (fun u0 H locs hw hP hD hS => ?_)
  have hP : va_P g.1 vwCl [(a, .inr (1, [.ref (r 0), .ref (r 1), .ref (r 2)])), ((r 1), .inr (0, [.ref (q 1), .int (nI (L 1).length)])), ((q 1), .inl (g.2 0, (cap 1), .inl (f 1))), ((r 2), .inr (0, [.ref (q 2), .int (nI (L 2).length)])), ((q 2), .inl (g.2 0, (cap 2), .inl (f 2))), ((r 0), .inr (0, [.ref u0.1, .int (nI (rAdd (L 0) v0).length)])), (u0.1, .inl (g.2 0, (aCap (cap 0) (L 0)), .inl u0.2))] H := hP
  have hD : va_D A [(a, .inr (1, [.ref (r 0), .ref (r 1), .ref (r 2)])), ((r 1), .inr (0, [.ref (q 1), .int (nI (L 1).length)])), ((q 1), .inl (g.2 0, (cap 1), .inl (f 1))), ((r 2), .inr (0, [.ref (q 2), .int (nI (L 2).length)])), ((q 2), .inl (g.2 0, (cap 2), .inl (f 2))), ((r 0), .inr (0, [.ref u0.1, .int (nI (rAdd (L 0) v0).length)])), (u0.1, .inl (g.2 0, (aCap (cap 0) (L 0)), .inl u0.2))] := hD
  have hw0 := hw
  refine lv_aload_n hx hb dP_add_8 rfl (lv_at hl 0 rfl) ?_
  refine va_get (D := g.1) (ci := 1) (v := .ref (r 1)) (C := "NodeMaker$Pieces") (T := Fd_P) (N := 3) hx hb ht i_P hown hK.1 hP 0 rfl rfl 1 (by decide) (ht _ q_94) (fun _ h9 => h9) rfl dP_add_9 ?_
  refine lv_iload_n hx hb dP_add_12 rfl (lv_at hl 2 rfl) ?_
  have hPc := hP.sub (ws' := (rowW g (r 1) (q 1) (cap 1) (f 1) (L 1).length)) [1, 2] rfl
  have hDc := hD.sub (ws' := (rowW g (r 1) (q 1) (cap 1) (f 1) (L 1).length)) [1, 2] (by decide) rfl
  refine rw_v (wr := [(a, .inr (1, [.ref (r 0), .ref (r 1), .ref (r 2)])), ((r 2), .inr (0, [.ref (q 2), .int (nI (L 2).length)])), ((q 2), .inl (g.2 0, (cap 2), .inl (f 2))), ((r 0), .inr (0, [.ref u0.1, .int (nI (rAdd (L 0) v0).length)])), (u0.1, .inl (g.2 0, (aCap (cap 0) (L 0)), .inl u0.2))]) (va_runV (As := [.int v1]) (rest := []) ⟨hx, hb, hml, hown, ht⟩ (cR_add l g H.size (r 1) (q 1) (cap 1) (f 1) (L 1) (hrow 1 (by decide)) v1) (cwV 1 ht (g_V q_278 q_279 q_280 q_35 q_281) rfl rfl rfl hd_R_add ⟨Nat.le_of_ble_eq_true rfl, Nat.le_of_ble_eq_true rfl⟩) (rw_V hK hPc hDc (va_recv hK.1 hPc (ci := 0) (q0 := 0) rfl rfl)) rfl rfl hl.1 rfl (lv_room (Nat.le_of_ble_eq_true rfl)) dP_add_13 ⟨by show 0 + (aUse (cap 0) (L 0)) + (aUse (cap 1) (L 1)) ≤ (aUse (cap 0) (L 0) + aUse (cap 1) (L 1) + aUse (cap 2) (L 2)); omega, by show 0 + (aUse (cap 0) (L 0)) + (aUse (cap 1) (L 1)) ≤ (aUse (cap 0) (L 0) + aUse (cap 1) (L 1) + aUse (cap 2) (L 2)); omega⟩) hP hD hS hA [1, 2] [0, 3, 4, 5, 6] rfl rfl (by decide) (by decide) (fun u1 H locs hw hP hD hS => ?_)
  have hP : va_P g.1 vwCl [(a, .inr (1, [.ref (r 0), .ref (r 1), .ref (r 2)])), ((r 2), .inr (0, [.ref (q 2), .int (nI (L 2).length)])), ((q 2), .inl (g.2 0, (cap 2), .inl (f 2))), ((r 0), .inr (0, [.ref u0.1, .int (nI (rAdd (L 0) v0).length)])), (u0.1, .inl (g.2 0, (aCap (cap 0) (L 0)), .inl u0.2)), ((r 1), .inr (0, [.ref u1.1, .int (nI (rAdd (L 1) v1).length)])), (u1.1, .inl (g.2 0, (aCap (cap 1) (L 1)), .inl u1.2))] H := hP
  have hD : va_D A [(a, .inr (1, [.ref (r 0), .ref (r 1), .ref (r 2)])), ((r 2), .inr (0, [.ref (q 2), .int (nI (L 2).length)])), ((q 2), .inl (g.2 0, (cap 2), .inl (f 2))), ((r 0), .inr (0, [.ref u0.1, .int (nI (rAdd (L 0) v0).length)])), (u0.1, .inl (g.2 0, (aCap (cap 0) (L 0)), .inl u0.2)), ((r 1), .inr (0, [.ref u1.1, .int (nI (rAdd (L 1) v1).length)])), (u1.1, .inl (g.2 0, (aCap (cap 1) (L 1)), .inl u1.2))] := hD
  have hw1 := hw
  refine lv_aload_n hx hb dP_add_16 rfl (lv_at hl 0 rfl) ?_
  refine va_get (D := g.1) (ci := 1) (v := .ref (r 2)) (C := "NodeMaker$Pieces") (T := Fd_P) (N := 3) hx hb ht i_P hown hK.1 hP 0 rfl rfl 2 (by decide) (ht _ q_95) (fun _ h9 => h9) rfl dP_add_17 ?_
  refine lv_iload_n hx hb dP_add_20 rfl (lv_at hl 3 rfl) ?_
  have hPc := hP.sub (ws' := (rowW g (r 2) (q 2) (cap 2) (f 2) (L 2).length)) [1, 2] rfl
  have hDc := hD.sub (ws' := (rowW g (r 2) (q 2) (cap 2) (f 2) (L 2).length)) [1, 2] (by decide) rfl
  refine rw_v (wr := [(a, .inr (1, [.ref (r 0), .ref (r 1), .ref (r 2)])), ((r 0), .inr (0, [.ref u0.1, .int (nI (rAdd (L 0) v0).length)])), (u0.1, .inl (g.2 0, (aCap (cap 0) (L 0)), .inl u0.2)), ((r 1), .inr (0, [.ref u1.1, .int (nI (rAdd (L 1) v1).length)])), (u1.1, .inl (g.2 0, (aCap (cap 1) (L 1)), .inl u1.2))]) (va_runV (As := [.int v2]) (rest := []) ⟨hx, hb, hml, hown, ht⟩ (cR_add l g H.size (r 2) (q 2) (cap 2) (f 2) (L 2) (hrow 2 (by decide)) v2) (cwV 1 ht (g_V q_278 q_279 q_280 q_35 q_281) rfl rfl rfl hd_R_add ⟨Nat.le_of_ble_eq_true rfl, Nat.le_of_ble_eq_true rfl⟩) (rw_V hK hPc hDc (va_recv hK.1 hPc (ci := 0) (q0 := 0) rfl rfl)) rfl rfl hl.1 rfl (lv_room (Nat.le_of_ble_eq_true rfl)) dP_add_21 ⟨by show 0 + (aUse (cap 0) (L 0)) + (aUse (cap 1) (L 1)) + (aUse (cap 2) (L 2)) ≤ (aUse (cap 0) (L 0) + aUse (cap 1) (L 1) + aUse (cap 2) (L 2)); omega, by show 0 + (aUse (cap 0) (L 0)) + (aUse (cap 1) (L 1)) + (aUse (cap 2) (L 2)) ≤ (aUse (cap 0) (L 0) + aUse (cap 1) (L 1) + aUse (cap 2) (L 2)); omega⟩) hP hD hS hA [1, 2] [0, 3, 4, 5, 6] rfl rfl (by decide) (by decide) (fun u2 H locs hw hP hD hS => ?_)
  have hP : va_P g.1 vwCl [(a, .inr (1, [.ref (r 0), .ref (r 1), .ref (r 2)])), ((r 0), .inr (0, [.ref u0.1, .int (nI (rAdd (L 0) v0).length)])), (u0.1, .inl (g.2 0, (aCap (cap 0) (L 0)), .inl u0.2)), ((r 1), .inr (0, [.ref u1.1, .int (nI (rAdd (L 1) v1).length)])), (u1.1, .inl (g.2 0, (aCap (cap 1) (L 1)), .inl u1.2)), ((r 2), .inr (0, [.ref u2.1, .int (nI (rAdd (L 2) v2).length)])), (u2.1, .inl (g.2 0, (aCap (cap 2) (L 2)), .inl u2.2))] H := hP
  have hD : va_D A [(a, .inr (1, [.ref (r 0), .ref (r 1), .ref (r 2)])), ((r 0), .inr (0, [.ref u0.1, .int (nI (rAdd (L 0) v0).length)])), (u0.1, .inl (g.2 0, (aCap (cap 0) (L 0)), .inl u0.2)), ((r 1), .inr (0, [.ref u1.1, .int (nI (rAdd (L 1) v1).length)])), (u1.1, .inl (g.2 0, (aCap (cap 1) (L 1)), .inl u1.2)), ((r 2), .inr (0, [.ref u2.1, .int (nI (rAdd (L 2) v2).length)])), (u2.1, .inl (g.2 0, (aCap (cap 2) (L 2)), .inl u2.2))] := hD
  have hw2 := hw
  have hP9 := hP.sub (ws' := (piW g a r (t3 u0.1 u1.1 u2.1) (fun k => aCap (cap k) (L k)) (t3 u0.2 u1.2 u2.2) (fun k => (rAdd (L k) (t3 v0 v1 v2 k)).length))) [0, 1, 2, 3, 4, 5, 6] rfl
  have hD9 := hD.sub (ws' := (piW g a r (t3 u0.1 u1.1 u2.1) (fun k => aCap (cap k) (L k)) (t3 u0.2 u1.2 u2.2) (fun k => (rAdd (L k) (t3 v0 v1 v2 k)).length))) [0, 1, 2, 3, 4, 5, 6] (by decide) rfl
  refine W.widen (k := (aUse (cap 0) (L 0) + aUse (cap 1) (L 1) + aUse (cap 2) (L 2))) (n := (aUse (cap 0) (L 0) + aUse (cap 1) (L 1) + aUse (cap 2) (L 2))) (by omega) (by omega) ?_
  exact W.vret hx hb hr (fun t ht9 hW => ⟨⟨(t3 u0.1 u1.1 u2.1, t3 u0.2 u1.2 u2.2), rfl, rows3_of hw0 hw1 hw2, by rw [ht9]; exact hP9, hD9⟩, hS.F ht9⟩) hS.2.2 dP_add_24
set_option maxHeartbeats 4000000 in
set_option maxRecDepth 100000 in
theorem cP_set (l : Launch) (g : CX) (sz : Nat) (a : Nat) (r q cap : Nat → Nat) (f : Nat → Nat → Int32) (L : Nat → List Int32) (hrow : rows3 cap f L) (i v0 v1 v2 : Int32) : Met l yP_set (wm yP_set kP_set 5 none) ({ frames := 1, cells := 0, slots := 0, locals := 22 }) (rw g [.ref a, .int i, .int v0, .int v1, .int v2] (piW g a r q cap f (fun k => (L k).length)) sz) (va_Qv (fun (u : Nat → Nat → Int32) => rows3 cap u (fun k => rSet (L k) i (t3 v0 v1 v2 k))) (rB g (va_A (piW g a r q cap f (fun k => (L k).length)) sz) (fun u => (piW g a r q cap u (fun k => (rSet (L k) i (t3 v0 v1 v2 k)).length)))) (va_A (piW g a r q cap f (fun k => (L k).length)) sz)) 0 0 (va_A (piW g a r q cap f (fun k => (L k).length)) sz) := by
  refine Met.ofW (cc := kP_set) (maxL := 5) (ret := none) (by decide) rfl ?_
  intro p e s m args below meth c s₁ B hml hv
  obtain ⟨rfl, hsz, hK, hP, hD0⟩ := hv
  have hx := B.exec
  have hb := B.bytes
  have hr := B.returns
  have ht : ∀ w ∈ wT, w.before _ s = true := fun w h => atoms_spec (ws := wm yP_set kP_set 5 none) B.pre w (List.mem_cons_of_mem _ h)
  have hown : s.vm.findClass "NodeMaker$Pieces" = some m.cls := findClass_of_methodNamed B.named
  have hlocks := B.notSynchronized
  subst hsz
  have hD := hD0.self (sz := s.heap.size)
  generalize hAe : va_A (piW g a r q cap f (fun k => (L k).length)) s.heap.size = A at hD ⊢
  have hA : ∀ q : Nat, s.heap.size ≤ q → A q := fun q h => by rw [← hAe]; exact Or.inr h
  have hS : va_S A s.heap s.heap [] := va_S.rf
  have hl := lv_entry ([.ref a, .int i, .int v0, .int v1, .int v2]) (n := 5) (Nat.le_of_ble_eq_true rfl)
  rw [lg_entry_eq]
  generalize (lg_sl ([.ref a, .int i, .int v0, .int v1, .int v2]) ++ List.replicate (5 - (lg_sl ([.ref a, .int i, .int v0, .int v1, .int v2])).length) Slot.unset).toArray = ls at hl ⊢
  have hl : lv_has ls 5 [(0, .ref a), (1, .int i), (2, .int v0), (3, .int v1), (4, .int v2)] := hl
  refine lv_aload_n hx hb dP_set_0 rfl (lv_at hl 0 rfl) ?_
  refine va_get (D := g.1) (ci := 1) (v := .ref (r 0)) (C := "NodeMaker$Pieces") (T := Fd_P) (N := 3) hx hb ht i_P hown hK.1 hP 0 rfl rfl 0 (by decide) (ht _ q_93) (fun _ h9 => h9) rfl dP_set_1 ?_
  refine lv_iload_n hx hb dP_set_4 rfl (lv_at hl 1 rfl) ?_
  refine lv_iload_n hx hb dP_set_5 rfl (lv_at hl 2 rfl) ?_
  have hPc := hP.sub (ws' := (rowW g (r 0) (q 0) (cap 0) (f 0) (L 0).length)) [1, 2] rfl
  have hDc := hD.sub (ws' := (rowW g (r 0) (q 0) (cap 0) (f 0) (L 0).length)) [1, 2] (by decide) rfl
  refine rw_v (wr := [(a, .inr (1, [.ref (r 0), .ref (r 1), .ref (r 2)])), ((r 1), .inr (0, [.ref (q 1), .int (nI (L 1).length)])), ((q 1), .inl (g.2 0, (cap 1), .inl (f 1))), ((r 2), .inr (0, [.ref (q 2), .int (nI (L 2).length)])), ((q 2), .inl (g.2 0, (cap 2), .inl (f 2)))]) (va_runV (As := [.int i, .int v0]) (rest := []) ⟨hx, hb, hml, hown, ht⟩ (cR_set l g s.heap.size (r 0) (q 0) (cap 0) (f 0) (L 0) (hrow 0 (by decide)) i v0) (cwV 2 ht (g_V q_361 q_362 q_363 q_35 q_364) rfl rfl rfl hd_R_set ⟨Nat.le_of_ble_eq_true rfl, Nat.le_of_ble_eq_true rfl⟩) (rw_V hK hPc hDc (va_recv hK.1 hPc (ci := 0) (q0 := 0) rfl rfl)) rfl rfl hl.1 rfl (lv_room (Nat.le_of_ble_eq_true rfl)) dP_set_6 ⟨by show 0 + 0 ≤ 0; omega, by show 0 + 0 ≤ 0; omega⟩) hP hD hS hA [1, 2] [0, 3, 4, 5, 6] rfl rfl (by decide) (by decide) (fun u0 H locs hw hP hD hS => ?_)
  have hP : va_P g.1 vwCl [(a, .inr (1, [.ref (r 0), .ref (r 1), .ref (r 2)])), ((r 1), .inr (0, [.ref (q 1), .int (nI (L 1).length)])), ((q 1), .inl (g.2 0, (cap 1), .inl (f 1))), ((r 2), .inr (0, [.ref (q 2), .int (nI (L 2).length)])), ((q 2), .inl (g.2 0, (cap 2), .inl (f 2))), ((r 0), .inr (0, [.ref (q 0), .int (nI (rSet (L 0) i v0).length)])), ((q 0), .inl (g.2 0, (cap 0), .inl u0))] H := hP
  have hD : va_D A [(a, .inr (1, [.ref (r 0), .ref (r 1), .ref (r 2)])), ((r 1), .inr (0, [.ref (q 1), .int (nI (L 1).length)])), ((q 1), .inl (g.2 0, (cap 1), .inl (f 1))), ((r 2), .inr (0, [.ref (q 2), .int (nI (L 2).length)])), ((q 2), .inl (g.2 0, (cap 2), .inl (f 2))), ((r 0), .inr (0, [.ref (q 0), .int (nI (rSet (L 0) i v0).length)])), ((q 0), .inl (g.2 0, (cap 0), .inl u0))] := hD
  have hw0 := hw
  refine lv_aload_n hx hb dP_set_9 rfl (lv_at hl 0 rfl) ?_
  refine va_get (D := g.1) (ci := 1) (v := .ref (r 1)) (C := "NodeMaker$Pieces") (T := Fd_P) (N := 3) hx hb ht i_P hown hK.1 hP 0 rfl rfl 1 (by decide) (ht _ q_94) (fun _ h9 => h9) rfl dP_set_10 ?_
  refine lv_iload_n hx hb dP_set_13 rfl (lv_at hl 1 rfl) ?_
  refine lv_iload_n hx hb dP_set_14 rfl (lv_at hl 3 rfl) ?_
  have hPc := hP.sub (ws' := (rowW g (r 1) (q 1) (cap 1) (f 1) (L 1).length)) [1, 2] rfl
  have hDc := hD.sub (ws' := (rowW g (r 1) (q 1) (cap 1) (f 1) (L 1).length)) [1, 2] (by decide) rfl
  refine rw_v (wr := [(a, .inr (1, [.ref (r 0), .ref (r 1), .ref (r 2)])), ((r 2), .inr (0, [.ref (q 2), .int (nI (L 2).length)])), ((q 2), .inl (g.2 0, (cap 2), .inl (f 2))), ((r 0), .inr (0, [.ref (q 0), .int (nI (rSet (L 0) i v0).length)])), ((q 0), .inl (g.2 0, (cap 0), .inl u0))]) (va_runV (As := [.int i, .int v1]) (rest := []) ⟨hx, hb, hml, hown, ht⟩ (cR_set l g H.size (r 1) (q 1) (cap 1) (f 1) (L 1) (hrow 1 (by decide)) i v1) (cwV 2 ht (g_V q_361 q_362 q_363 q_35 q_364) rfl rfl rfl hd_R_set ⟨Nat.le_of_ble_eq_true rfl, Nat.le_of_ble_eq_true rfl⟩) (rw_V hK hPc hDc (va_recv hK.1 hPc (ci := 0) (q0 := 0) rfl rfl)) rfl rfl hl.1 rfl (lv_room (Nat.le_of_ble_eq_true rfl)) dP_set_15 ⟨by show 0 + 0 + 0 ≤ 0; omega, by show 0 + 0 + 0 ≤ 0; omega⟩) hP hD hS hA [1, 2] [0, 3, 4, 5, 6] rfl rfl (by decide) (by decide) (fun u1 H locs hw hP hD hS => ?_)
  have hP : va_P g.1 vwCl [(a, .inr (1, [.ref (r 0), .ref (r 1), .ref (r 2)])), ((r 2), .inr (0, [.ref (q 2), .int (nI (L 2).length)])), ((q 2), .inl (g.2 0, (cap 2), .inl (f 2))), ((r 0), .inr (0, [.ref (q 0), .int (nI (rSet (L 0) i v0).length)])), ((q 0), .inl (g.2 0, (cap 0), .inl u0)), ((r 1), .inr (0, [.ref (q 1), .int (nI (rSet (L 1) i v1).length)])), ((q 1), .inl (g.2 0, (cap 1), .inl u1))] H := hP
  have hD : va_D A [(a, .inr (1, [.ref (r 0), .ref (r 1), .ref (r 2)])), ((r 2), .inr (0, [.ref (q 2), .int (nI (L 2).length)])), ((q 2), .inl (g.2 0, (cap 2), .inl (f 2))), ((r 0), .inr (0, [.ref (q 0), .int (nI (rSet (L 0) i v0).length)])), ((q 0), .inl (g.2 0, (cap 0), .inl u0)), ((r 1), .inr (0, [.ref (q 1), .int (nI (rSet (L 1) i v1).length)])), ((q 1), .inl (g.2 0, (cap 1), .inl u1))] := hD
  have hw1 := hw
  refine lv_aload_n hx hb dP_set_18 rfl (lv_at hl 0 rfl) ?_
  refine va_get (D := g.1) (ci := 1) (v := .ref (r 2)) (C := "NodeMaker$Pieces") (T := Fd_P) (N := 3) hx hb ht i_P hown hK.1 hP 0 rfl rfl 2 (by decide) (ht _ q_95) (fun _ h9 => h9) rfl dP_set_19 ?_
  refine lv_iload_n hx hb dP_set_22 rfl (lv_at hl 1 rfl) ?_
  refine lv_iload hx hb dP_set_23 (lv_at hl 4 rfl) ?_
  have hPc := hP.sub (ws' := (rowW g (r 2) (q 2) (cap 2) (f 2) (L 2).length)) [1, 2] rfl
  have hDc := hD.sub (ws' := (rowW g (r 2) (q 2) (cap 2) (f 2) (L 2).length)) [1, 2] (by decide) rfl
  refine rw_v (wr := [(a, .inr (1, [.ref (r 0), .ref (r 1), .ref (r 2)])), ((r 0), .inr (0, [.ref (q 0), .int (nI (rSet (L 0) i v0).length)])), ((q 0), .inl (g.2 0, (cap 0), .inl u0)), ((r 1), .inr (0, [.ref (q 1), .int (nI (rSet (L 1) i v1).length)])), ((q 1), .inl (g.2 0, (cap 1), .inl u1))]) (va_runV (As := [.int i, .int v2]) (rest := []) ⟨hx, hb, hml, hown, ht⟩ (cR_set l g H.size (r 2) (q 2) (cap 2) (f 2) (L 2) (hrow 2 (by decide)) i v2) (cwV 2 ht (g_V q_361 q_362 q_363 q_35 q_364) rfl rfl rfl hd_R_set ⟨Nat.le_of_ble_eq_true rfl, Nat.le_of_ble_eq_true rfl⟩) (rw_V hK hPc hDc (va_recv hK.1 hPc (ci := 0) (q0 := 0) rfl rfl)) rfl rfl hl.1 rfl (lv_room (Nat.le_of_ble_eq_true rfl)) dP_set_25 ⟨by show 0 + 0 + 0 + 0 ≤ 0; omega, by show 0 + 0 + 0 + 0 ≤ 0; omega⟩) hP hD hS hA [1, 2] [0, 3, 4, 5, 6] rfl rfl (by decide) (by decide) (fun u2 H locs hw hP hD hS => ?_)
  have hP : va_P g.1 vwCl [(a, .inr (1, [.ref (r 0), .ref (r 1), .ref (r 2)])), ((r 0), .inr (0, [.ref (q 0), .int (nI (rSet (L 0) i v0).length)])), ((q 0), .inl (g.2 0, (cap 0), .inl u0)), ((r 1), .inr (0, [.ref (q 1), .int (nI (rSet (L 1) i v1).length)])), ((q 1), .inl (g.2 0, (cap 1), .inl u1)), ((r 2), .inr (0, [.ref (q 2), .int (nI (rSet (L 2) i v2).length)])), ((q 2), .inl (g.2 0, (cap 2), .inl u2))] H := hP
  have hD : va_D A [(a, .inr (1, [.ref (r 0), .ref (r 1), .ref (r 2)])), ((r 0), .inr (0, [.ref (q 0), .int (nI (rSet (L 0) i v0).length)])), ((q 0), .inl (g.2 0, (cap 0), .inl u0)), ((r 1), .inr (0, [.ref (q 1), .int (nI (rSet (L 1) i v1).length)])), ((q 1), .inl (g.2 0, (cap 1), .inl u1)), ((r 2), .inr (0, [.ref (q 2), .int (nI (rSet (L 2) i v2).length)])), ((q 2), .inl (g.2 0, (cap 2), .inl u2))] := hD
  have hw2 := hw
  have hP9 := hP.sub (ws' := (piW g a r q cap (t3 u0 u1 u2) (fun k => (rSet (L k) i (t3 v0 v1 v2 k)).length))) [0, 1, 2, 3, 4, 5, 6] rfl
  have hD9 := hD.sub (ws' := (piW g a r q cap (t3 u0 u1 u2) (fun k => (rSet (L k) i (t3 v0 v1 v2 k)).length))) [0, 1, 2, 3, 4, 5, 6] (by decide) rfl
  exact W.vret hx hb hr (fun t ht9 hW => ⟨⟨t3 u0 u1 u2, rfl, rows3_of hw0 hw1 hw2, by rw [ht9]; exact hP9, hD9⟩, hS.F ht9⟩) hS.2.2 dP_set_28
set_option maxHeartbeats 4000000 in
set_option maxRecDepth 100000 in
theorem cP_shorten (l : Launch) (g : CX) (sz : Nat) (a : Nat) (r q cap : Nat → Nat) (f : Nat → Nat → Int32) (L : Nat → List Int32) (hrow : rows3 cap f L) (i : Int32) : Met l yP_shorten (wm yP_shorten kP_shorten 2 none) ({ frames := 1, cells := 0, slots := 0, locals := 21 }) (rw g [.ref a, .int i] (piW g a r q cap f (fun k => (L k).length)) sz) (va_Qv (fun (_u : Unit) => rows3 cap f (fun k => rCut (L k) i)) (rB g (va_A (piW g a r q cap f (fun k => (L k).length)) sz) (fun _u => (piW g a r q cap f (fun k => (rCut (L k) i).length)))) (va_A (piW g a r q cap f (fun k => (L k).length)) sz)) 0 0 (va_A (piW g a r q cap f (fun k => (L k).length)) sz) := by
  refine Met.ofW (cc := kP_shorten) (maxL := 2) (ret := none) (by decide) rfl ?_
  intro p e s m args below meth c s₁ B hml hv
  obtain ⟨rfl, hsz, hK, hP, hD0⟩ := hv
  have hx := B.exec
  have hb := B.bytes
  have hr := B.returns
  have ht : ∀ w ∈ wT, w.before _ s = true := fun w h => atoms_spec (ws := wm yP_shorten kP_shorten 2 none) B.pre w (List.mem_cons_of_mem _ h)
  have hown : s.vm.findClass "NodeMaker$Pieces" = some m.cls := findClass_of_methodNamed B.named
  have hlocks := B.notSynchronized
  subst hsz
  have hD := hD0.self (sz := s.heap.size)
  generalize hAe : va_A (piW g a r q cap f (fun k => (L k).length)) s.heap.size = A at hD ⊢
  have hA : ∀ q : Nat, s.heap.size ≤ q → A q := fun q h => by rw [← hAe]; exact Or.inr h
  have hS : va_S A s.heap s.heap [] := va_S.rf
  have hl := lv_entry ([.ref a, .int i]) (n := 2) (Nat.le_of_ble_eq_true rfl)
  rw [lg_entry_eq]
  generalize (lg_sl ([.ref a, .int i]) ++ List.replicate (2 - (lg_sl ([.ref a, .int i])).length) Slot.unset).toArray = ls at hl ⊢
  have hl : lv_has ls 2 [(0, .ref a), (1, .int i)] := hl
  refine lv_aload_n hx hb dP_shorten_0 rfl (lv_at hl 0 rfl) ?_
  refine va_get (D := g.1) (ci := 1) (v := .ref (r 0)) (C := "NodeMaker$Pieces") (T := Fd_P) (N := 3) hx hb ht i_P hown hK.1 hP 0 rfl rfl 0 (by decide) (ht _ q_93) (fun _ h9 => h9) rfl dP_shorten_1 ?_
  refine lv_iload_n hx hb dP_shorten_4 rfl (lv_at hl 1 rfl) ?_
  have hPc := hP.sub (ws' := (rowW g (r 0) (q 0) (cap 0) (f 0) (L 0).length)) [1, 2] rfl
  have hDc := hD.sub (ws' := (rowW g (r 0) (q 0) (cap 0) (f 0) (L 0).length)) [1, 2] (by decide) rfl
  refine rw_v (wr := [(a, .inr (1, [.ref (r 0), .ref (r 1), .ref (r 2)])), ((r 1), .inr (0, [.ref (q 1), .int (nI (L 1).length)])), ((q 1), .inl (g.2 0, (cap 1), .inl (f 1))), ((r 2), .inr (0, [.ref (q 2), .int (nI (L 2).length)])), ((q 2), .inl (g.2 0, (cap 2), .inl (f 2)))]) (va_runV (As := [.int i]) (rest := []) ⟨hx, hb, hml, hown, ht⟩ (cR_shorten l g s.heap.size (r 0) (q 0) (cap 0) (f 0) (L 0) (hrow 0 (by decide)) i) (cwV 1 ht (g_V q_272 q_265 q_266 q_35 q_267) rfl rfl rfl hd_R_shorten ⟨Nat.le_of_ble_eq_true rfl, Nat.le_of_ble_eq_true rfl⟩) (rw_V hK hPc hDc (va_recv hK.1 hPc (ci := 0) (q0 := 0) rfl rfl)) rfl rfl hl.1 rfl (lv_room (Nat.le_of_ble_eq_true rfl)) dP_shorten_5 ⟨by show 0 + 0 ≤ 0; omega, by show 0 + 0 ≤ 0; omega⟩) hP hD hS hA [1, 2] [0, 3, 4, 5, 6] rfl rfl (by decide) (by decide) (fun _ H locs hw hP hD hS => ?_)
  have hP : va_P g.1 vwCl [(a, .inr (1, [.ref (r 0), .ref (r 1), .ref (r 2)])), ((r 1), .inr (0, [.ref (q 1), .int (nI (L 1).length)])), ((q 1), .inl (g.2 0, (cap 1), .inl (f 1))), ((r 2), .inr (0, [.ref (q 2), .int (nI (L 2).length)])), ((q 2), .inl (g.2 0, (cap 2), .inl (f 2))), ((r 0), .inr (0, [.ref (q 0), .int (nI (rCut (L 0) i).length)])), ((q 0), .inl (g.2 0, (cap 0), .inl (f 0)))] H := hP
  have hD : va_D A [(a, .inr (1, [.ref (r 0), .ref (r 1), .ref (r 2)])), ((r 1), .inr (0, [.ref (q 1), .int (nI (L 1).length)])), ((q 1), .inl (g.2 0, (cap 1), .inl (f 1))), ((r 2), .inr (0, [.ref (q 2), .int (nI (L 2).length)])), ((q 2), .inl (g.2 0, (cap 2), .inl (f 2))), ((r 0), .inr (0, [.ref (q 0), .int (nI (rCut (L 0) i).length)])), ((q 0), .inl (g.2 0, (cap 0), .inl (f 0)))] := hD
  have hw0 := hw
  refine lv_aload_n hx hb dP_shorten_8 rfl (lv_at hl 0 rfl) ?_
  refine va_get (D := g.1) (ci := 1) (v := .ref (r 1)) (C := "NodeMaker$Pieces") (T := Fd_P) (N := 3) hx hb ht i_P hown hK.1 hP 0 rfl rfl 1 (by decide) (ht _ q_94) (fun _ h9 => h9) rfl dP_shorten_9 ?_
  refine lv_iload_n hx hb dP_shorten_12 rfl (lv_at hl 1 rfl) ?_
  have hPc := hP.sub (ws' := (rowW g (r 1) (q 1) (cap 1) (f 1) (L 1).length)) [1, 2] rfl
  have hDc := hD.sub (ws' := (rowW g (r 1) (q 1) (cap 1) (f 1) (L 1).length)) [1, 2] (by decide) rfl
  refine rw_v (wr := [(a, .inr (1, [.ref (r 0), .ref (r 1), .ref (r 2)])), ((r 2), .inr (0, [.ref (q 2), .int (nI (L 2).length)])), ((q 2), .inl (g.2 0, (cap 2), .inl (f 2))), ((r 0), .inr (0, [.ref (q 0), .int (nI (rCut (L 0) i).length)])), ((q 0), .inl (g.2 0, (cap 0), .inl (f 0)))]) (va_runV (As := [.int i]) (rest := []) ⟨hx, hb, hml, hown, ht⟩ (cR_shorten l g H.size (r 1) (q 1) (cap 1) (f 1) (L 1) (hrow 1 (by decide)) i) (cwV 1 ht (g_V q_272 q_265 q_266 q_35 q_267) rfl rfl rfl hd_R_shorten ⟨Nat.le_of_ble_eq_true rfl, Nat.le_of_ble_eq_true rfl⟩) (rw_V hK hPc hDc (va_recv hK.1 hPc (ci := 0) (q0 := 0) rfl rfl)) rfl rfl hl.1 rfl (lv_room (Nat.le_of_ble_eq_true rfl)) dP_shorten_13 ⟨by show 0 + 0 + 0 ≤ 0; omega, by show 0 + 0 + 0 ≤ 0; omega⟩) hP hD hS hA [1, 2] [0, 3, 4, 5, 6] rfl rfl (by decide) (by decide) (fun _ H locs hw hP hD hS => ?_)
  have hP : va_P g.1 vwCl [(a, .inr (1, [.ref (r 0), .ref (r 1), .ref (r 2)])), ((r 2), .inr (0, [.ref (q 2), .int (nI (L 2).length)])), ((q 2), .inl (g.2 0, (cap 2), .inl (f 2))), ((r 0), .inr (0, [.ref (q 0), .int (nI (rCut (L 0) i).length)])), ((q 0), .inl (g.2 0, (cap 0), .inl (f 0))), ((r 1), .inr (0, [.ref (q 1), .int (nI (rCut (L 1) i).length)])), ((q 1), .inl (g.2 0, (cap 1), .inl (f 1)))] H := hP
  have hD : va_D A [(a, .inr (1, [.ref (r 0), .ref (r 1), .ref (r 2)])), ((r 2), .inr (0, [.ref (q 2), .int (nI (L 2).length)])), ((q 2), .inl (g.2 0, (cap 2), .inl (f 2))), ((r 0), .inr (0, [.ref (q 0), .int (nI (rCut (L 0) i).length)])), ((q 0), .inl (g.2 0, (cap 0), .inl (f 0))), ((r 1), .inr (0, [.ref (q 1), .int (nI (rCut (L 1) i).length)])), ((q 1), .inl (g.2 0, (cap 1), .inl (f 1)))] := hD
  have hw1 := hw
  refine lv_aload_n hx hb dP_shorten_16 rfl (lv_at hl 0 rfl) ?_
  refine va_get (D := g.1) (ci := 1) (v := .ref (r 2)) (C := "NodeMaker$Pieces") (T := Fd_P) (N := 3) hx hb ht i_P hown hK.1 hP 0 rfl rfl 2 (by decide) (ht _ q_95) (fun _ h9 => h9) rfl dP_shorten_17 ?_
  refine lv_iload_n hx hb dP_shorten_20 rfl (lv_at hl 1 rfl) ?_
  have hPc := hP.sub (ws' := (rowW g (r 2) (q 2) (cap 2) (f 2) (L 2).length)) [1, 2] rfl
  have hDc := hD.sub (ws' := (rowW g (r 2) (q 2) (cap 2) (f 2) (L 2).length)) [1, 2] (by decide) rfl
  refine rw_v (wr := [(a, .inr (1, [.ref (r 0), .ref (r 1), .ref (r 2)])), ((r 0), .inr (0, [.ref (q 0), .int (nI (rCut (L 0) i).length)])), ((q 0), .inl (g.2 0, (cap 0), .inl (f 0))), ((r 1), .inr (0, [.ref (q 1), .int (nI (rCut (L 1) i).length)])), ((q 1), .inl (g.2 0, (cap 1), .inl (f 1)))]) (va_runV (As := [.int i]) (rest := []) ⟨hx, hb, hml, hown, ht⟩ (cR_shorten l g H.size (r 2) (q 2) (cap 2) (f 2) (L 2) (hrow 2 (by decide)) i) (cwV 1 ht (g_V q_272 q_265 q_266 q_35 q_267) rfl rfl rfl hd_R_shorten ⟨Nat.le_of_ble_eq_true rfl, Nat.le_of_ble_eq_true rfl⟩) (rw_V hK hPc hDc (va_recv hK.1 hPc (ci := 0) (q0 := 0) rfl rfl)) rfl rfl hl.1 rfl (lv_room (Nat.le_of_ble_eq_true rfl)) dP_shorten_21 ⟨by show 0 + 0 + 0 + 0 ≤ 0; omega, by show 0 + 0 + 0 + 0 ≤ 0; omega⟩) hP hD hS hA [1, 2] [0, 3, 4, 5, 6] rfl rfl (by decide) (by decide) (fun _ H locs hw hP hD hS => ?_)
  have hP : va_P g.1 vwCl [(a, .inr (1, [.ref (r 0), .ref (r 1), .ref (r 2)])), ((r 0), .inr (0, [.ref (q 0), .int (nI (rCut (L 0) i).length)])), ((q 0), .inl (g.2 0, (cap 0), .inl (f 0))), ((r 1), .inr (0, [.ref (q 1), .int (nI (rCut (L 1) i).length)])), ((q 1), .inl (g.2 0, (cap 1), .inl (f 1))), ((r 2), .inr (0, [.ref (q 2), .int (nI (rCut (L 2) i).length)])), ((q 2), .inl (g.2 0, (cap 2), .inl (f 2)))] H := hP
  have hD : va_D A [(a, .inr (1, [.ref (r 0), .ref (r 1), .ref (r 2)])), ((r 0), .inr (0, [.ref (q 0), .int (nI (rCut (L 0) i).length)])), ((q 0), .inl (g.2 0, (cap 0), .inl (f 0))), ((r 1), .inr (0, [.ref (q 1), .int (nI (rCut (L 1) i).length)])), ((q 1), .inl (g.2 0, (cap 1), .inl (f 1))), ((r 2), .inr (0, [.ref (q 2), .int (nI (rCut (L 2) i).length)])), ((q 2), .inl (g.2 0, (cap 2), .inl (f 2)))] := hD
  have hw2 := hw
  have hP9 := hP.sub (ws' := (piW g a r q cap f (fun k => (rCut (L k) i).length))) [0, 1, 2, 3, 4, 5, 6] rfl
  have hD9 := hD.sub (ws' := (piW g a r q cap f (fun k => (rCut (L k) i).length))) [0, 1, 2, 3, 4, 5, 6] (by decide) rfl
  exact W.vret hx hb hr (fun t ht9 hW => ⟨⟨(), rfl, rows3_of hw0 hw1 hw2, by rw [ht9]; exact hP9, hD9⟩, hS.F ht9⟩) hS.2.2 dP_shorten_24
theorem nwm_P_9 {U : State} (h : NW U) : va_Nw (.methodLinkNest "NodeMaker$Pieces" 9 yR_init "NodeMaker") U := h.2.2.2.2.1
theorem nwm_T_42 {U : State} (h : NW U) : va_Nw (.methodLinkNest "NodeMaker$Tree" 42 yP_init "NodeMaker") U := h.2.2.2.1
theorem nwm_T_20 {U : State} (h : NW U) : va_Nw (.methodLinkNest "NodeMaker$Tree" 20 yR_init "NodeMaker") U := h.2.2.1
theorem nwm_T_11 {U : State} (h : NW U) : va_Nw (.methodLinkNest "NodeMaker$Tree" 11 yS_init "NodeMaker") U := h.2.1
theorem nwm_N_11 {U : State} (h : NW U) : va_Nw (.methodLinkNest "NodeMaker" 11 yT_init "NodeMaker") U := h.1
set_option maxHeartbeats 4000000 in
set_option maxRecDepth 100000 in
theorem cP_init (l : Launch) (g : CX) (sz : Nat) (a : Nat) : Met l yP_init (wm yP_init kP_init 1 none) ({ frames := 2, cells := 6, slots := 198, locals := 32 }) (rw g [.ref a] [(a, .inr (1, [.null, .null, .null]))] sz) (va_Qv (fun (u : (Nat → Nat) × (Nat → Nat)) => True) (rB g (va_A [(a, .inr (1, [.null, .null, .null]))] sz) (fun u => (piW g a u.1 u.2 (fun _ => 64) (fun _ _ => 0) (fun _ => 0)))) (va_A [(a, .inr (1, [.null, .null, .null]))] sz)) 6 198 (va_A [(a, .inr (1, [.null, .null, .null]))] sz) := by
  refine Met.ofW (cc := kP_init) (maxL := 1) (ret := none) (by decide) rfl ?_
  intro p e s m args below meth c s₁ B hml hv
  obtain ⟨rfl, hsz, hK, hP, hD0⟩ := hv
  have hx := B.exec
  have hb := B.bytes
  have hr := B.returns
  have ht : ∀ w ∈ wT, w.before _ s = true := fun w h => atoms_spec (ws := wm yP_init kP_init 1 none) B.pre w (List.mem_cons_of_mem _ h)
  have hown : s.vm.findClass "NodeMaker$Pieces" = some m.cls := findClass_of_methodNamed B.named
  have hlocks := B.notSynchronized
  have hin : meth.name = "<init>" := (name_of_methodNamed B.named B.method).1
  subst hsz
  have hD := hD0.self (sz := s.heap.size)
  generalize hAe : va_A [(a, .inr (1, [.null, .null, .null]))] s.heap.size = A at hD ⊢
  have hA : ∀ q : Nat, s.heap.size ≤ q → A q := fun q h => by rw [← hAe]; exact Or.inr h
  have hS : va_S A s.heap s.heap [] := va_S.rf
  have hl := lv_entry ([.ref a]) (n := 1) (Nat.le_of_ble_eq_true rfl)
  rw [lg_entry_eq]
  generalize (lg_sl ([.ref a]) ++ List.replicate (1 - (lg_sl ([.ref a])).length) Slot.unset).toArray = ls at hl ⊢
  have hl : lv_has ls 1 [(0, .ref a)] := hl
  refine lv_aload_n hx hb dP_init_0 rfl (lv_at hl 0 rfl) ?_
  refine W.objInit hx hb hown (ht _ q_90) (ht _ q_48) (ht _ q_49) rfl (by rw [hml]; exact hl.1) rfl dP_init_1 (Nat.le_of_ble_eq_true rfl) (Nat.le_of_ble_eq_true rfl) ?_
  refine W.eq (g2 := F0 m 4 ls []) rfl ?_
  refine lv_aload_n hx hb dP_init_4 rfl (lv_at hl 0 rfl) ?_
  refine va_new (ci := 0) (fs := [.null, .int 0]) (C := "NodeMaker$Row") (T := Fd_R) (N := 2) hx hb ht i_R ty_R ty_R_ok hown (ht _ q_91) (ht _ q_72) (ht _ q_35) hK.1 hP hD hS hA rfl (fun j hj => by rcases (show j = 0 ∨ j = 1 by omega) with rfl | rfl <;> rfl) (by show 0 + 1 ≤ 6; omega) (by show 0 + 2 ≤ 198; omega) dP_init_5 (fun o_2 H hP hD hS => ?_)
  have hP : va_P g.1 vwCl [(a, .inr (1, [.null, .null, .null])), (o_2, .inr (0, [.null, .int 0]))] H := hP
  have hD : va_D A [(a, .inr (1, [.null, .null, .null])), (o_2, .inr (0, [.null, .int 0]))] := hD
  refine lv_dup hx hb dP_init_8 rfl ?_
  have hPc := hP.sub (ws' := [(o_2, .inr (0, [.null, .int 0]))]) [1] rfl
  have hDc := hD.sub (ws' := [(o_2, .inr (0, [.null, .int 0]))]) [1] (by decide) rfl
  refine rw_v (wr := [(a, .inr (1, [.null, .null, .null]))]) (va_runIN (As := []) (rest := [.ref o_2, .ref a]) ⟨hx, hb, hml, hown, ht⟩ (cR_init l g H.size o_2) ⟨va_cnB 0 ht (g_all q_75) rfl rfl rfl (nwm_P_9 hK.2) (ht _ q_35) hd_R_init ⟨Nat.le_of_ble_eq_true rfl, Nat.le_of_ble_eq_true rfl⟩, rfl, ht _ q_74⟩ (rw_S hK hPc hDc) rfl rfl hl.1 rfl (lv_room (Nat.le_of_ble_eq_true rfl)) dP_init_9 ⟨by show 0 + 1 + 1 ≤ 6; omega, by show 0 + 2 + 64 ≤ 198; omega⟩) hP hD hS hA [1] [0] rfl rfl (by decide) (by decide) (fun u_3 H locs hw hP hD hS => ?_)
  have hP : va_P g.1 vwCl [(a, .inr (1, [.null, .null, .null])), (o_2, .inr (0, [.ref u_3, .int (nI 0)])), (u_3, .inl (g.2 0, 64, .inl (fun _ => 0)))] H := hP
  have hD : va_D A [(a, .inr (1, [.null, .null, .null])), (o_2, .inr (0, [.ref u_3, .int (nI 0)])), (u_3, .inl (g.2 0, 64, .inl (fun _ => 0)))] := hD
  refine va_putF (D := g.1) (ci := 1) (v := .ref o_2) (ty := (.object "NodeMaker$Row")) (C := "NodeMaker$Pieces") (T := Fd_P) (N := 3) hx hb ht i_P ty_P ty_P_ok nm_P hown hK.1 hP hD hS 0 rfl rfl 0 (by decide) (ht _ q_93) (fun _ h9 => h9) rfl hin rfl (by decide +kernel) rfl rfl (Nat.le_of_ble_eq_true rfl) dP_init_12 (fun H locs hP hD hS => ?_)
  have hP : va_P g.1 vwCl [(a, .inr (1, [.ref o_2, .null, .null])), (o_2, .inr (0, [.ref u_3, .int (nI 0)])), (u_3, .inl (g.2 0, 64, .inl (fun _ => 0)))] H := hP
  have hD : va_D A [(a, .inr (1, [.ref o_2, .null, .null])), (o_2, .inr (0, [.ref u_3, .int (nI 0)])), (u_3, .inl (g.2 0, 64, .inl (fun _ => 0)))] := hD
  refine lv_aload_n hx hb dP_init_15 rfl (lv_at hl 0 rfl) ?_
  refine va_new (ci := 0) (fs := [.null, .int 0]) (C := "NodeMaker$Row") (T := Fd_R) (N := 2) hx hb ht i_R ty_R ty_R_ok hown (ht _ q_91) (ht _ q_72) (ht _ q_35) hK.1 hP hD hS hA rfl (fun j hj => by rcases (show j = 0 ∨ j = 1 by omega) with rfl | rfl <;> rfl) (by show 0 + 1 + 1 + 1 ≤ 6; omega) (by show 0 + 2 + 64 + 2 ≤ 198; omega) dP_init_16 (fun o_4 H hP hD hS => ?_)
  have hP : va_P g.1 vwCl [(a, .inr (1, [.ref o_2, .null, .null])), (o_2, .inr (0, [.ref u_3, .int (nI 0)])), (u_3, .inl (g.2 0, 64, .inl (fun _ => 0))), (o_4, .inr (0, [.null, .int 0]))] H := hP
  have hD : va_D A [(a, .inr (1, [.ref o_2, .null, .null])), (o_2, .inr (0, [.ref u_3, .int (nI 0)])), (u_3, .inl (g.2 0, 64, .inl (fun _ => 0))), (o_4, .inr (0, [.null, .int 0]))] := hD
  refine lv_dup hx hb dP_init_19 rfl ?_
  have hPc := hP.sub (ws' := [(o_4, .inr (0, [.null, .int 0]))]) [3] rfl
  have hDc := hD.sub (ws' := [(o_4, .inr (0, [.null, .int 0]))]) [3] (by decide) rfl
  refine rw_v (wr := [(a, .inr (1, [.ref o_2, .null, .null])), (o_2, .inr (0, [.ref u_3, .int (nI 0)])), (u_3, .inl (g.2 0, 64, .inl (fun _ => 0)))]) (va_runIN (As := []) (rest := [.ref o_4, .ref a]) ⟨hx, hb, hml, hown, ht⟩ (cR_init l g H.size o_4) ⟨va_cnB 0 ht (g_all q_75) rfl rfl rfl (nwm_P_9 hK.2) (ht _ q_35) hd_R_init ⟨Nat.le_of_ble_eq_true rfl, Nat.le_of_ble_eq_true rfl⟩, rfl, ht _ q_74⟩ (rw_S hK hPc hDc) rfl rfl hl.1 rfl (lv_room (Nat.le_of_ble_eq_true rfl)) dP_init_20 ⟨by show 0 + 1 + 1 + 1 + 1 ≤ 6; omega, by show 0 + 2 + 64 + 2 + 64 ≤ 198; omega⟩) hP hD hS hA [3] [0, 1, 2] rfl rfl (by decide) (by decide) (fun u_5 H locs hw hP hD hS => ?_)
  have hP : va_P g.1 vwCl [(a, .inr (1, [.ref o_2, .null, .null])), (o_2, .inr (0, [.ref u_3, .int (nI 0)])), (u_3, .inl (g.2 0, 64, .inl (fun _ => 0))), (o_4, .inr (0, [.ref u_5, .int (nI 0)])), (u_5, .inl (g.2 0, 64, .inl (fun _ => 0)))] H := hP
  have hD : va_D A [(a, .inr (1, [.ref o_2, .null, .null])), (o_2, .inr (0, [.ref u_3, .int (nI 0)])), (u_3, .inl (g.2 0, 64, .inl (fun _ => 0))), (o_4, .inr (0, [.ref u_5, .int (nI 0)])), (u_5, .inl (g.2 0, 64, .inl (fun _ => 0)))] := hD
  refine va_putF (D := g.1) (ci := 1) (v := .ref o_4) (ty := (.object "NodeMaker$Row")) (C := "NodeMaker$Pieces") (T := Fd_P) (N := 3) hx hb ht i_P ty_P ty_P_ok nm_P hown hK.1 hP hD hS 0 rfl rfl 1 (by decide) (ht _ q_94) (fun _ h9 => h9) rfl hin rfl (by decide +kernel) rfl rfl (Nat.le_of_ble_eq_true rfl) dP_init_23 (fun H locs hP hD hS => ?_)
  have hP : va_P g.1 vwCl [(a, .inr (1, [.ref o_2, .ref o_4, .null])), (o_2, .inr (0, [.ref u_3, .int (nI 0)])), (u_3, .inl (g.2 0, 64, .inl (fun _ => 0))), (o_4, .inr (0, [.ref u_5, .int (nI 0)])), (u_5, .inl (g.2 0, 64, .inl (fun _ => 0)))] H := hP
  have hD : va_D A [(a, .inr (1, [.ref o_2, .ref o_4, .null])), (o_2, .inr (0, [.ref u_3, .int (nI 0)])), (u_3, .inl (g.2 0, 64, .inl (fun _ => 0))), (o_4, .inr (0, [.ref u_5, .int (nI 0)])), (u_5, .inl (g.2 0, 64, .inl (fun _ => 0)))] := hD
  refine lv_aload_n hx hb dP_init_26 rfl (lv_at hl 0 rfl) ?_
  refine va_new (ci := 0) (fs := [.null, .int 0]) (C := "NodeMaker$Row") (T := Fd_R) (N := 2) hx hb ht i_R ty_R ty_R_ok hown (ht _ q_91) (ht _ q_72) (ht _ q_35) hK.1 hP hD hS hA rfl (fun j hj => by rcases (show j = 0 ∨ j = 1 by omega) with rfl | rfl <;> rfl) (by show 0 + 1 + 1 + 1 + 1 + 1 ≤ 6; omega) (by show 0 + 2 + 64 + 2 + 64 + 2 ≤ 198; omega) dP_init_27 (fun o_6 H hP hD hS => ?_)
  have hP : va_P g.1 vwCl [(a, .inr (1, [.ref o_2, .ref o_4, .null])), (o_2, .inr (0, [.ref u_3, .int (nI 0)])), (u_3, .inl (g.2 0, 64, .inl (fun _ => 0))), (o_4, .inr (0, [.ref u_5, .int (nI 0)])), (u_5, .inl (g.2 0, 64, .inl (fun _ => 0))), (o_6, .inr (0, [.null, .int 0]))] H := hP
  have hD : va_D A [(a, .inr (1, [.ref o_2, .ref o_4, .null])), (o_2, .inr (0, [.ref u_3, .int (nI 0)])), (u_3, .inl (g.2 0, 64, .inl (fun _ => 0))), (o_4, .inr (0, [.ref u_5, .int (nI 0)])), (u_5, .inl (g.2 0, 64, .inl (fun _ => 0))), (o_6, .inr (0, [.null, .int 0]))] := hD
  refine lv_dup hx hb dP_init_30 rfl ?_
  have hPc := hP.sub (ws' := [(o_6, .inr (0, [.null, .int 0]))]) [5] rfl
  have hDc := hD.sub (ws' := [(o_6, .inr (0, [.null, .int 0]))]) [5] (by decide) rfl
  refine rw_v (wr := [(a, .inr (1, [.ref o_2, .ref o_4, .null])), (o_2, .inr (0, [.ref u_3, .int (nI 0)])), (u_3, .inl (g.2 0, 64, .inl (fun _ => 0))), (o_4, .inr (0, [.ref u_5, .int (nI 0)])), (u_5, .inl (g.2 0, 64, .inl (fun _ => 0)))]) (va_runIN (As := []) (rest := [.ref o_6, .ref a]) ⟨hx, hb, hml, hown, ht⟩ (cR_init l g H.size o_6) ⟨va_cnB 0 ht (g_all q_75) rfl rfl rfl (nwm_P_9 hK.2) (ht _ q_35) hd_R_init ⟨Nat.le_of_ble_eq_true rfl, Nat.le_of_ble_eq_true rfl⟩, rfl, ht _ q_74⟩ (rw_S hK hPc hDc) rfl rfl hl.1 rfl (lv_room (Nat.le_of_ble_eq_true rfl)) dP_init_31 ⟨by show 0 + 1 + 1 + 1 + 1 + 1 + 1 ≤ 6; omega, by show 0 + 2 + 64 + 2 + 64 + 2 + 64 ≤ 198; omega⟩) hP hD hS hA [5] [0, 1, 2, 3, 4] rfl rfl (by decide) (by decide) (fun u_7 H locs hw hP hD hS => ?_)
  have hP : va_P g.1 vwCl [(a, .inr (1, [.ref o_2, .ref o_4, .null])), (o_2, .inr (0, [.ref u_3, .int (nI 0)])), (u_3, .inl (g.2 0, 64, .inl (fun _ => 0))), (o_4, .inr (0, [.ref u_5, .int (nI 0)])), (u_5, .inl (g.2 0, 64, .inl (fun _ => 0))), (o_6, .inr (0, [.ref u_7, .int (nI 0)])), (u_7, .inl (g.2 0, 64, .inl (fun _ => 0)))] H := hP
  have hD : va_D A [(a, .inr (1, [.ref o_2, .ref o_4, .null])), (o_2, .inr (0, [.ref u_3, .int (nI 0)])), (u_3, .inl (g.2 0, 64, .inl (fun _ => 0))), (o_4, .inr (0, [.ref u_5, .int (nI 0)])), (u_5, .inl (g.2 0, 64, .inl (fun _ => 0))), (o_6, .inr (0, [.ref u_7, .int (nI 0)])), (u_7, .inl (g.2 0, 64, .inl (fun _ => 0)))] := hD
  refine va_putF (D := g.1) (ci := 1) (v := .ref o_6) (ty := (.object "NodeMaker$Row")) (C := "NodeMaker$Pieces") (T := Fd_P) (N := 3) hx hb ht i_P ty_P ty_P_ok nm_P hown hK.1 hP hD hS 0 rfl rfl 2 (by decide) (ht _ q_95) (fun _ h9 => h9) rfl hin rfl (by decide +kernel) rfl rfl (Nat.le_of_ble_eq_true rfl) dP_init_34 (fun H locs hP hD hS => ?_)
  have hP : va_P g.1 vwCl [(a, .inr (1, [.ref o_2, .ref o_4, .ref o_6])), (o_2, .inr (0, [.ref u_3, .int (nI 0)])), (u_3, .inl (g.2 0, 64, .inl (fun _ => 0))), (o_4, .inr (0, [.ref u_5, .int (nI 0)])), (u_5, .inl (g.2 0, 64, .inl (fun _ => 0))), (o_6, .inr (0, [.ref u_7, .int (nI 0)])), (u_7, .inl (g.2 0, 64, .inl (fun _ => 0)))] H := hP
  have hD : va_D A [(a, .inr (1, [.ref o_2, .ref o_4, .ref o_6])), (o_2, .inr (0, [.ref u_3, .int (nI 0)])), (u_3, .inl (g.2 0, 64, .inl (fun _ => 0))), (o_4, .inr (0, [.ref u_5, .int (nI 0)])), (u_5, .inl (g.2 0, 64, .inl (fun _ => 0))), (o_6, .inr (0, [.ref u_7, .int (nI 0)])), (u_7, .inl (g.2 0, 64, .inl (fun _ => 0)))] := hD
  have hP9 := hP.sub (ws' := (piW g a (t3 o_2 o_4 o_6) (t3 u_3 u_5 u_7) (fun _ => 64) (fun _ _ => 0) (fun _ => 0))) [0, 1, 2, 3, 4, 5, 6] rfl
  have hD9 := hD.sub (ws' := (piW g a (t3 o_2 o_4 o_6) (t3 u_3 u_5 u_7) (fun _ => 64) (fun _ _ => 0) (fun _ => 0))) [0, 1, 2, 3, 4, 5, 6] (by decide) rfl
  exact W.vret hx hb hr (fun t ht9 hW => ⟨⟨(t3 o_2 o_4 o_6, t3 u_3 u_5 u_7), rfl, trivial, by rw [ht9]; exact hP9, hD9⟩, hS.F ht9⟩) hS.2.2 dP_init_37
end
section
abbrev WV : Type := Int32 × Int32 × Int32 × Int32
/-- a wall's cell -/
abbrev wE (v : WV) : va_E := .inr (2, [.int v.1, .int v.2.1, .int v.2.2.1, .int v.2.2.2])
theorem hd_W_init : yW_init.cls ≠ "java/lang/invoke/MethodHandle" ∧ yW_init.cls ≠ "java/lang/invoke/VarHandle" ∧ (parseMethodDescriptor yW_init.desc).map (fun d => d.parameters.length) = some 4 := by decide +kernel
theorem hd_W_side : yW_side.cls = "NodeMaker$Wall" ∧ yW_side.cls ≠ "java/lang/invoke/MethodHandle" ∧ yW_side.cls ≠ "java/lang/invoke/VarHandle" ∧ (parseMethodDescriptor yW_side.desc).map (fun d => d.parameters.length) = some 2 := by decide +kernel
theorem hd_W_hasEnd : yW_hasEnd.cls = "NodeMaker$Wall" ∧ yW_hasEnd.cls ≠ "java/lang/invoke/MethodHandle" ∧ yW_hasEnd.cls ≠ "java/lang/invoke/VarHandle" ∧ (parseMethodDescriptor yW_hasEnd.desc).map (fun d => d.parameters.length) = some 2 := by decide +kernel
theorem hd_W_hasWithin : yW_hasWithin.cls = "NodeMaker$Wall" ∧ yW_hasWithin.cls ≠ "java/lang/invoke/MethodHandle" ∧ yW_hasWithin.cls ≠ "java/lang/invoke/VarHandle" ∧ (parseMethodDescriptor yW_hasWithin.desc).map (fun d => d.parameters.length) = some 2 := by decide +kernel
theorem hd_W_parts : yW_parts.cls = "NodeMaker$Wall" ∧ yW_parts.cls ≠ "java/lang/invoke/MethodHandle" ∧ yW_parts.cls ≠ "java/lang/invoke/VarHandle" ∧ (parseMethodDescriptor yW_parts.desc).map (fun d => d.parameters.length) = some 1 := by decide +kernel
theorem hd_W_clashes : yW_clashes.cls = "NodeMaker$Wall" ∧ yW_clashes.cls ≠ "java/lang/invoke/MethodHandle" ∧ yW_clashes.cls ≠ "java/lang/invoke/VarHandle" ∧ (parseMethodDescriptor yW_clashes.desc).map (fun d => d.parameters.length) = some 1 := by decide +kernel
def sW_side (v : WV) (x y : Int32) : Int64 :=
  ((((v.2.2.1 - v.1).toInt64) * ((y - v.2.1).toInt64)) - (((v.2.2.2 - v.2.1).toInt64) * ((x - v.1).toInt64)))
set_option maxHeartbeats 4000000 in
set_option maxRecDepth 100000 in
theorem cW_side (l : Launch) (g : CX) (a : Nat) (v : WV) (x y : Int32) : Met l yW_side (wm yW_side kW_side 3 (some .long)) ({ frames := 0, cells := 0, slots := 0, locals := 0 }) (ro g [.ref a, .int x, .int y] (va_P g.1 vwCl [(a, wE v)])) (vp_Sl (fun r => r = sW_side v x y)) 0 0 (fun _ => False) := by
  refine Met.ofW (cc := kW_side) (maxL := 3) (ret := (some .long)) (by decide) rfl ?_
  intro p e s m args below meth c s₁ B hml hv
  obtain ⟨rfl, hK, hP⟩ := hv
  have hx := B.exec
  have hb := B.bytes
  have hr := B.returns
  have ht : ∀ w ∈ wT, w.before _ s = true := fun w h => atoms_spec (ws := wm yW_side kW_side 3 (some .long)) B.pre w (List.mem_cons_of_mem _ h)
  have hown : s.vm.findClass "NodeMaker$Wall" = some m.cls := findClass_of_methodNamed B.named
  have hlocks := B.notSynchronized
  have hl := lv_entry ([.ref a, .int x, .int y]) (n := 3) (Nat.le_of_ble_eq_true rfl)
  rw [lg_entry_eq]
  generalize (lg_sl ([.ref a, .int x, .int y]) ++ List.replicate (3 - (lg_sl ([.ref a, .int x, .int y])).length) Slot.unset).toArray = ls at hl ⊢
  have hl : lv_has ls 3 [(0, .ref a), (1, .int x), (2, .int y)] := hl
  refine lv_aload_n hx hb dW_side_0 rfl (lv_at hl 0 rfl) ?_
  refine va_get (D := g.1) (ci := 2) (v := .int v.2.2.1) (C := "NodeMaker$Wall") (T := Fd_W) (N := 4) hx hb ht i_W hown hK.1 hP 0 rfl rfl 2 (by decide) (ht _ q_175) (fun _ h9 => h9) rfl dW_side_1 ?_
  refine lv_aload_n hx hb dW_side_4 rfl (lv_at hl 0 rfl) ?_
  refine va_get (D := g.1) (ci := 2) (v := .int v.1) (C := "NodeMaker$Wall") (T := Fd_W) (N := 4) hx hb ht i_W hown hK.1 hP 0 rfl rfl 0 (by decide) (ht _ q_169) (fun _ h9 => h9) rfl dW_side_5 ?_
  refine lv_isub hx hb dW_side_8 ?_
  refine lv_i2l hx hb dW_side_9 rfl ?_
  refine lv_iload_n hx hb dW_side_10 rfl (lv_at hl 2 rfl) ?_
  refine lv_aload_n hx hb dW_side_11 rfl (lv_at hl 0 rfl) ?_
  refine va_get (D := g.1) (ci := 2) (v := .int v.2.1) (C := "NodeMaker$Wall") (T := Fd_W) (N := 4) hx hb ht i_W hown hK.1 hP 0 rfl rfl 1 (by decide) (ht _ q_172) (fun _ h9 => h9) rfl dW_side_12 ?_
  refine lv_isub hx hb dW_side_15 ?_
  refine lv_i2l hx hb dW_side_16 rfl ?_
  refine lv_lmul hx hb dW_side_17 ?_
  refine lv_aload_n hx hb dW_side_18 rfl (lv_at hl 0 rfl) ?_
  refine va_get (D := g.1) (ci := 2) (v := .int v.2.2.2) (C := "NodeMaker$Wall") (T := Fd_W) (N := 4) hx hb ht i_W hown hK.1 hP 0 rfl rfl 3 (by decide) (ht _ q_178) (fun _ h9 => h9) rfl dW_side_19 ?_
  refine lv_aload_n hx hb dW_side_22 rfl (lv_at hl 0 rfl) ?_
  refine va_get (D := g.1) (ci := 2) (v := .int v.2.1) (C := "NodeMaker$Wall") (T := Fd_W) (N := 4) hx hb ht i_W hown hK.1 hP 0 rfl rfl 1 (by decide) (ht _ q_172) (fun _ h9 => h9) rfl dW_side_23 ?_
  refine lv_isub hx hb dW_side_26 ?_
  refine lv_i2l hx hb dW_side_27 rfl ?_
  refine lv_iload_n hx hb dW_side_28 rfl (lv_at hl 1 rfl) ?_
  refine lv_aload_n hx hb dW_side_29 rfl (lv_at hl 0 rfl) ?_
  refine va_get (D := g.1) (ci := 2) (v := .int v.1) (C := "NodeMaker$Wall") (T := Fd_W) (N := 4) hx hb ht i_W hown hK.1 hP 0 rfl rfl 0 (by decide) (ht _ q_169) (fun _ h9 => h9) rfl dW_side_30 ?_
  refine lv_isub hx hb dW_side_33 ?_
  refine lv_i2l hx hb dW_side_34 rfl ?_
  refine lv_lmul hx hb dW_side_35 ?_
  refine lv_lsub hx hb dW_side_36 ?_
  exact W.lret hx hb hr (fun t ht9 hW => ⟨_, rfl, rfl, ht9⟩) (fun q h => by cases h) dW_side_37
def sW_hasEnd (v : WV) (x y : Int32) : Int32 :=
  if x = v.1 then
    if y = v.2.1 then
      1
    else
      if x = v.2.2.1 then
        if y = v.2.2.2 then
          1
        else
          0
      else
        0
  else
    if x = v.2.2.1 then
      if y = v.2.2.2 then
        1
      else
        0
    else
      0
set_option maxHeartbeats 4000000 in
set_option maxRecDepth 100000 in
theorem cW_hasEnd (l : Launch) (g : CX) (a : Nat) (v : WV) (x y : Int32) : Met l yW_hasEnd (wm yW_hasEnd kW_hasEnd 3 (some .boolean)) ({ frames := 0, cells := 0, slots := 0, locals := 0 }) (ro g [.ref a, .int x, .int y] (va_P g.1 vwCl [(a, wE v)])) (vp_Si (fun r => r = sW_hasEnd v x y)) 0 0 (fun _ => False) := by
  refine Met.ofW (cc := kW_hasEnd) (maxL := 3) (ret := (some .boolean)) (by decide) rfl ?_
  intro p e s m args below meth c s₁ B hml hv
  obtain ⟨rfl, hK, hP⟩ := hv
  have hx := B.exec
  have hb := B.bytes
  have hr := B.returns
  have ht : ∀ w ∈ wT, w.before _ s = true := fun w h => atoms_spec (ws := wm yW_hasEnd kW_hasEnd 3 (some .boolean)) B.pre w (List.mem_cons_of_mem _ h)
  have hown : s.vm.findClass "NodeMaker$Wall" = some m.cls := findClass_of_methodNamed B.named
  have hlocks := B.notSynchronized
  have hl := lv_entry ([.ref a, .int x, .int y]) (n := 3) (Nat.le_of_ble_eq_true rfl)
  rw [lg_entry_eq]
  generalize (lg_sl ([.ref a, .int x, .int y]) ++ List.replicate (3 - (lg_sl ([.ref a, .int x, .int y])).length) Slot.unset).toArray = ls at hl ⊢
  have hl : lv_has ls 3 [(0, .ref a), (1, .int x), (2, .int y)] := hl
  refine lv_iload_n hx hb dW_hasEnd_0 rfl (lv_at hl 1 rfl) ?_
  refine lv_aload_n hx hb dW_hasEnd_1 rfl (lv_at hl 0 rfl) ?_
  refine va_get (D := g.1) (ci := 2) (v := .int v.1) (C := "NodeMaker$Wall") (T := Fd_W) (N := 4) hx hb ht i_W hown hK.1 hP 0 rfl rfl 0 (by decide) (ht _ q_169) (fun _ h9 => h9) rfl dW_hasEnd_2 ?_
  refine lv_icmp_ne (tgt := 16) hx hb dW_hasEnd_5 (by decide) (fun c_1 => ?_) (fun c_1 => ?_)
  · skip
    refine lv_iload_n hx hb dW_hasEnd_16 rfl (lv_at hl 1 rfl) ?_
    refine lv_aload_n hx hb dW_hasEnd_17 rfl (lv_at hl 0 rfl) ?_
    refine va_get (D := g.1) (ci := 2) (v := .int v.2.2.1) (C := "NodeMaker$Wall") (T := Fd_W) (N := 4) hx hb ht i_W hown hK.1 hP 0 rfl rfl 2 (by decide) (ht _ q_175) (fun _ h9 => h9) rfl dW_hasEnd_18 ?_
    refine lv_icmp_ne (tgt := 36) hx hb dW_hasEnd_21 (by decide) (fun c_2 => ?_) (fun c_2 => ?_)
    · skip
      refine lv_iconst (v := 0) hx hb dW_hasEnd_36 (by decide) ?_
      exact W.zret hx hb hr rfl (fun t ht9 hW => ⟨_, rfl, by rw [sW_hasEnd, if_neg c_1, if_neg c_2], ht9⟩) (fun q h => by cases h) dW_hasEnd_37
    · skip
      refine lv_iload_n hx hb dW_hasEnd_24 rfl (lv_at hl 2 rfl) ?_
      refine lv_aload_n hx hb dW_hasEnd_25 rfl (lv_at hl 0 rfl) ?_
      refine va_get (D := g.1) (ci := 2) (v := .int v.2.2.2) (C := "NodeMaker$Wall") (T := Fd_W) (N := 4) hx hb ht i_W hown hK.1 hP 0 rfl rfl 3 (by decide) (ht _ q_178) (fun _ h9 => h9) rfl dW_hasEnd_26 ?_
      refine lv_icmp_ne (tgt := 36) hx hb dW_hasEnd_29 (by decide) (fun c_3 => ?_) (fun c_3 => ?_)
      · skip
        refine lv_iconst (v := 0) hx hb dW_hasEnd_36 (by decide) ?_
        exact W.zret hx hb hr rfl (fun t ht9 hW => ⟨_, rfl, by rw [sW_hasEnd, if_neg c_1, if_pos c_2, if_neg c_3], ht9⟩) (fun q h => by cases h) dW_hasEnd_37
      · skip
        refine lv_iconst (v := 1) hx hb dW_hasEnd_32 (by decide) ?_
        refine lv_goto (tgt := 37) hx hb dW_hasEnd_33 (by decide) ?_
        exact W.zret hx hb hr rfl (fun t ht9 hW => ⟨_, rfl, by rw [sW_hasEnd, if_neg c_1, if_pos c_2, if_pos c_3], ht9⟩) (fun q h => by cases h) dW_hasEnd_37
  · skip
    refine lv_iload_n hx hb dW_hasEnd_8 rfl (lv_at hl 2 rfl) ?_
    refine lv_aload_n hx hb dW_hasEnd_9 rfl (lv_at hl 0 rfl) ?_
    refine va_get (D := g.1) (ci := 2) (v := .int v.2.1) (C := "NodeMaker$Wall") (T := Fd_W) (N := 4) hx hb ht i_W hown hK.1 hP 0 rfl rfl 1 (by decide) (ht _ q_172) (fun _ h9 => h9) rfl dW_hasEnd_10 ?_
    refine lv_icmp_eq (tgt := 32) hx hb dW_hasEnd_13 (by decide) (fun c_4 => ?_) (fun c_4 => ?_)
    · skip
      refine lv_iconst (v := 1) hx hb dW_hasEnd_32 (by decide) ?_
      refine lv_goto (tgt := 37) hx hb dW_hasEnd_33 (by decide) ?_
      exact W.zret hx hb hr rfl (fun t ht9 hW => ⟨_, rfl, by rw [sW_hasEnd, if_pos c_1, if_pos c_4], ht9⟩) (fun q h => by cases h) dW_hasEnd_37
    · skip
      refine lv_iload_n hx hb dW_hasEnd_16 rfl (lv_at hl 1 rfl) ?_
      refine lv_aload_n hx hb dW_hasEnd_17 rfl (lv_at hl 0 rfl) ?_
      refine va_get (D := g.1) (ci := 2) (v := .int v.2.2.1) (C := "NodeMaker$Wall") (T := Fd_W) (N := 4) hx hb ht i_W hown hK.1 hP 0 rfl rfl 2 (by decide) (ht _ q_175) (fun _ h9 => h9) rfl dW_hasEnd_18 ?_
      refine lv_icmp_ne (tgt := 36) hx hb dW_hasEnd_21 (by decide) (fun c_5 => ?_) (fun c_5 => ?_)
      · skip
        refine lv_iconst (v := 0) hx hb dW_hasEnd_36 (by decide) ?_
        exact W.zret hx hb hr rfl (fun t ht9 hW => ⟨_, rfl, by rw [sW_hasEnd, if_pos c_1, if_neg c_4, if_neg c_5], ht9⟩) (fun q h => by cases h) dW_hasEnd_37
      · skip
        refine lv_iload_n hx hb dW_hasEnd_24 rfl (lv_at hl 2 rfl) ?_
        refine lv_aload_n hx hb dW_hasEnd_25 rfl (lv_at hl 0 rfl) ?_
        refine va_get (D := g.1) (ci := 2) (v := .int v.2.2.2) (C := "NodeMaker$Wall") (T := Fd_W) (N := 4) hx hb ht i_W hown hK.1 hP 0 rfl rfl 3 (by decide) (ht _ q_178) (fun _ h9 => h9) rfl dW_hasEnd_26 ?_
        refine lv_icmp_ne (tgt := 36) hx hb dW_hasEnd_29 (by decide) (fun c_6 => ?_) (fun c_6 => ?_)
        · skip
          refine lv_iconst (v := 0) hx hb dW_hasEnd_36 (by decide) ?_
          exact W.zret hx hb hr rfl (fun t ht9 hW => ⟨_, rfl, by rw [sW_hasEnd, if_pos c_1, if_neg c_4, if_pos c_5, if_neg c_6], ht9⟩) (fun q h => by cases h) dW_hasEnd_37
        · skip
          refine lv_iconst (v := 1) hx hb dW_hasEnd_32 (by decide) ?_
          refine lv_goto (tgt := 37) hx hb dW_hasEnd_33 (by decide) ?_
          exact W.zret hx hb hr rfl (fun t ht9 hW => ⟨_, rfl, by rw [sW_hasEnd, if_pos c_1, if_neg c_4, if_pos c_5, if_pos c_6], ht9⟩) (fun q h => by cases h) dW_hasEnd_37
def sW_hasWithin (v : WV) (x y : Int32) : Int32 :=
  if (sW_side v x y) = 0 then
    if (sW_hasEnd v x y) = 0 then
      if x < (if v.2.2.1 < v.1 then v.2.2.1 else v.1) then
        0
      else
        if (if v.1 < v.2.2.1 then v.2.2.1 else v.1) < x then
          0
        else
          if y < (if v.2.2.2 < v.2.1 then v.2.2.2 else v.2.1) then
            0
          else
            if (if v.2.1 < v.2.2.2 then v.2.2.2 else v.2.1) < y then
              0
            else
              1
    else
      0
  else
    0
set_option maxHeartbeats 4000000 in
set_option maxRecDepth 100000 in
theorem cW_hasWithin (l : Launch) (g : CX) (a : Nat) (v : WV) (x y : Int32) : Met l yW_hasWithin (wm yW_hasWithin kW_hasWithin 3 (some .boolean)) ({ frames := 1, cells := 0, slots := 0, locals := 24 }) (ro g [.ref a, .int x, .int y] (va_P g.1 vwCl [(a, wE v)])) (vp_Si (fun r => r = sW_hasWithin v x y)) 0 0 (fun _ => False) := by
  refine Met.ofW (cc := kW_hasWithin) (maxL := 3) (ret := (some .boolean)) (by decide) rfl ?_
  intro p e s m args below meth c s₁ B hml hv
  obtain ⟨rfl, hK, hP⟩ := hv
  have hx := B.exec
  have hb := B.bytes
  have hr := B.returns
  have ht : ∀ w ∈ wT, w.before _ s = true := fun w h => atoms_spec (ws := wm yW_hasWithin kW_hasWithin 3 (some .boolean)) B.pre w (List.mem_cons_of_mem _ h)
  have hown : s.vm.findClass "NodeMaker$Wall" = some m.cls := findClass_of_methodNamed B.named
  have hlocks := B.notSynchronized
  have hl := lv_entry ([.ref a, .int x, .int y]) (n := 3) (Nat.le_of_ble_eq_true rfl)
  rw [lg_entry_eq]
  generalize (lg_sl ([.ref a, .int x, .int y]) ++ List.replicate (3 - (lg_sl ([.ref a, .int x, .int y])).length) Slot.unset).toArray = ls at hl ⊢
  have hl : lv_has ls 3 [(0, .ref a), (1, .int x), (2, .int y)] := hl
  refine lv_aload_n hx hb dW_hasWithin_0 rfl (lv_at hl 0 rfl) ?_
  refine lv_iload_n hx hb dW_hasWithin_1 rfl (lv_at hl 1 rfl) ?_
  refine lv_iload_n hx hb dW_hasWithin_2 rfl (lv_at hl 2 rfl) ?_
  have hPc := hP.sub (ws' := [(a, wE v)]) [0] rfl
  refine ro_Vl (v := sW_side v x y) (As := [.int x, .int y]) (rest := []) ⟨hx, hb, hml, hown, ht⟩ (cW_side l g a v x y) (cwV 2 ht (g_V q_210 q_211 q_212 q_38 q_213) rfl rfl rfl hd_W_side ⟨Nat.le_of_ble_eq_true rfl, Nat.le_of_ble_eq_true rfl⟩) hK (hPc) (va_recv hK.1 hPc (ci := 2) (q0 := 0) rfl rfl) rfl hl.1 rfl (Nat.le_of_ble_eq_true rfl) dW_hasWithin_3 ⟨by show 0 ≤ 0; omega, by show 0 ≤ 0; omega⟩ ?_
  refine lv_lconst (v := 0) hx hb dW_hasWithin_6 (by decide) ?_
  refine W.lcmp hx hb dW_hasWithin_7 ?_
  refine lv_if_ne (tgt := 84) hx hb dW_hasWithin_8 (by decide) (fun c_7 => ?_) (fun c_7 => ?_)
  · skip
    rw [lg_cmp_eq] at c_7
    refine lv_iconst (v := 0) hx hb dW_hasWithin_84 (by decide) ?_
    exact W.zret hx hb hr rfl (fun t ht9 hW => ⟨_, rfl, by rw [sW_hasWithin, if_neg c_7], ht9⟩) (fun q h => by cases h) dW_hasWithin_85
  · skip
    rw [lg_cmp_eq] at c_7
    refine lv_aload_n hx hb dW_hasWithin_11 rfl (lv_at hl 0 rfl) ?_
    refine lv_iload_n hx hb dW_hasWithin_12 rfl (lv_at hl 1 rfl) ?_
    refine lv_iload_n hx hb dW_hasWithin_13 rfl (lv_at hl 2 rfl) ?_
    have hPc := hP.sub (ws' := [(a, wE v)]) [0] rfl
    refine ro_Vi (v := sW_hasEnd v x y) (As := [.int x, .int y]) (rest := []) ⟨hx, hb, hml, hown, ht⟩ (cW_hasEnd l g a v x y) (cwV 2 ht (g_V q_202 q_203 q_204 q_38 q_205) rfl rfl rfl hd_W_hasEnd ⟨Nat.le_of_ble_eq_true rfl, Nat.le_of_ble_eq_true rfl⟩) hK (hPc) (va_recv hK.1 hPc (ci := 2) (q0 := 0) rfl rfl) rfl hl.1 rfl (Nat.le_of_ble_eq_true rfl) dW_hasWithin_14 ⟨by show 0 ≤ 0; omega, by show 0 ≤ 0; omega⟩ ?_
    refine lv_if_ne (tgt := 84) hx hb dW_hasWithin_17 (by decide) (fun c_8 => ?_) (fun c_8 => ?_)
    · skip
      refine lv_iconst (v := 0) hx hb dW_hasWithin_84 (by decide) ?_
      exact W.zret hx hb hr rfl (fun t ht9 hW => ⟨_, rfl, by rw [sW_hasWithin, if_pos c_7, if_neg c_8], ht9⟩) (fun q h => by cases h) dW_hasWithin_85
    · skip
      refine lv_iload_n hx hb dW_hasWithin_20 rfl (lv_at hl 1 rfl) ?_
      refine lv_aload_n hx hb dW_hasWithin_21 rfl (lv_at hl 0 rfl) ?_
      refine va_get (D := g.1) (ci := 2) (v := .int v.1) (C := "NodeMaker$Wall") (T := Fd_W) (N := 4) hx hb ht i_W hown hK.1 hP 0 rfl rfl 0 (by decide) (ht _ q_169) (fun _ h9 => h9) rfl dW_hasWithin_22 ?_
      refine lv_aload_n hx hb dW_hasWithin_25 rfl (lv_at hl 0 rfl) ?_
      refine va_get (D := g.1) (ci := 2) (v := .int v.2.2.1) (C := "NodeMaker$Wall") (T := Fd_W) (N := 4) hx hb ht i_W hown hK.1 hP 0 rfl rfl 2 (by decide) (ht _ q_175) (fun _ h9 => h9) rfl dW_hasWithin_26 ?_
      refine va_mmin hx hb (by rw [hml]; exact hl.1.symm) hown (ht _ q_218) (ht _ q_219) (ht _ q_39) (ht _ q_220) (Nat.le_of_ble_eq_true rfl) (Nat.le_of_ble_eq_true rfl) (by show 0 ≤ 0; omega) (by show 0 ≤ 0; omega) dW_hasWithin_29 ?_
      refine lv_icmp_lt (tgt := 84) hx hb dW_hasWithin_32 (by decide) (fun c_9 => ?_) (fun c_9 => ?_)
      · skip
        refine lv_iconst (v := 0) hx hb dW_hasWithin_84 (by decide) ?_
        exact W.zret hx hb hr rfl (fun t ht9 hW => ⟨_, rfl, by rw [sW_hasWithin, if_pos c_7, if_pos c_8, if_pos c_9], ht9⟩) (fun q h => by cases h) dW_hasWithin_85
      · skip
        refine lv_iload_n hx hb dW_hasWithin_35 rfl (lv_at hl 1 rfl) ?_
        refine lv_aload_n hx hb dW_hasWithin_36 rfl (lv_at hl 0 rfl) ?_
        refine va_get (D := g.1) (ci := 2) (v := .int v.1) (C := "NodeMaker$Wall") (T := Fd_W) (N := 4) hx hb ht i_W hown hK.1 hP 0 rfl rfl 0 (by decide) (ht _ q_169) (fun _ h9 => h9) rfl dW_hasWithin_37 ?_
        refine lv_aload_n hx hb dW_hasWithin_40 rfl (lv_at hl 0 rfl) ?_
        refine va_get (D := g.1) (ci := 2) (v := .int v.2.2.1) (C := "NodeMaker$Wall") (T := Fd_W) (N := 4) hx hb ht i_W hown hK.1 hP 0 rfl rfl 2 (by decide) (ht _ q_175) (fun _ h9 => h9) rfl dW_hasWithin_41 ?_
        refine va_mmax hx hb (by rw [hml]; exact hl.1.symm) hown (ht _ q_221) (ht _ q_222) (ht _ q_39) (ht _ q_223) (Nat.le_of_ble_eq_true rfl) (Nat.le_of_ble_eq_true rfl) (by show 0 ≤ 0; omega) (by show 0 ≤ 0; omega) dW_hasWithin_44 ?_
        refine lv_icmp_gt (tgt := 84) hx hb dW_hasWithin_47 (by decide) (fun c_10 => ?_) (fun c_10 => ?_)
        · skip
          refine lv_iconst (v := 0) hx hb dW_hasWithin_84 (by decide) ?_
          exact W.zret hx hb hr rfl (fun t ht9 hW => ⟨_, rfl, by rw [sW_hasWithin, if_pos c_7, if_pos c_8, if_neg c_9, if_pos c_10], ht9⟩) (fun q h => by cases h) dW_hasWithin_85
        · skip
          refine lv_iload_n hx hb dW_hasWithin_50 rfl (lv_at hl 2 rfl) ?_
          refine lv_aload_n hx hb dW_hasWithin_51 rfl (lv_at hl 0 rfl) ?_
          refine va_get (D := g.1) (ci := 2) (v := .int v.2.1) (C := "NodeMaker$Wall") (T := Fd_W) (N := 4) hx hb ht i_W hown hK.1 hP 0 rfl rfl 1 (by decide) (ht _ q_172) (fun _ h9 => h9) rfl dW_hasWithin_52 ?_
          refine lv_aload_n hx hb dW_hasWithin_55 rfl (lv_at hl 0 rfl) ?_
          refine va_get (D := g.1) (ci := 2) (v := .int v.2.2.2) (C := "NodeMaker$Wall") (T := Fd_W) (N := 4) hx hb ht i_W hown hK.1 hP 0 rfl rfl 3 (by decide) (ht _ q_178) (fun _ h9 => h9) rfl dW_hasWithin_56 ?_
          refine va_mmin hx hb (by rw [hml]; exact hl.1.symm) hown (ht _ q_218) (ht _ q_219) (ht _ q_39) (ht _ q_220) (Nat.le_of_ble_eq_true rfl) (Nat.le_of_ble_eq_true rfl) (by show 0 ≤ 0; omega) (by show 0 ≤ 0; omega) dW_hasWithin_59 ?_
          refine lv_icmp_lt (tgt := 84) hx hb dW_hasWithin_62 (by decide) (fun c_11 => ?_) (fun c_11 => ?_)
          · skip
            refine lv_iconst (v := 0) hx hb dW_hasWithin_84 (by decide) ?_
            exact W.zret hx hb hr rfl (fun t ht9 hW => ⟨_, rfl, by rw [sW_hasWithin, if_pos c_7, if_pos c_8, if_neg c_9, if_neg c_10, if_pos c_11], ht9⟩) (fun q h => by cases h) dW_hasWithin_85
          · skip
            refine lv_iload_n hx hb dW_hasWithin_65 rfl (lv_at hl 2 rfl) ?_
            refine lv_aload_n hx hb dW_hasWithin_66 rfl (lv_at hl 0 rfl) ?_
            refine va_get (D := g.1) (ci := 2) (v := .int v.2.1) (C := "NodeMaker$Wall") (T := Fd_W) (N := 4) hx hb ht i_W hown hK.1 hP 0 rfl rfl 1 (by decide) (ht _ q_172) (fun _ h9 => h9) rfl dW_hasWithin_67 ?_
            refine lv_aload_n hx hb dW_hasWithin_70 rfl (lv_at hl 0 rfl) ?_
            refine va_get (D := g.1) (ci := 2) (v := .int v.2.2.2) (C := "NodeMaker$Wall") (T := Fd_W) (N := 4) hx hb ht i_W hown hK.1 hP 0 rfl rfl 3 (by decide) (ht _ q_178) (fun _ h9 => h9) rfl dW_hasWithin_71 ?_
            refine va_mmax hx hb (by rw [hml]; exact hl.1.symm) hown (ht _ q_221) (ht _ q_222) (ht _ q_39) (ht _ q_223) (Nat.le_of_ble_eq_true rfl) (Nat.le_of_ble_eq_true rfl) (by show 0 ≤ 0; omega) (by show 0 ≤ 0; omega) dW_hasWithin_74 ?_
            refine lv_icmp_gt (tgt := 84) hx hb dW_hasWithin_77 (by decide) (fun c_12 => ?_) (fun c_12 => ?_)
            · skip
              refine lv_iconst (v := 0) hx hb dW_hasWithin_84 (by decide) ?_
              exact W.zret hx hb hr rfl (fun t ht9 hW => ⟨_, rfl, by rw [sW_hasWithin, if_pos c_7, if_pos c_8, if_neg c_9, if_neg c_10, if_neg c_11, if_pos c_12], ht9⟩) (fun q h => by cases h) dW_hasWithin_85
            · skip
              refine lv_iconst (v := 1) hx hb dW_hasWithin_80 (by decide) ?_
              refine lv_goto (tgt := 85) hx hb dW_hasWithin_81 (by decide) ?_
              exact W.zret hx hb hr rfl (fun t ht9 hW => ⟨_, rfl, by rw [sW_hasWithin, if_pos c_7, if_pos c_8, if_neg c_9, if_neg c_10, if_neg c_11, if_neg c_12], ht9⟩) (fun q h => by cases h) dW_hasWithin_85
def sW_parts (v u : WV) : Int32 :=
  if (sW_side v u.1 u.2.1) ≤ 0 then
    if 0 ≤ (sW_side v u.1 u.2.1) then
      0
    else
      if (sW_side v u.2.2.1 u.2.2.2) ≤ 0 then
        0
      else
        1
  else
    if (sW_side v u.2.2.1 u.2.2.2) < 0 then
      1
    else
      if 0 ≤ (sW_side v u.1 u.2.1) then
        0
      else
        if (sW_side v u.2.2.1 u.2.2.2) ≤ 0 then
          0
        else
          1
set_option maxHeartbeats 4000000 in
set_option maxRecDepth 100000 in
theorem cW_parts (l : Launch) (g : CX) (a : Nat) (v : WV) (b : Nat) (u : WV) : Met l yW_parts (wm yW_parts kW_parts 6 (some .boolean)) ({ frames := 1, cells := 0, slots := 0, locals := 22 }) (ro g [.ref a, .ref b] (va_P g.1 vwCl [(a, wE v), (b, wE u)])) (vp_Si (fun r => r = sW_parts v u)) 0 0 (fun _ => False) := by
  refine Met.ofW (cc := kW_parts) (maxL := 6) (ret := (some .boolean)) (by decide) rfl ?_
  intro p e s m args below meth c s₁ B hml hv
  obtain ⟨rfl, hK, hP⟩ := hv
  have hx := B.exec
  have hb := B.bytes
  have hr := B.returns
  have ht : ∀ w ∈ wT, w.before _ s = true := fun w h => atoms_spec (ws := wm yW_parts kW_parts 6 (some .boolean)) B.pre w (List.mem_cons_of_mem _ h)
  have hown : s.vm.findClass "NodeMaker$Wall" = some m.cls := findClass_of_methodNamed B.named
  have hlocks := B.notSynchronized
  have hl := lv_entry ([.ref a, .ref b]) (n := 6) (Nat.le_of_ble_eq_true rfl)
  rw [lg_entry_eq]
  generalize (lg_sl ([.ref a, .ref b]) ++ List.replicate (6 - (lg_sl ([.ref a, .ref b])).length) Slot.unset).toArray = ls at hl ⊢
  have hl : lv_has ls 6 [(0, .ref a), (1, .ref b)] := hl
  refine lv_aload_n hx hb dW_parts_0 rfl (lv_at hl 0 rfl) ?_
  refine lv_aload_n hx hb dW_parts_1 rfl (lv_at hl 1 rfl) ?_
  refine va_get (D := g.1) (ci := 2) (v := .int u.1) (C := "NodeMaker$Wall") (T := Fd_W) (N := 4) hx hb ht i_W hown hK.1 hP 1 rfl rfl 0 (by decide) (ht _ q_169) (fun _ h9 => h9) rfl dW_parts_2 ?_
  refine lv_aload_n hx hb dW_parts_5 rfl (lv_at hl 1 rfl) ?_
  refine va_get (D := g.1) (ci := 2) (v := .int u.2.1) (C := "NodeMaker$Wall") (T := Fd_W) (N := 4) hx hb ht i_W hown hK.1 hP 1 rfl rfl 1 (by decide) (ht _ q_172) (fun _ h9 => h9) rfl dW_parts_6 ?_
  have hPc := hP.sub (ws' := [(a, wE v)]) [0] rfl
  refine ro_Vl (v := sW_side v u.1 u.2.1) (As := [.int u.1, .int u.2.1]) (rest := []) ⟨hx, hb, hml, hown, ht⟩ (cW_side l g a v u.1 u.2.1) (cwV 2 ht (g_V q_210 q_211 q_212 q_38 q_213) rfl rfl rfl hd_W_side ⟨Nat.le_of_ble_eq_true rfl, Nat.le_of_ble_eq_true rfl⟩) hK (hPc) (va_recv hK.1 hPc (ci := 2) (q0 := 0) rfl rfl) rfl hl.1 rfl (Nat.le_of_ble_eq_true rfl) dW_parts_9 ⟨by show 0 ≤ 0; omega, by show 0 ≤ 0; omega⟩ ?_
  refine lv_lstore_n (lv' := [(2, .long (sW_side v u.1 u.2.1)), (0, .ref a), (1, .ref b)]) hx hb dW_parts_12 rfl hl (by decide) rfl (fun ls hl => ?_)
  refine lv_aload_n hx hb dW_parts_13 rfl (lv_at hl 1 rfl) ?_
  refine lv_aload_n hx hb dW_parts_14 rfl (lv_at hl 2 rfl) ?_
  refine va_get (D := g.1) (ci := 2) (v := .int u.2.2.1) (C := "NodeMaker$Wall") (T := Fd_W) (N := 4) hx hb ht i_W hown hK.1 hP 1 rfl rfl 2 (by decide) (ht _ q_175) (fun _ h9 => h9) rfl dW_parts_15 ?_
  refine lv_aload_n hx hb dW_parts_18 rfl (lv_at hl 2 rfl) ?_
  refine va_get (D := g.1) (ci := 2) (v := .int u.2.2.2) (C := "NodeMaker$Wall") (T := Fd_W) (N := 4) hx hb ht i_W hown hK.1 hP 1 rfl rfl 3 (by decide) (ht _ q_178) (fun _ h9 => h9) rfl dW_parts_19 ?_
  have hPc := hP.sub (ws' := [(a, wE v)]) [0] rfl
  refine ro_Vl (v := sW_side v u.2.2.1 u.2.2.2) (As := [.int u.2.2.1, .int u.2.2.2]) (rest := []) ⟨hx, hb, hml, hown, ht⟩ (cW_side l g a v u.2.2.1 u.2.2.2) (cwV 2 ht (g_V q_210 q_211 q_212 q_38 q_213) rfl rfl rfl hd_W_side ⟨Nat.le_of_ble_eq_true rfl, Nat.le_of_ble_eq_true rfl⟩) hK (hPc) (va_recv hK.1 hPc (ci := 2) (q0 := 0) rfl rfl) rfl hl.1 rfl (Nat.le_of_ble_eq_true rfl) dW_parts_22 ⟨by show 0 ≤ 0; omega, by show 0 ≤ 0; omega⟩ ?_
  refine lv_lstore (lv' := [(4, .long (sW_side v u.2.2.1 u.2.2.2)), (2, .long (sW_side v u.1 u.2.1)), (0, .ref a), (1, .ref b)]) hx hb dW_parts_25 hl (by decide) rfl (fun ls hl => ?_)
  refine lv_lload_n hx hb dW_parts_27 rfl (lv_at hl 1 rfl) ?_
  refine lv_lconst (v := 0) hx hb dW_parts_28 (by decide) ?_
  refine W.lcmp hx hb dW_parts_29 ?_
  refine lv_if_le (tgt := 40) hx hb dW_parts_30 (by decide) (fun c_13 => ?_) (fun c_13 => ?_)
  · skip
    rw [lg_cmp_le] at c_13
    refine lv_lload_n hx hb dW_parts_40 rfl (lv_at hl 1 rfl) ?_
    refine lv_lconst (v := 0) hx hb dW_parts_41 (by decide) ?_
    refine W.lcmp hx hb dW_parts_42 ?_
    refine lv_if_ge (tgt := 57) hx hb dW_parts_43 (by decide) (fun c_14 => ?_) (fun c_14 => ?_)
    · skip
      rw [lg_cmp_ge] at c_14
      refine lv_iconst (v := 0) hx hb dW_parts_57 (by decide) ?_
      exact W.zret hx hb hr rfl (fun t ht9 hW => ⟨_, rfl, by rw [sW_parts, if_pos c_13, if_pos c_14], ht9⟩) (fun q h => by cases h) dW_parts_58
    · skip
      rw [lg_cmp_ge] at c_14
      refine lv_lload hx hb dW_parts_46 (lv_at hl 0 rfl) ?_
      refine lv_lconst (v := 0) hx hb dW_parts_48 (by decide) ?_
      refine W.lcmp hx hb dW_parts_49 ?_
      refine lv_if_le (tgt := 57) hx hb dW_parts_50 (by decide) (fun c_15 => ?_) (fun c_15 => ?_)
      · skip
        rw [lg_cmp_le] at c_15
        refine lv_iconst (v := 0) hx hb dW_parts_57 (by decide) ?_
        exact W.zret hx hb hr rfl (fun t ht9 hW => ⟨_, rfl, by rw [sW_parts, if_pos c_13, if_neg c_14, if_pos c_15], ht9⟩) (fun q h => by cases h) dW_parts_58
      · skip
        rw [lg_cmp_le] at c_15
        refine lv_iconst (v := 1) hx hb dW_parts_53 (by decide) ?_
        refine lv_goto (tgt := 58) hx hb dW_parts_54 (by decide) ?_
        exact W.zret hx hb hr rfl (fun t ht9 hW => ⟨_, rfl, by rw [sW_parts, if_pos c_13, if_neg c_14, if_neg c_15], ht9⟩) (fun q h => by cases h) dW_parts_58
  · skip
    rw [lg_cmp_le] at c_13
    refine lv_lload hx hb dW_parts_33 (lv_at hl 0 rfl) ?_
    refine lv_lconst (v := 0) hx hb dW_parts_35 (by decide) ?_
    refine W.lcmp hx hb dW_parts_36 ?_
    refine lv_if_lt (tgt := 53) hx hb dW_parts_37 (by decide) (fun c_16 => ?_) (fun c_16 => ?_)
    · skip
      rw [lg_cmp_lt] at c_16
      refine lv_iconst (v := 1) hx hb dW_parts_53 (by decide) ?_
      refine lv_goto (tgt := 58) hx hb dW_parts_54 (by decide) ?_
      exact W.zret hx hb hr rfl (fun t ht9 hW => ⟨_, rfl, by rw [sW_parts, if_neg c_13, if_pos c_16], ht9⟩) (fun q h => by cases h) dW_parts_58
    · skip
      rw [lg_cmp_lt] at c_16
      refine lv_lload_n hx hb dW_parts_40 rfl (lv_at hl 1 rfl) ?_
      refine lv_lconst (v := 0) hx hb dW_parts_41 (by decide) ?_
      refine W.lcmp hx hb dW_parts_42 ?_
      refine lv_if_ge (tgt := 57) hx hb dW_parts_43 (by decide) (fun c_17 => ?_) (fun c_17 => ?_)
      · skip
        rw [lg_cmp_ge] at c_17
        refine lv_iconst (v := 0) hx hb dW_parts_57 (by decide) ?_
        exact W.zret hx hb hr rfl (fun t ht9 hW => ⟨_, rfl, by rw [sW_parts, if_neg c_13, if_neg c_16, if_pos c_17], ht9⟩) (fun q h => by cases h) dW_parts_58
      · skip
        rw [lg_cmp_ge] at c_17
        refine lv_lload hx hb dW_parts_46 (lv_at hl 0 rfl) ?_
        refine lv_lconst (v := 0) hx hb dW_parts_48 (by decide) ?_
        refine W.lcmp hx hb dW_parts_49 ?_
        refine lv_if_le (tgt := 57) hx hb dW_parts_50 (by decide) (fun c_18 => ?_) (fun c_18 => ?_)
        · skip
          rw [lg_cmp_le] at c_18
          refine lv_iconst (v := 0) hx hb dW_parts_57 (by decide) ?_
          exact W.zret hx hb hr rfl (fun t ht9 hW => ⟨_, rfl, by rw [sW_parts, if_neg c_13, if_neg c_16, if_neg c_17, if_pos c_18], ht9⟩) (fun q h => by cases h) dW_parts_58
        · skip
          rw [lg_cmp_le] at c_18
          refine lv_iconst (v := 1) hx hb dW_parts_53 (by decide) ?_
          refine lv_goto (tgt := 58) hx hb dW_parts_54 (by decide) ?_
          exact W.zret hx hb hr rfl (fun t ht9 hW => ⟨_, rfl, by rw [sW_parts, if_neg c_13, if_neg c_16, if_neg c_17, if_neg c_18], ht9⟩) (fun q h => by cases h) dW_parts_58
def sW_clashes (v u : WV) : Int32 :=
  if (sW_hasEnd v u.1 u.2.1) = 0 then
    if (sW_parts v u) = 0 then
      if (sW_hasWithin v u.1 u.2.1) = 0 then
        if (sW_hasWithin v u.2.2.1 u.2.2.2) = 0 then
          if (sW_hasWithin u v.1 v.2.1) = 0 then
            if (sW_hasWithin u v.2.2.1 v.2.2.2) = 0 then
              0
            else
              1
          else
            1
        else
          1
      else
        1
    else
      if (sW_parts u v) = 0 then
        if (sW_hasWithin v u.1 u.2.1) = 0 then
          if (sW_hasWithin v u.2.2.1 u.2.2.2) = 0 then
            if (sW_hasWithin u v.1 v.2.1) = 0 then
              if (sW_hasWithin u v.2.2.1 v.2.2.2) = 0 then
                0
              else
                1
            else
              1
          else
            1
        else
          1
      else
        1
  else
    if (sW_hasEnd v u.2.2.1 u.2.2.2) = 0 then
      if (sW_parts v u) = 0 then
        if (sW_hasWithin v u.1 u.2.1) = 0 then
          if (sW_hasWithin v u.2.2.1 u.2.2.2) = 0 then
            if (sW_hasWithin u v.1 v.2.1) = 0 then
              if (sW_hasWithin u v.2.2.1 v.2.2.2) = 0 then
                0
              else
                1
            else
              1
          else
            1
        else
          1
      else
        if (sW_parts u v) = 0 then
          if (sW_hasWithin v u.1 u.2.1) = 0 then
            if (sW_hasWithin v u.2.2.1 u.2.2.2) = 0 then
              if (sW_hasWithin u v.1 v.2.1) = 0 then
                if (sW_hasWithin u v.2.2.1 v.2.2.2) = 0 then
                  0
                else
                  1
              else
                1
            else
              1
          else
            1
        else
          1
    else
      1
set_option maxHeartbeats 4000000 in
set_option maxRecDepth 100000 in
theorem cW_clashes (l : Launch) (g : CX) (a : Nat) (v : WV) (b : Nat) (u : WV) : Met l yW_clashes (wm yW_clashes kW_clashes 2 (some .boolean)) ({ frames := 2, cells := 0, slots := 0, locals := 47 }) (ro g [.ref a, .ref b] (va_P g.1 vwCl [(a, wE v), (b, wE u)])) (vp_Si (fun r => r = sW_clashes v u)) 0 0 (fun _ => False) := by
  refine Met.ofW (cc := kW_clashes) (maxL := 2) (ret := (some .boolean)) (by decide) rfl ?_
  intro p e s m args below meth c s₁ B hml hv
  obtain ⟨rfl, hK, hP⟩ := hv
  have hx := B.exec
  have hb := B.bytes
  have hr := B.returns
  have ht : ∀ w ∈ wT, w.before _ s = true := fun w h => atoms_spec (ws := wm yW_clashes kW_clashes 2 (some .boolean)) B.pre w (List.mem_cons_of_mem _ h)
  have hown : s.vm.findClass "NodeMaker$Wall" = some m.cls := findClass_of_methodNamed B.named
  have hlocks := B.notSynchronized
  have hl := lv_entry ([.ref a, .ref b]) (n := 2) (Nat.le_of_ble_eq_true rfl)
  rw [lg_entry_eq]
  generalize (lg_sl ([.ref a, .ref b]) ++ List.replicate (2 - (lg_sl ([.ref a, .ref b])).length) Slot.unset).toArray = ls at hl ⊢
  have hl : lv_has ls 2 [(0, .ref a), (1, .ref b)] := hl
  refine lv_aload_n hx hb dW_clashes_0 rfl (lv_at hl 0 rfl) ?_
  refine lv_aload_n hx hb dW_clashes_1 rfl (lv_at hl 1 rfl) ?_
  refine va_get (D := g.1) (ci := 2) (v := .int u.1) (C := "NodeMaker$Wall") (T := Fd_W) (N := 4) hx hb ht i_W hown hK.1 hP 1 rfl rfl 0 (by decide) (ht _ q_169) (fun _ h9 => h9) rfl dW_clashes_2 ?_
  refine lv_aload_n hx hb dW_clashes_5 rfl (lv_at hl 1 rfl) ?_
  refine va_get (D := g.1) (ci := 2) (v := .int u.2.1) (C := "NodeMaker$Wall") (T := Fd_W) (N := 4) hx hb ht i_W hown hK.1 hP 1 rfl rfl 1 (by decide) (ht _ q_172) (fun _ h9 => h9) rfl dW_clashes_6 ?_
  have hPc := hP.sub (ws' := [(a, wE v)]) [0] rfl
  refine ro_Vi (v := sW_hasEnd v u.1 u.2.1) (As := [.int u.1, .int u.2.1]) (rest := []) ⟨hx, hb, hml, hown, ht⟩ (cW_hasEnd l g a v u.1 u.2.1) (cwV 2 ht (g_V q_202 q_203 q_204 q_38 q_205) rfl rfl rfl hd_W_hasEnd ⟨Nat.le_of_ble_eq_true rfl, Nat.le_of_ble_eq_true rfl⟩) hK (hPc) (va_recv hK.1 hPc (ci := 2) (q0 := 0) rfl rfl) rfl hl.1 rfl (Nat.le_of_ble_eq_true rfl) dW_clashes_9 ⟨by show 0 ≤ 0; omega, by show 0 ≤ 0; omega⟩ ?_
  refine lv_if_eq (tgt := 32) hx hb dW_clashes_12 (by decide) (fun c_19 => ?_) (fun c_19 => ?_)
  · skip
    refine lv_aload_n hx hb dW_clashes_32 rfl (lv_at hl 0 rfl) ?_
    refine lv_aload_n hx hb dW_clashes_33 rfl (lv_at hl 1 rfl) ?_
    have hPc := hP.sub (ws' := [(a, wE v), (b, wE u)]) [0, 1] rfl
    refine ro_Vi (v := sW_parts v u) (As := [.ref b]) (rest := []) ⟨hx, hb, hml, hown, ht⟩ (cW_parts l g a v b u) (cwV 1 ht (g_V q_206 q_207 q_208 q_38 q_209) rfl rfl rfl hd_W_parts ⟨Nat.le_of_ble_eq_true rfl, Nat.le_of_ble_eq_true rfl⟩) hK (hPc) (va_recv hK.1 hPc (ci := 2) (q0 := 0) rfl rfl) rfl hl.1 rfl (Nat.le_of_ble_eq_true rfl) dW_clashes_34 ⟨by show 0 ≤ 0; omega, by show 0 ≤ 0; omega⟩ ?_
    refine lv_if_eq (tgt := 48) hx hb dW_clashes_37 (by decide) (fun c_20 => ?_) (fun c_20 => ?_)
    · skip
      refine lv_aload_n hx hb dW_clashes_48 rfl (lv_at hl 0 rfl) ?_
      refine lv_aload_n hx hb dW_clashes_49 rfl (lv_at hl 1 rfl) ?_
      refine va_get (D := g.1) (ci := 2) (v := .int u.1) (C := "NodeMaker$Wall") (T := Fd_W) (N := 4) hx hb ht i_W hown hK.1 hP 1 rfl rfl 0 (by decide) (ht _ q_169) (fun _ h9 => h9) rfl dW_clashes_50 ?_
      refine lv_aload_n hx hb dW_clashes_53 rfl (lv_at hl 1 rfl) ?_
      refine va_get (D := g.1) (ci := 2) (v := .int u.2.1) (C := "NodeMaker$Wall") (T := Fd_W) (N := 4) hx hb ht i_W hown hK.1 hP 1 rfl rfl 1 (by decide) (ht _ q_172) (fun _ h9 => h9) rfl dW_clashes_54 ?_
      have hPc := hP.sub (ws' := [(a, wE v)]) [0] rfl
      refine ro_Vi (v := sW_hasWithin v u.1 u.2.1) (As := [.int u.1, .int u.2.1]) (rest := []) ⟨hx, hb, hml, hown, ht⟩ (cW_hasWithin l g a v u.1 u.2.1) (cwV 2 ht (g_V q_214 q_215 q_216 q_38 q_217) rfl rfl rfl hd_W_hasWithin ⟨Nat.le_of_ble_eq_true rfl, Nat.le_of_ble_eq_true rfl⟩) hK (hPc) (va_recv hK.1 hPc (ci := 2) (q0 := 0) rfl rfl) rfl hl.1 rfl (Nat.le_of_ble_eq_true rfl) dW_clashes_57 ⟨by show 0 ≤ 0; omega, by show 0 ≤ 0; omega⟩ ?_
      refine lv_if_ne (tgt := 108) hx hb dW_clashes_60 (by decide) (fun c_21 => ?_) (fun c_21 => ?_)
      · skip
        refine lv_iconst (v := 1) hx hb dW_clashes_108 (by decide) ?_
        refine lv_goto (tgt := 113) hx hb dW_clashes_109 (by decide) ?_
        exact W.zret hx hb hr rfl (fun t ht9 hW => ⟨_, rfl, by rw [sW_clashes, if_pos c_19, if_pos c_20, if_neg c_21], ht9⟩) (fun q h => by cases h) dW_clashes_113
      · skip
        refine lv_aload_n hx hb dW_clashes_63 rfl (lv_at hl 0 rfl) ?_
        refine lv_aload_n hx hb dW_clashes_64 rfl (lv_at hl 1 rfl) ?_
        refine va_get (D := g.1) (ci := 2) (v := .int u.2.2.1) (C := "NodeMaker$Wall") (T := Fd_W) (N := 4) hx hb ht i_W hown hK.1 hP 1 rfl rfl 2 (by decide) (ht _ q_175) (fun _ h9 => h9) rfl dW_clashes_65 ?_
        refine lv_aload_n hx hb dW_clashes_68 rfl (lv_at hl 1 rfl) ?_
        refine va_get (D := g.1) (ci := 2) (v := .int u.2.2.2) (C := "NodeMaker$Wall") (T := Fd_W) (N := 4) hx hb ht i_W hown hK.1 hP 1 rfl rfl 3 (by decide) (ht _ q_178) (fun _ h9 => h9) rfl dW_clashes_69 ?_
        have hPc := hP.sub (ws' := [(a, wE v)]) [0] rfl
        refine ro_Vi (v := sW_hasWithin v u.2.2.1 u.2.2.2) (As := [.int u.2.2.1, .int u.2.2.2]) (rest := []) ⟨hx, hb, hml, hown, ht⟩ (cW_hasWithin l g a v u.2.2.1 u.2.2.2) (cwV 2 ht (g_V q_214 q_215 q_216 q_38 q_217) rfl rfl rfl hd_W_hasWithin ⟨Nat.le_of_ble_eq_true rfl, Nat.le_of_ble_eq_true rfl⟩) hK (hPc) (va_recv hK.1 hPc (ci := 2) (q0 := 0) rfl rfl) rfl hl.1 rfl (Nat.le_of_ble_eq_true rfl) dW_clashes_72 ⟨by show 0 ≤ 0; omega, by show 0 ≤ 0; omega⟩ ?_
        refine lv_if_ne (tgt := 108) hx hb dW_clashes_75 (by decide) (fun c_22 => ?_) (fun c_22 => ?_)
        · skip
          refine lv_iconst (v := 1) hx hb dW_clashes_108 (by decide) ?_
          refine lv_goto (tgt := 113) hx hb dW_clashes_109 (by decide) ?_
          exact W.zret hx hb hr rfl (fun t ht9 hW => ⟨_, rfl, by rw [sW_clashes, if_pos c_19, if_pos c_20, if_pos c_21, if_neg c_22], ht9⟩) (fun q h => by cases h) dW_clashes_113
        · skip
          refine lv_aload_n hx hb dW_clashes_78 rfl (lv_at hl 1 rfl) ?_
          refine lv_aload_n hx hb dW_clashes_79 rfl (lv_at hl 0 rfl) ?_
          refine va_get (D := g.1) (ci := 2) (v := .int v.1) (C := "NodeMaker$Wall") (T := Fd_W) (N := 4) hx hb ht i_W hown hK.1 hP 0 rfl rfl 0 (by decide) (ht _ q_169) (fun _ h9 => h9) rfl dW_clashes_80 ?_
          refine lv_aload_n hx hb dW_clashes_83 rfl (lv_at hl 0 rfl) ?_
          refine va_get (D := g.1) (ci := 2) (v := .int v.2.1) (C := "NodeMaker$Wall") (T := Fd_W) (N := 4) hx hb ht i_W hown hK.1 hP 0 rfl rfl 1 (by decide) (ht _ q_172) (fun _ h9 => h9) rfl dW_clashes_84 ?_
          have hPc := hP.sub (ws' := [(b, wE u)]) [1] rfl
          refine ro_Vi (v := sW_hasWithin u v.1 v.2.1) (As := [.int v.1, .int v.2.1]) (rest := []) ⟨hx, hb, hml, hown, ht⟩ (cW_hasWithin l g b u v.1 v.2.1) (cwV 2 ht (g_V q_214 q_215 q_216 q_38 q_217) rfl rfl rfl hd_W_hasWithin ⟨Nat.le_of_ble_eq_true rfl, Nat.le_of_ble_eq_true rfl⟩) hK (hPc) (va_recv hK.1 hPc (ci := 2) (q0 := 0) rfl rfl) rfl hl.1 rfl (Nat.le_of_ble_eq_true rfl) dW_clashes_87 ⟨by show 0 ≤ 0; omega, by show 0 ≤ 0; omega⟩ ?_
          refine lv_if_ne (tgt := 108) hx hb dW_clashes_90 (by decide) (fun c_23 => ?_) (fun c_23 => ?_)
          · skip
            refine lv_iconst (v := 1) hx hb dW_clashes_108 (by decide) ?_
            refine lv_goto (tgt := 113) hx hb dW_clashes_109 (by decide) ?_
            exact W.zret hx hb hr rfl (fun t ht9 hW => ⟨_, rfl, by rw [sW_clashes, if_pos c_19, if_pos c_20, if_pos c_21, if_pos c_22, if_neg c_23], ht9⟩) (fun q h => by cases h) dW_clashes_113
          · skip
            refine lv_aload_n hx hb dW_clashes_93 rfl (lv_at hl 1 rfl) ?_
            refine lv_aload_n hx hb dW_clashes_94 rfl (lv_at hl 0 rfl) ?_
            refine va_get (D := g.1) (ci := 2) (v := .int v.2.2.1) (C := "NodeMaker$Wall") (T := Fd_W) (N := 4) hx hb ht i_W hown hK.1 hP 0 rfl rfl 2 (by decide) (ht _ q_175) (fun _ h9 => h9) rfl dW_clashes_95 ?_
            refine lv_aload_n hx hb dW_clashes_98 rfl (lv_at hl 0 rfl) ?_
            refine va_get (D := g.1) (ci := 2) (v := .int v.2.2.2) (C := "NodeMaker$Wall") (T := Fd_W) (N := 4) hx hb ht i_W hown hK.1 hP 0 rfl rfl 3 (by decide) (ht _ q_178) (fun _ h9 => h9) rfl dW_clashes_99 ?_
            have hPc := hP.sub (ws' := [(b, wE u)]) [1] rfl
            refine ro_Vi (v := sW_hasWithin u v.2.2.1 v.2.2.2) (As := [.int v.2.2.1, .int v.2.2.2]) (rest := []) ⟨hx, hb, hml, hown, ht⟩ (cW_hasWithin l g b u v.2.2.1 v.2.2.2) (cwV 2 ht (g_V q_214 q_215 q_216 q_38 q_217) rfl rfl rfl hd_W_hasWithin ⟨Nat.le_of_ble_eq_true rfl, Nat.le_of_ble_eq_true rfl⟩) hK (hPc) (va_recv hK.1 hPc (ci := 2) (q0 := 0) rfl rfl) rfl hl.1 rfl (Nat.le_of_ble_eq_true rfl) dW_clashes_102 ⟨by show 0 ≤ 0; omega, by show 0 ≤ 0; omega⟩ ?_
            refine lv_if_eq (tgt := 112) hx hb dW_clashes_105 (by decide) (fun c_24 => ?_) (fun c_24 => ?_)
            · skip
              refine lv_iconst (v := 0) hx hb dW_clashes_112 (by decide) ?_
              exact W.zret hx hb hr rfl (fun t ht9 hW => ⟨_, rfl, by rw [sW_clashes, if_pos c_19, if_pos c_20, if_pos c_21, if_pos c_22, if_pos c_23, if_pos c_24], ht9⟩) (fun q h => by cases h) dW_clashes_113
            · skip
              refine lv_iconst (v := 1) hx hb dW_clashes_108 (by decide) ?_
              refine lv_goto (tgt := 113) hx hb dW_clashes_109 (by decide) ?_
              exact W.zret hx hb hr rfl (fun t ht9 hW => ⟨_, rfl, by rw [sW_clashes, if_pos c_19, if_pos c_20, if_pos c_21, if_pos c_22, if_pos c_23, if_neg c_24], ht9⟩) (fun q h => by cases h) dW_clashes_113
    · skip
      refine lv_aload_n hx hb dW_clashes_40 rfl (lv_at hl 1 rfl) ?_
      refine lv_aload_n hx hb dW_clashes_41 rfl (lv_at hl 0 rfl) ?_
      have hPc := hP.sub (ws' := [(b, wE u), (a, wE v)]) [1, 0] rfl
      refine ro_Vi (v := sW_parts u v) (As := [.ref a]) (rest := []) ⟨hx, hb, hml, hown, ht⟩ (cW_parts l g b u a v) (cwV 1 ht (g_V q_206 q_207 q_208 q_38 q_209) rfl rfl rfl hd_W_parts ⟨Nat.le_of_ble_eq_true rfl, Nat.le_of_ble_eq_true rfl⟩) hK (hPc) (va_recv hK.1 hPc (ci := 2) (q0 := 0) rfl rfl) rfl hl.1 rfl (Nat.le_of_ble_eq_true rfl) dW_clashes_42 ⟨by show 0 ≤ 0; omega, by show 0 ≤ 0; omega⟩ ?_
      refine lv_if_ne (tgt := 108) hx hb dW_clashes_45 (by decide) (fun c_25 => ?_) (fun c_25 => ?_)
      · skip
        refine lv_iconst (v := 1) hx hb dW_clashes_108 (by decide) ?_
        refine lv_goto (tgt := 113) hx hb dW_clashes_109 (by decide) ?_
        exact W.zret hx hb hr rfl (fun t ht9 hW => ⟨_, rfl, by rw [sW_clashes, if_pos c_19, if_neg c_20, if_neg c_25], ht9⟩) (fun q h => by cases h) dW_clashes_113
      · skip
        refine lv_aload_n hx hb dW_clashes_48 rfl (lv_at hl 0 rfl) ?_
        refine lv_aload_n hx hb dW_clashes_49 rfl (lv_at hl 1 rfl) ?_
        refine va_get (D := g.1) (ci := 2) (v := .int u.1) (C := "NodeMaker$Wall") (T := Fd_W) (N := 4) hx hb ht i_W hown hK.1 hP 1 rfl rfl 0 (by decide) (ht _ q_169) (fun _ h9 => h9) rfl dW_clashes_50 ?_
        refine lv_aload_n hx hb dW_clashes_53 rfl (lv_at hl 1 rfl) ?_
        refine va_get (D := g.1) (ci := 2) (v := .int u.2.1) (C := "NodeMaker$Wall") (T := Fd_W) (N := 4) hx hb ht i_W hown hK.1 hP 1 rfl rfl 1 (by decide) (ht _ q_172) (fun _ h9 => h9) rfl dW_clashes_54 ?_
        have hPc := hP.sub (ws' := [(a, wE v)]) [0] rfl
        refine ro_Vi (v := sW_hasWithin v u.1 u.2.1) (As := [.int u.1, .int u.2.1]) (rest := []) ⟨hx, hb, hml, hown, ht⟩ (cW_hasWithin l g a v u.1 u.2.1) (cwV 2 ht (g_V q_214 q_215 q_216 q_38 q_217) rfl rfl rfl hd_W_hasWithin ⟨Nat.le_of_ble_eq_true rfl, Nat.le_of_ble_eq_true rfl⟩) hK (hPc) (va_recv hK.1 hPc (ci := 2) (q0 := 0) rfl rfl) rfl hl.1 rfl (Nat.le_of_ble_eq_true rfl) dW_clashes_57 ⟨by show 0 ≤ 0; omega, by show 0 ≤ 0; omega⟩ ?_
        refine lv_if_ne (tgt := 108) hx hb dW_clashes_60 (by decide) (fun c_26 => ?_) (fun c_26 => ?_)
        · skip
          refine lv_iconst (v := 1) hx hb dW_clashes_108 (by decide) ?_
          refine lv_goto (tgt := 113) hx hb dW_clashes_109 (by decide) ?_
          exact W.zret hx hb hr rfl (fun t ht9 hW => ⟨_, rfl, by rw [sW_clashes, if_pos c_19, if_neg c_20, if_pos c_25, if_neg c_26], ht9⟩) (fun q h => by cases h) dW_clashes_113
        · skip
          refine lv_aload_n hx hb dW_clashes_63 rfl (lv_at hl 0 rfl) ?_
          refine lv_aload_n hx hb dW_clashes_64 rfl (lv_at hl 1 rfl) ?_
          refine va_get (D := g.1) (ci := 2) (v := .int u.2.2.1) (C := "NodeMaker$Wall") (T := Fd_W) (N := 4) hx hb ht i_W hown hK.1 hP 1 rfl rfl 2 (by decide) (ht _ q_175) (fun _ h9 => h9) rfl dW_clashes_65 ?_
          refine lv_aload_n hx hb dW_clashes_68 rfl (lv_at hl 1 rfl) ?_
          refine va_get (D := g.1) (ci := 2) (v := .int u.2.2.2) (C := "NodeMaker$Wall") (T := Fd_W) (N := 4) hx hb ht i_W hown hK.1 hP 1 rfl rfl 3 (by decide) (ht _ q_178) (fun _ h9 => h9) rfl dW_clashes_69 ?_
          have hPc := hP.sub (ws' := [(a, wE v)]) [0] rfl
          refine ro_Vi (v := sW_hasWithin v u.2.2.1 u.2.2.2) (As := [.int u.2.2.1, .int u.2.2.2]) (rest := []) ⟨hx, hb, hml, hown, ht⟩ (cW_hasWithin l g a v u.2.2.1 u.2.2.2) (cwV 2 ht (g_V q_214 q_215 q_216 q_38 q_217) rfl rfl rfl hd_W_hasWithin ⟨Nat.le_of_ble_eq_true rfl, Nat.le_of_ble_eq_true rfl⟩) hK (hPc) (va_recv hK.1 hPc (ci := 2) (q0 := 0) rfl rfl) rfl hl.1 rfl (Nat.le_of_ble_eq_true rfl) dW_clashes_72 ⟨by show 0 ≤ 0; omega, by show 0 ≤ 0; omega⟩ ?_
          refine lv_if_ne (tgt := 108) hx hb dW_clashes_75 (by decide) (fun c_27 => ?_) (fun c_27 => ?_)
          · skip
            refine lv_iconst (v := 1) hx hb dW_clashes_108 (by decide) ?_
            refine lv_goto (tgt := 113) hx hb dW_clashes_109 (by decide) ?_
            exact W.zret hx hb hr rfl (fun t ht9 hW => ⟨_, rfl, by rw [sW_clashes, if_pos c_19, if_neg c_20, if_pos c_25, if_pos c_26, if_neg c_27], ht9⟩) (fun q h => by cases h) dW_clashes_113
          · skip
            refine lv_aload_n hx hb dW_clashes_78 rfl (lv_at hl 1 rfl) ?_
            refine lv_aload_n hx hb dW_clashes_79 rfl (lv_at hl 0 rfl) ?_
            refine va_get (D := g.1) (ci := 2) (v := .int v.1) (C := "NodeMaker$Wall") (T := Fd_W) (N := 4) hx hb ht i_W hown hK.1 hP 0 rfl rfl 0 (by decide) (ht _ q_169) (fun _ h9 => h9) rfl dW_clashes_80 ?_
            refine lv_aload_n hx hb dW_clashes_83 rfl (lv_at hl 0 rfl) ?_
            refine va_get (D := g.1) (ci := 2) (v := .int v.2.1) (C := "NodeMaker$Wall") (T := Fd_W) (N := 4) hx hb ht i_W hown hK.1 hP 0 rfl rfl 1 (by decide) (ht _ q_172) (fun _ h9 => h9) rfl dW_clashes_84 ?_
            have hPc := hP.sub (ws' := [(b, wE u)]) [1] rfl
            refine ro_Vi (v := sW_hasWithin u v.1 v.2.1) (As := [.int v.1, .int v.2.1]) (rest := []) ⟨hx, hb, hml, hown, ht⟩ (cW_hasWithin l g b u v.1 v.2.1) (cwV 2 ht (g_V q_214 q_215 q_216 q_38 q_217) rfl rfl rfl hd_W_hasWithin ⟨Nat.le_of_ble_eq_true rfl, Nat.le_of_ble_eq_true rfl⟩) hK (hPc) (va_recv hK.1 hPc (ci := 2) (q0 := 0) rfl rfl) rfl hl.1 rfl (Nat.le_of_ble_eq_true rfl) dW_clashes_87 ⟨by show 0 ≤ 0; omega, by show 0 ≤ 0; omega⟩ ?_
            refine lv_if_ne (tgt := 108) hx hb dW_clashes_90 (by decide) (fun c_28 => ?_) (fun c_28 => ?_)
            · skip
              refine lv_iconst (v := 1) hx hb dW_clashes_108 (by decide) ?_
              refine lv_goto (tgt := 113) hx hb dW_clashes_109 (by decide) ?_
              exact W.zret hx hb hr rfl (fun t ht9 hW => ⟨_, rfl, by rw [sW_clashes, if_pos c_19, if_neg c_20, if_pos c_25, if_pos c_26, if_pos c_27, if_neg c_28], ht9⟩) (fun q h => by cases h) dW_clashes_113
            · skip
              refine lv_aload_n hx hb dW_clashes_93 rfl (lv_at hl 1 rfl) ?_
              refine lv_aload_n hx hb dW_clashes_94 rfl (lv_at hl 0 rfl) ?_
              refine va_get (D := g.1) (ci := 2) (v := .int v.2.2.1) (C := "NodeMaker$Wall") (T := Fd_W) (N := 4) hx hb ht i_W hown hK.1 hP 0 rfl rfl 2 (by decide) (ht _ q_175) (fun _ h9 => h9) rfl dW_clashes_95 ?_
              refine lv_aload_n hx hb dW_clashes_98 rfl (lv_at hl 0 rfl) ?_
              refine va_get (D := g.1) (ci := 2) (v := .int v.2.2.2) (C := "NodeMaker$Wall") (T := Fd_W) (N := 4) hx hb ht i_W hown hK.1 hP 0 rfl rfl 3 (by decide) (ht _ q_178) (fun _ h9 => h9) rfl dW_clashes_99 ?_
              have hPc := hP.sub (ws' := [(b, wE u)]) [1] rfl
              refine ro_Vi (v := sW_hasWithin u v.2.2.1 v.2.2.2) (As := [.int v.2.2.1, .int v.2.2.2]) (rest := []) ⟨hx, hb, hml, hown, ht⟩ (cW_hasWithin l g b u v.2.2.1 v.2.2.2) (cwV 2 ht (g_V q_214 q_215 q_216 q_38 q_217) rfl rfl rfl hd_W_hasWithin ⟨Nat.le_of_ble_eq_true rfl, Nat.le_of_ble_eq_true rfl⟩) hK (hPc) (va_recv hK.1 hPc (ci := 2) (q0 := 0) rfl rfl) rfl hl.1 rfl (Nat.le_of_ble_eq_true rfl) dW_clashes_102 ⟨by show 0 ≤ 0; omega, by show 0 ≤ 0; omega⟩ ?_
              refine lv_if_eq (tgt := 112) hx hb dW_clashes_105 (by decide) (fun c_29 => ?_) (fun c_29 => ?_)
              · skip
                refine lv_iconst (v := 0) hx hb dW_clashes_112 (by decide) ?_
                exact W.zret hx hb hr rfl (fun t ht9 hW => ⟨_, rfl, by rw [sW_clashes, if_pos c_19, if_neg c_20, if_pos c_25, if_pos c_26, if_pos c_27, if_pos c_28, if_pos c_29], ht9⟩) (fun q h => by cases h) dW_clashes_113
              · skip
                refine lv_iconst (v := 1) hx hb dW_clashes_108 (by decide) ?_
                refine lv_goto (tgt := 113) hx hb dW_clashes_109 (by decide) ?_
                exact W.zret hx hb hr rfl (fun t ht9 hW => ⟨_, rfl, by rw [sW_clashes, if_pos c_19, if_neg c_20, if_pos c_25, if_pos c_26, if_pos c_27, if_pos c_28, if_neg c_29], ht9⟩) (fun q h => by cases h) dW_clashes_113
  · skip
    refine lv_aload_n hx hb dW_clashes_15 rfl (lv_at hl 0 rfl) ?_
    refine lv_aload_n hx hb dW_clashes_16 rfl (lv_at hl 1 rfl) ?_
    refine va_get (D := g.1) (ci := 2) (v := .int u.2.2.1) (C := "NodeMaker$Wall") (T := Fd_W) (N := 4) hx hb ht i_W hown hK.1 hP 1 rfl rfl 2 (by decide) (ht _ q_175) (fun _ h9 => h9) rfl dW_clashes_17 ?_
    refine lv_aload_n hx hb dW_clashes_20 rfl (lv_at hl 1 rfl) ?_
    refine va_get (D := g.1) (ci := 2) (v := .int u.2.2.2) (C := "NodeMaker$Wall") (T := Fd_W) (N := 4) hx hb ht i_W hown hK.1 hP 1 rfl rfl 3 (by decide) (ht _ q_178) (fun _ h9 => h9) rfl dW_clashes_21 ?_
    have hPc := hP.sub (ws' := [(a, wE v)]) [0] rfl
    refine ro_Vi (v := sW_hasEnd v u.2.2.1 u.2.2.2) (As := [.int u.2.2.1, .int u.2.2.2]) (rest := []) ⟨hx, hb, hml, hown, ht⟩ (cW_hasEnd l g a v u.2.2.1 u.2.2.2) (cwV 2 ht (g_V q_202 q_203 q_204 q_38 q_205) rfl rfl rfl hd_W_hasEnd ⟨Nat.le_of_ble_eq_true rfl, Nat.le_of_ble_eq_true rfl⟩) hK (hPc) (va_recv hK.1 hPc (ci := 2) (q0 := 0) rfl rfl) rfl hl.1 rfl (Nat.le_of_ble_eq_true rfl) dW_clashes_24 ⟨by show 0 ≤ 0; omega, by show 0 ≤ 0; omega⟩ ?_
    refine lv_if_eq (tgt := 32) hx hb dW_clashes_27 (by decide) (fun c_30 => ?_) (fun c_30 => ?_)
    · skip
      refine lv_aload_n hx hb dW_clashes_32 rfl (lv_at hl 0 rfl) ?_
      refine lv_aload_n hx hb dW_clashes_33 rfl (lv_at hl 1 rfl) ?_
      have hPc := hP.sub (ws' := [(a, wE v), (b, wE u)]) [0, 1] rfl
      refine ro_Vi (v := sW_parts v u) (As := [.ref b]) (rest := []) ⟨hx, hb, hml, hown, ht⟩ (cW_parts l g a v b u) (cwV 1 ht (g_V q_206 q_207 q_208 q_38 q_209) rfl rfl rfl hd_W_parts ⟨Nat.le_of_ble_eq_true rfl, Nat.le_of_ble_eq_true rfl⟩) hK (hPc) (va_recv hK.1 hPc (ci := 2) (q0 := 0) rfl rfl) rfl hl.1 rfl (Nat.le_of_ble_eq_true rfl) dW_clashes_34 ⟨by show 0 ≤ 0; omega, by show 0 ≤ 0; omega⟩ ?_
      refine lv_if_eq (tgt := 48) hx hb dW_clashes_37 (by decide) (fun c_31 => ?_) (fun c_31 => ?_)
      · skip
        refine lv_aload_n hx hb dW_clashes_48 rfl (lv_at hl 0 rfl) ?_
        refine lv_aload_n hx hb dW_clashes_49 rfl (lv_at hl 1 rfl) ?_
        refine va_get (D := g.1) (ci := 2) (v := .int u.1) (C := "NodeMaker$Wall") (T := Fd_W) (N := 4) hx hb ht i_W hown hK.1 hP 1 rfl rfl 0 (by decide) (ht _ q_169) (fun _ h9 => h9) rfl dW_clashes_50 ?_
        refine lv_aload_n hx hb dW_clashes_53 rfl (lv_at hl 1 rfl) ?_
        refine va_get (D := g.1) (ci := 2) (v := .int u.2.1) (C := "NodeMaker$Wall") (T := Fd_W) (N := 4) hx hb ht i_W hown hK.1 hP 1 rfl rfl 1 (by decide) (ht _ q_172) (fun _ h9 => h9) rfl dW_clashes_54 ?_
        have hPc := hP.sub (ws' := [(a, wE v)]) [0] rfl
        refine ro_Vi (v := sW_hasWithin v u.1 u.2.1) (As := [.int u.1, .int u.2.1]) (rest := []) ⟨hx, hb, hml, hown, ht⟩ (cW_hasWithin l g a v u.1 u.2.1) (cwV 2 ht (g_V q_214 q_215 q_216 q_38 q_217) rfl rfl rfl hd_W_hasWithin ⟨Nat.le_of_ble_eq_true rfl, Nat.le_of_ble_eq_true rfl⟩) hK (hPc) (va_recv hK.1 hPc (ci := 2) (q0 := 0) rfl rfl) rfl hl.1 rfl (Nat.le_of_ble_eq_true rfl) dW_clashes_57 ⟨by show 0 ≤ 0; omega, by show 0 ≤ 0; omega⟩ ?_
        refine lv_if_ne (tgt := 108) hx hb dW_clashes_60 (by decide) (fun c_32 => ?_) (fun c_32 => ?_)
        · skip
          refine lv_iconst (v := 1) hx hb dW_clashes_108 (by decide) ?_
          refine lv_goto (tgt := 113) hx hb dW_clashes_109 (by decide) ?_
          exact W.zret hx hb hr rfl (fun t ht9 hW => ⟨_, rfl, by rw [sW_clashes, if_neg c_19, if_pos c_30, if_pos c_31, if_neg c_32], ht9⟩) (fun q h => by cases h) dW_clashes_113
        · skip
          refine lv_aload_n hx hb dW_clashes_63 rfl (lv_at hl 0 rfl) ?_
          refine lv_aload_n hx hb dW_clashes_64 rfl (lv_at hl 1 rfl) ?_
          refine va_get (D := g.1) (ci := 2) (v := .int u.2.2.1) (C := "NodeMaker$Wall") (T := Fd_W) (N := 4) hx hb ht i_W hown hK.1 hP 1 rfl rfl 2 (by decide) (ht _ q_175) (fun _ h9 => h9) rfl dW_clashes_65 ?_
          refine lv_aload_n hx hb dW_clashes_68 rfl (lv_at hl 1 rfl) ?_
          refine va_get (D := g.1) (ci := 2) (v := .int u.2.2.2) (C := "NodeMaker$Wall") (T := Fd_W) (N := 4) hx hb ht i_W hown hK.1 hP 1 rfl rfl 3 (by decide) (ht _ q_178) (fun _ h9 => h9) rfl dW_clashes_69 ?_
          have hPc := hP.sub (ws' := [(a, wE v)]) [0] rfl
          refine ro_Vi (v := sW_hasWithin v u.2.2.1 u.2.2.2) (As := [.int u.2.2.1, .int u.2.2.2]) (rest := []) ⟨hx, hb, hml, hown, ht⟩ (cW_hasWithin l g a v u.2.2.1 u.2.2.2) (cwV 2 ht (g_V q_214 q_215 q_216 q_38 q_217) rfl rfl rfl hd_W_hasWithin ⟨Nat.le_of_ble_eq_true rfl, Nat.le_of_ble_eq_true rfl⟩) hK (hPc) (va_recv hK.1 hPc (ci := 2) (q0 := 0) rfl rfl) rfl hl.1 rfl (Nat.le_of_ble_eq_true rfl) dW_clashes_72 ⟨by show 0 ≤ 0; omega, by show 0 ≤ 0; omega⟩ ?_
          refine lv_if_ne (tgt := 108) hx hb dW_clashes_75 (by decide) (fun c_33 => ?_) (fun c_33 => ?_)
          · skip
            refine lv_iconst (v := 1) hx hb dW_clashes_108 (by decide) ?_
            refine lv_goto (tgt := 113) hx hb dW_clashes_109 (by decide) ?_
            exact W.zret hx hb hr rfl (fun t ht9 hW => ⟨_, rfl, by rw [sW_clashes, if_neg c_19, if_pos c_30, if_pos c_31, if_pos c_32, if_neg c_33], ht9⟩) (fun q h => by cases h) dW_clashes_113
          · skip
            refine lv_aload_n hx hb dW_clashes_78 rfl (lv_at hl 1 rfl) ?_
            refine lv_aload_n hx hb dW_clashes_79 rfl (lv_at hl 0 rfl) ?_
            refine va_get (D := g.1) (ci := 2) (v := .int v.1) (C := "NodeMaker$Wall") (T := Fd_W) (N := 4) hx hb ht i_W hown hK.1 hP 0 rfl rfl 0 (by decide) (ht _ q_169) (fun _ h9 => h9) rfl dW_clashes_80 ?_
            refine lv_aload_n hx hb dW_clashes_83 rfl (lv_at hl 0 rfl) ?_
            refine va_get (D := g.1) (ci := 2) (v := .int v.2.1) (C := "NodeMaker$Wall") (T := Fd_W) (N := 4) hx hb ht i_W hown hK.1 hP 0 rfl rfl 1 (by decide) (ht _ q_172) (fun _ h9 => h9) rfl dW_clashes_84 ?_
            have hPc := hP.sub (ws' := [(b, wE u)]) [1] rfl
            refine ro_Vi (v := sW_hasWithin u v.1 v.2.1) (As := [.int v.1, .int v.2.1]) (rest := []) ⟨hx, hb, hml, hown, ht⟩ (cW_hasWithin l g b u v.1 v.2.1) (cwV 2 ht (g_V q_214 q_215 q_216 q_38 q_217) rfl rfl rfl hd_W_hasWithin ⟨Nat.le_of_ble_eq_true rfl, Nat.le_of_ble_eq_true rfl⟩) hK (hPc) (va_recv hK.1 hPc (ci := 2) (q0 := 0) rfl rfl) rfl hl.1 rfl (Nat.le_of_ble_eq_true rfl) dW_clashes_87 ⟨by show 0 ≤ 0; omega, by show 0 ≤ 0; omega⟩ ?_
            refine lv_if_ne (tgt := 108) hx hb dW_clashes_90 (by decide) (fun c_34 => ?_) (fun c_34 => ?_)
            · skip
              refine lv_iconst (v := 1) hx hb dW_clashes_108 (by decide) ?_
              refine lv_goto (tgt := 113) hx hb dW_clashes_109 (by decide) ?_
              exact W.zret hx hb hr rfl (fun t ht9 hW => ⟨_, rfl, by rw [sW_clashes, if_neg c_19, if_pos c_30, if_pos c_31, if_pos c_32, if_pos c_33, if_neg c_34], ht9⟩) (fun q h => by cases h) dW_clashes_113
            · skip
              refine lv_aload_n hx hb dW_clashes_93 rfl (lv_at hl 1 rfl) ?_
              refine lv_aload_n hx hb dW_clashes_94 rfl (lv_at hl 0 rfl) ?_
              refine va_get (D := g.1) (ci := 2) (v := .int v.2.2.1) (C := "NodeMaker$Wall") (T := Fd_W) (N := 4) hx hb ht i_W hown hK.1 hP 0 rfl rfl 2 (by decide) (ht _ q_175) (fun _ h9 => h9) rfl dW_clashes_95 ?_
              refine lv_aload_n hx hb dW_clashes_98 rfl (lv_at hl 0 rfl) ?_
              refine va_get (D := g.1) (ci := 2) (v := .int v.2.2.2) (C := "NodeMaker$Wall") (T := Fd_W) (N := 4) hx hb ht i_W hown hK.1 hP 0 rfl rfl 3 (by decide) (ht _ q_178) (fun _ h9 => h9) rfl dW_clashes_99 ?_
              have hPc := hP.sub (ws' := [(b, wE u)]) [1] rfl
              refine ro_Vi (v := sW_hasWithin u v.2.2.1 v.2.2.2) (As := [.int v.2.2.1, .int v.2.2.2]) (rest := []) ⟨hx, hb, hml, hown, ht⟩ (cW_hasWithin l g b u v.2.2.1 v.2.2.2) (cwV 2 ht (g_V q_214 q_215 q_216 q_38 q_217) rfl rfl rfl hd_W_hasWithin ⟨Nat.le_of_ble_eq_true rfl, Nat.le_of_ble_eq_true rfl⟩) hK (hPc) (va_recv hK.1 hPc (ci := 2) (q0 := 0) rfl rfl) rfl hl.1 rfl (Nat.le_of_ble_eq_true rfl) dW_clashes_102 ⟨by show 0 ≤ 0; omega, by show 0 ≤ 0; omega⟩ ?_
              refine lv_if_eq (tgt := 112) hx hb dW_clashes_105 (by decide) (fun c_35 => ?_) (fun c_35 => ?_)
              · skip
                refine lv_iconst (v := 0) hx hb dW_clashes_112 (by decide) ?_
                exact W.zret hx hb hr rfl (fun t ht9 hW => ⟨_, rfl, by rw [sW_clashes, if_neg c_19, if_pos c_30, if_pos c_31, if_pos c_32, if_pos c_33, if_pos c_34, if_pos c_35], ht9⟩) (fun q h => by cases h) dW_clashes_113
              · skip
                refine lv_iconst (v := 1) hx hb dW_clashes_108 (by decide) ?_
                refine lv_goto (tgt := 113) hx hb dW_clashes_109 (by decide) ?_
                exact W.zret hx hb hr rfl (fun t ht9 hW => ⟨_, rfl, by rw [sW_clashes, if_neg c_19, if_pos c_30, if_pos c_31, if_pos c_32, if_pos c_33, if_pos c_34, if_neg c_35], ht9⟩) (fun q h => by cases h) dW_clashes_113
      · skip
        refine lv_aload_n hx hb dW_clashes_40 rfl (lv_at hl 1 rfl) ?_
        refine lv_aload_n hx hb dW_clashes_41 rfl (lv_at hl 0 rfl) ?_
        have hPc := hP.sub (ws' := [(b, wE u), (a, wE v)]) [1, 0] rfl
        refine ro_Vi (v := sW_parts u v) (As := [.ref a]) (rest := []) ⟨hx, hb, hml, hown, ht⟩ (cW_parts l g b u a v) (cwV 1 ht (g_V q_206 q_207 q_208 q_38 q_209) rfl rfl rfl hd_W_parts ⟨Nat.le_of_ble_eq_true rfl, Nat.le_of_ble_eq_true rfl⟩) hK (hPc) (va_recv hK.1 hPc (ci := 2) (q0 := 0) rfl rfl) rfl hl.1 rfl (Nat.le_of_ble_eq_true rfl) dW_clashes_42 ⟨by show 0 ≤ 0; omega, by show 0 ≤ 0; omega⟩ ?_
        refine lv_if_ne (tgt := 108) hx hb dW_clashes_45 (by decide) (fun c_36 => ?_) (fun c_36 => ?_)
        · skip
          refine lv_iconst (v := 1) hx hb dW_clashes_108 (by decide) ?_
          refine lv_goto (tgt := 113) hx hb dW_clashes_109 (by decide) ?_
          exact W.zret hx hb hr rfl (fun t ht9 hW => ⟨_, rfl, by rw [sW_clashes, if_neg c_19, if_pos c_30, if_neg c_31, if_neg c_36], ht9⟩) (fun q h => by cases h) dW_clashes_113
        · skip
          refine lv_aload_n hx hb dW_clashes_48 rfl (lv_at hl 0 rfl) ?_
          refine lv_aload_n hx hb dW_clashes_49 rfl (lv_at hl 1 rfl) ?_
          refine va_get (D := g.1) (ci := 2) (v := .int u.1) (C := "NodeMaker$Wall") (T := Fd_W) (N := 4) hx hb ht i_W hown hK.1 hP 1 rfl rfl 0 (by decide) (ht _ q_169) (fun _ h9 => h9) rfl dW_clashes_50 ?_
          refine lv_aload_n hx hb dW_clashes_53 rfl (lv_at hl 1 rfl) ?_
          refine va_get (D := g.1) (ci := 2) (v := .int u.2.1) (C := "NodeMaker$Wall") (T := Fd_W) (N := 4) hx hb ht i_W hown hK.1 hP 1 rfl rfl 1 (by decide) (ht _ q_172) (fun _ h9 => h9) rfl dW_clashes_54 ?_
          have hPc := hP.sub (ws' := [(a, wE v)]) [0] rfl
          refine ro_Vi (v := sW_hasWithin v u.1 u.2.1) (As := [.int u.1, .int u.2.1]) (rest := []) ⟨hx, hb, hml, hown, ht⟩ (cW_hasWithin l g a v u.1 u.2.1) (cwV 2 ht (g_V q_214 q_215 q_216 q_38 q_217) rfl rfl rfl hd_W_hasWithin ⟨Nat.le_of_ble_eq_true rfl, Nat.le_of_ble_eq_true rfl⟩) hK (hPc) (va_recv hK.1 hPc (ci := 2) (q0 := 0) rfl rfl) rfl hl.1 rfl (Nat.le_of_ble_eq_true rfl) dW_clashes_57 ⟨by show 0 ≤ 0; omega, by show 0 ≤ 0; omega⟩ ?_
          refine lv_if_ne (tgt := 108) hx hb dW_clashes_60 (by decide) (fun c_37 => ?_) (fun c_37 => ?_)
          · skip
            refine lv_iconst (v := 1) hx hb dW_clashes_108 (by decide) ?_
            refine lv_goto (tgt := 113) hx hb dW_clashes_109 (by decide) ?_
            exact W.zret hx hb hr rfl (fun t ht9 hW => ⟨_, rfl, by rw [sW_clashes, if_neg c_19, if_pos c_30, if_neg c_31, if_pos c_36, if_neg c_37], ht9⟩) (fun q h => by cases h) dW_clashes_113
          · skip
            refine lv_aload_n hx hb dW_clashes_63 rfl (lv_at hl 0 rfl) ?_
            refine lv_aload_n hx hb dW_clashes_64 rfl (lv_at hl 1 rfl) ?_
            refine va_get (D := g.1) (ci := 2) (v := .int u.2.2.1) (C := "NodeMaker$Wall") (T := Fd_W) (N := 4) hx hb ht i_W hown hK.1 hP 1 rfl rfl 2 (by decide) (ht _ q_175) (fun _ h9 => h9) rfl dW_clashes_65 ?_
            refine lv_aload_n hx hb dW_clashes_68 rfl (lv_at hl 1 rfl) ?_
            refine va_get (D := g.1) (ci := 2) (v := .int u.2.2.2) (C := "NodeMaker$Wall") (T := Fd_W) (N := 4) hx hb ht i_W hown hK.1 hP 1 rfl rfl 3 (by decide) (ht _ q_178) (fun _ h9 => h9) rfl dW_clashes_69 ?_
            have hPc := hP.sub (ws' := [(a, wE v)]) [0] rfl
            refine ro_Vi (v := sW_hasWithin v u.2.2.1 u.2.2.2) (As := [.int u.2.2.1, .int u.2.2.2]) (rest := []) ⟨hx, hb, hml, hown, ht⟩ (cW_hasWithin l g a v u.2.2.1 u.2.2.2) (cwV 2 ht (g_V q_214 q_215 q_216 q_38 q_217) rfl rfl rfl hd_W_hasWithin ⟨Nat.le_of_ble_eq_true rfl, Nat.le_of_ble_eq_true rfl⟩) hK (hPc) (va_recv hK.1 hPc (ci := 2) (q0 := 0) rfl rfl) rfl hl.1 rfl (Nat.le_of_ble_eq_true rfl) dW_clashes_72 ⟨by show 0 ≤ 0; omega, by show 0 ≤ 0; omega⟩ ?_
            refine lv_if_ne (tgt := 108) hx hb dW_clashes_75 (by decide) (fun c_38 => ?_) (fun c_38 => ?_)
            · skip
              refine lv_iconst (v := 1) hx hb dW_clashes_108 (by decide) ?_
              refine lv_goto (tgt := 113) hx hb dW_clashes_109 (by decide) ?_
              exact W.zret hx hb hr rfl (fun t ht9 hW => ⟨_, rfl, by rw [sW_clashes, if_neg c_19, if_pos c_30, if_neg c_31, if_pos c_36, if_pos c_37, if_neg c_38], ht9⟩) (fun q h => by cases h) dW_clashes_113
            · skip
              refine lv_aload_n hx hb dW_clashes_78 rfl (lv_at hl 1 rfl) ?_
              refine lv_aload_n hx hb dW_clashes_79 rfl (lv_at hl 0 rfl) ?_
              refine va_get (D := g.1) (ci := 2) (v := .int v.1) (C := "NodeMaker$Wall") (T := Fd_W) (N := 4) hx hb ht i_W hown hK.1 hP 0 rfl rfl 0 (by decide) (ht _ q_169) (fun _ h9 => h9) rfl dW_clashes_80 ?_
              refine lv_aload_n hx hb dW_clashes_83 rfl (lv_at hl 0 rfl) ?_
              refine va_get (D := g.1) (ci := 2) (v := .int v.2.1) (C := "NodeMaker$Wall") (T := Fd_W) (N := 4) hx hb ht i_W hown hK.1 hP 0 rfl rfl 1 (by decide) (ht _ q_172) (fun _ h9 => h9) rfl dW_clashes_84 ?_
              have hPc := hP.sub (ws' := [(b, wE u)]) [1] rfl
              refine ro_Vi (v := sW_hasWithin u v.1 v.2.1) (As := [.int v.1, .int v.2.1]) (rest := []) ⟨hx, hb, hml, hown, ht⟩ (cW_hasWithin l g b u v.1 v.2.1) (cwV 2 ht (g_V q_214 q_215 q_216 q_38 q_217) rfl rfl rfl hd_W_hasWithin ⟨Nat.le_of_ble_eq_true rfl, Nat.le_of_ble_eq_true rfl⟩) hK (hPc) (va_recv hK.1 hPc (ci := 2) (q0 := 0) rfl rfl) rfl hl.1 rfl (Nat.le_of_ble_eq_true rfl) dW_clashes_87 ⟨by show 0 ≤ 0; omega, by show 0 ≤ 0; omega⟩ ?_
              refine lv_if_ne (tgt := 108) hx hb dW_clashes_90 (by decide) (fun c_39 => ?_) (fun c_39 => ?_)
              · skip
                refine lv_iconst (v := 1) hx hb dW_clashes_108 (by decide) ?_
                refine lv_goto (tgt := 113) hx hb dW_clashes_109 (by decide) ?_
                exact W.zret hx hb hr rfl (fun t ht9 hW => ⟨_, rfl, by rw [sW_clashes, if_neg c_19, if_pos c_30, if_neg c_31, if_pos c_36, if_pos c_37, if_pos c_38, if_neg c_39], ht9⟩) (fun q h => by cases h) dW_clashes_113
              · skip
                refine lv_aload_n hx hb dW_clashes_93 rfl (lv_at hl 1 rfl) ?_
                refine lv_aload_n hx hb dW_clashes_94 rfl (lv_at hl 0 rfl) ?_
                refine va_get (D := g.1) (ci := 2) (v := .int v.2.2.1) (C := "NodeMaker$Wall") (T := Fd_W) (N := 4) hx hb ht i_W hown hK.1 hP 0 rfl rfl 2 (by decide) (ht _ q_175) (fun _ h9 => h9) rfl dW_clashes_95 ?_
                refine lv_aload_n hx hb dW_clashes_98 rfl (lv_at hl 0 rfl) ?_
                refine va_get (D := g.1) (ci := 2) (v := .int v.2.2.2) (C := "NodeMaker$Wall") (T := Fd_W) (N := 4) hx hb ht i_W hown hK.1 hP 0 rfl rfl 3 (by decide) (ht _ q_178) (fun _ h9 => h9) rfl dW_clashes_99 ?_
                have hPc := hP.sub (ws' := [(b, wE u)]) [1] rfl
                refine ro_Vi (v := sW_hasWithin u v.2.2.1 v.2.2.2) (As := [.int v.2.2.1, .int v.2.2.2]) (rest := []) ⟨hx, hb, hml, hown, ht⟩ (cW_hasWithin l g b u v.2.2.1 v.2.2.2) (cwV 2 ht (g_V q_214 q_215 q_216 q_38 q_217) rfl rfl rfl hd_W_hasWithin ⟨Nat.le_of_ble_eq_true rfl, Nat.le_of_ble_eq_true rfl⟩) hK (hPc) (va_recv hK.1 hPc (ci := 2) (q0 := 0) rfl rfl) rfl hl.1 rfl (Nat.le_of_ble_eq_true rfl) dW_clashes_102 ⟨by show 0 ≤ 0; omega, by show 0 ≤ 0; omega⟩ ?_
                refine lv_if_eq (tgt := 112) hx hb dW_clashes_105 (by decide) (fun c_40 => ?_) (fun c_40 => ?_)
                · skip
                  refine lv_iconst (v := 0) hx hb dW_clashes_112 (by decide) ?_
                  exact W.zret hx hb hr rfl (fun t ht9 hW => ⟨_, rfl, by rw [sW_clashes, if_neg c_19, if_pos c_30, if_neg c_31, if_pos c_36, if_pos c_37, if_pos c_38, if_pos c_39, if_pos c_40], ht9⟩) (fun q h => by cases h) dW_clashes_113
                · skip
                  refine lv_iconst (v := 1) hx hb dW_clashes_108 (by decide) ?_
                  refine lv_goto (tgt := 113) hx hb dW_clashes_109 (by decide) ?_
                  exact W.zret hx hb hr rfl (fun t ht9 hW => ⟨_, rfl, by rw [sW_clashes, if_neg c_19, if_pos c_30, if_neg c_31, if_pos c_36, if_pos c_37, if_pos c_38, if_pos c_39, if_neg c_40], ht9⟩) (fun q h => by cases h) dW_clashes_113
    · skip
      refine lv_iconst (v := 1) hx hb dW_clashes_30 (by decide) ?_
      exact W.zret hx hb hr rfl (fun t ht9 hW => ⟨_, rfl, by rw [sW_clashes, if_neg c_19, if_neg c_30], ht9⟩) (fun q h => by cases h) dW_clashes_31
set_option maxHeartbeats 4000000 in
set_option maxRecDepth 100000 in
theorem cW_init (l : Launch) (g : CX) (sz : Nat) (a : Nat) (x0 y0 x1 y1 : Int32) : Met l yW_init (wm yW_init kW_init 5 none) ({ frames := 1, cells := 0, slots := 0, locals := 12 }) (rw g [.ref a, .int x0, .int y0, .int x1, .int y1] [(a, .inr (2, [.int 0, .int 0, .int 0, .int 0]))] sz) (va_Qv (fun (_u : Unit) => True) (rB g (va_A [(a, .inr (2, [.int 0, .int 0, .int 0, .int 0]))] sz) (fun _u => [(a, wE (x0, y0, x1, y1))])) (va_A [(a, .inr (2, [.int 0, .int 0, .int 0, .int 0]))] sz)) 0 0 (va_A [(a, .inr (2, [.int 0, .int 0, .int 0, .int 0]))] sz) := by
  refine Met.ofW (cc := kW_init) (maxL := 5) (ret := none) (by decide) rfl ?_
  intro p e s m args below meth c s₁ B hml hv
  obtain ⟨rfl, hsz, hK, hP, hD0⟩ := hv
  have hx := B.exec
  have hb := B.bytes
  have hr := B.returns
  have ht : ∀ w ∈ wT, w.before _ s = true := fun w h => atoms_spec (ws := wm yW_init kW_init 5 none) B.pre w (List.mem_cons_of_mem _ h)
  have hown : s.vm.findClass "NodeMaker$Wall" = some m.cls := findClass_of_methodNamed B.named
  have hlocks := B.notSynchronized
  have hin : meth.name = "<init>" := (name_of_methodNamed B.named B.method).1
  subst hsz
  have hD := hD0.self (sz := s.heap.size)
  generalize hAe : va_A [(a, .inr (2, [.int 0, .int 0, .int 0, .int 0]))] s.heap.size = A at hD ⊢
  have hA : ∀ q : Nat, s.heap.size ≤ q → A q := fun q h => by rw [← hAe]; exact Or.inr h
  have hS : va_S A s.heap s.heap [] := va_S.rf
  have hl := lv_entry ([.ref a, .int x0, .int y0, .int x1, .int y1]) (n := 5) (Nat.le_of_ble_eq_true rfl)
  rw [lg_entry_eq]
  generalize (lg_sl ([.ref a, .int x0, .int y0, .int x1, .int y1]) ++ List.replicate (5 - (lg_sl ([.ref a, .int x0, .int y0, .int x1, .int y1])).length) Slot.unset).toArray = ls at hl ⊢
  have hl : lv_has ls 5 [(0, .ref a), (1, .int x0), (2, .int y0), (3, .int x1), (4, .int y1)] := hl
  refine lv_aload_n hx hb dW_init_0 rfl (lv_at hl 0 rfl) ?_
  refine W.objInit hx hb hown (ht _ q_168) (ht _ q_48) (ht _ q_49) rfl (by rw [hml]; exact hl.1) rfl dW_init_1 (Nat.le_of_ble_eq_true rfl) (Nat.le_of_ble_eq_true rfl) ?_
  refine W.eq (g2 := F0 m 4 ls []) rfl ?_
  refine lv_aload_n hx hb dW_init_4 rfl (lv_at hl 0 rfl) ?_
  refine lv_iload_n hx hb dW_init_5 rfl (lv_at hl 1 rfl) ?_
  refine va_putF (D := g.1) (ci := 2) (v := .int x0) (ty := .int) (C := "NodeMaker$Wall") (T := Fd_W) (N := 4) hx hb ht i_W ty_W ty_W_ok nm_W hown hK.1 hP hD hS 0 rfl rfl 0 (by decide) (ht _ q_169) (fun _ h9 => h9) rfl hin rfl (by decide +kernel) rfl rfl (Nat.le_of_ble_eq_true rfl) dW_init_6 (fun H locs hP hD hS => ?_)
  have hP : va_P g.1 vwCl [(a, .inr (2, [.int x0, .int 0, .int 0, .int 0]))] H := hP
  have hD : va_D A [(a, .inr (2, [.int x0, .int 0, .int 0, .int 0]))] := hD
  refine lv_aload_n hx hb dW_init_9 rfl (lv_at hl 0 rfl) ?_
  refine lv_iload_n hx hb dW_init_10 rfl (lv_at hl 2 rfl) ?_
  refine va_putF (D := g.1) (ci := 2) (v := .int y0) (ty := .int) (C := "NodeMaker$Wall") (T := Fd_W) (N := 4) hx hb ht i_W ty_W ty_W_ok nm_W hown hK.1 hP hD hS 0 rfl rfl 1 (by decide) (ht _ q_172) (fun _ h9 => h9) rfl hin rfl (by decide +kernel) rfl rfl (Nat.le_of_ble_eq_true rfl) dW_init_11 (fun H locs hP hD hS => ?_)
  have hP : va_P g.1 vwCl [(a, .inr (2, [.int x0, .int y0, .int 0, .int 0]))] H := hP
  have hD : va_D A [(a, .inr (2, [.int x0, .int y0, .int 0, .int 0]))] := hD
  refine lv_aload_n hx hb dW_init_14 rfl (lv_at hl 0 rfl) ?_
  refine lv_iload_n hx hb dW_init_15 rfl (lv_at hl 3 rfl) ?_
  refine va_putF (D := g.1) (ci := 2) (v := .int x1) (ty := .int) (C := "NodeMaker$Wall") (T := Fd_W) (N := 4) hx hb ht i_W ty_W ty_W_ok nm_W hown hK.1 hP hD hS 0 rfl rfl 2 (by decide) (ht _ q_175) (fun _ h9 => h9) rfl hin rfl (by decide +kernel) rfl rfl (Nat.le_of_ble_eq_true rfl) dW_init_16 (fun H locs hP hD hS => ?_)
  have hP : va_P g.1 vwCl [(a, .inr (2, [.int x0, .int y0, .int x1, .int 0]))] H := hP
  have hD : va_D A [(a, .inr (2, [.int x0, .int y0, .int x1, .int 0]))] := hD
  refine lv_aload_n hx hb dW_init_19 rfl (lv_at hl 0 rfl) ?_
  refine lv_iload hx hb dW_init_20 (lv_at hl 4 rfl) ?_
  refine va_putF (D := g.1) (ci := 2) (v := .int y1) (ty := .int) (C := "NodeMaker$Wall") (T := Fd_W) (N := 4) hx hb ht i_W ty_W ty_W_ok nm_W hown hK.1 hP hD hS 0 rfl rfl 3 (by decide) (ht _ q_178) (fun _ h9 => h9) rfl hin rfl (by decide +kernel) rfl rfl (Nat.le_of_ble_eq_true rfl) dW_init_22 (fun H locs hP hD hS => ?_)
  have hP : va_P g.1 vwCl [(a, .inr (2, [.int x0, .int y0, .int x1, .int y1]))] H := hP
  have hD : va_D A [(a, .inr (2, [.int x0, .int y0, .int x1, .int y1]))] := hD
  exact W.vret hx hb hr (fun t ht9 hW => ⟨⟨(), rfl, trivial, by rw [ht9]; exact hP, hD⟩, hS.F ht9⟩) hS.2.2 dW_init_25
end
section
-- worlds with a pool: cut a part out with the pool, put it back
theorem pl_P {D : va_G} {cl : List vw_C} {X cx pl : va_W} {H : Heap} (hP : va_P D cl (X ++ pl) H) (isC : List Nat) (hC : isC.map (fun i => X[i]?) = cx.map some) : va_P D cl (cx ++ pl) H := hP.by _ (va_part isC hC)
theorem pl_ix {X cx : va_W} {isC : List Nat} (hC : isC.map (fun i => X[i]?) = cx.map some) {k : Nat} (hk : k < cx.length) : ∃ i, isC[k]? = some i ∧ i < X.length := by
  have hl : isC.length = cx.length := by have := congrArg List.length hC; simpa using this
  obtain ⟨i, hi⟩ : ∃ i, isC[k]? = some i := ⟨isC[k]'(by omega), List.getElem?_eq_getElem (by omega)⟩
  refine ⟨i, hi, ?_⟩
  have h1 : (isC.map (fun i => X[i]?))[k]? = some (X[i]?) := by rw [List.getElem?_map, hi]; rfl
  rw [hC, List.getElem?_map, List.getElem?_eq_getElem hk] at h1
  simp only [Option.map_some, Option.some.injEq] at h1
  exact (List.getElem?_eq_some_iff.mp h1.symm).1
theorem pl_D {A : Nat → Prop} {X cx pl : va_W} (hD : va_D A (X ++ pl)) (isC : List Nat) (hn : va_nd isC = true) (hC : isC.map (fun i => X[i]?) = cx.map some) : va_D A (cx ++ pl) := by
  refine hD.by _ (va_part isC hC) ?_
  intro i j hi hj h
  by_cases h1 : i < cx.length
  · obtain ⟨a, ha, ha'⟩ := pl_ix hC h1
    by_cases h2 : j < cx.length
    · obtain ⟨b, hb, hb'⟩ := pl_ix hC h2
      rw [if_pos h1, if_pos h2, ha, hb] at h
      have e : a = b := h
      subst e
      exact va_nd_inj isC hn i j a ha hb
    · rw [if_pos h1, if_neg h2, ha] at h
      have e : a = X.length + (j - cx.length) := h
      omega
  · by_cases h2 : j < cx.length
    · obtain ⟨b, hb, hb'⟩ := pl_ix hC h2
      rw [if_neg h1, if_pos h2, hb] at h
      have e : X.length + (i - cx.length) = b := h
      omega
    · rw [if_neg h1, if_neg h2] at h
      omega
theorem pl_free {A0 : Nat → Prop} {X cx pl : va_W} {H0 H : Heap} {locs : List Loc} (hD : va_D A0 (X ++ pl)) (hS : va_S A0 H0 H locs) (hA : ∀ q, H0.size ≤ q → A0 q) (isC : List Nat) (hC : isC.map (fun i => X[i]?) = cx.map some) : ∀ q, va_A (cx ++ pl) H.size q → A0 q := by
  intro q h
  rcases h with ⟨k, e, h⟩ | h
  · exact hD.2 _ _ (va_part isC hC k (q, e) h)
  · exact hA q (Nat.le_trans hS.1 h)
/-- one of the pool alone -/
theorem pl_one {D : va_G} {cl : List vw_C} {X : va_W} {LW : List Nat} {f : Nat → va_E} {H : Heap} {x : Nat} (hP : va_P D cl (X ++ va_pl LW f) H) (h : x ∈ LW) : va_P D cl [(x, f x)] H := by
  obtain ⟨k, hk⟩ := va_pl_get (X := X) (f := f) h
  intro i q hi
  match i, hi with
  | 0, hi => cases hi; exact hP k _ hk
theorem pl_two {D : va_G} {cl : List vw_C} {X : va_W} {LW : List Nat} {f : Nat → va_E} {H : Heap} {x y : Nat} (hP : va_P D cl (X ++ va_pl LW f) H) (h : x ∈ LW) (h' : y ∈ LW) : va_P D cl [(x, f x), (y, f y)] H := by
  intro i q hi
  match i, hi with
  | 0, hi => cases hi; exact pl_one hP h 0 _ rfl
  | 1, hi => cases hi; exact pl_one hP h' 0 _ rfl
section RWP
variable {p : Program} {l : Launch} {e : Env} {R : Room} {s : State} {m : MethodId} {args : Array Value} {below : List Frame} {meth : Method} {c : Code} {H : Heap} {locs : List Loc} {cells slots mc ms : Nat} {Q : State → Prop}
variable {pc : Nat} {ls : Array Slot} {rest st0 : List Value} {g : CX} {a : Array Value} {A0 : Nat → Prop} {H0 : Heap} {X cx wr pl : va_W}
theorem rw_iP {S : Type} {post : Int32 → S → Prop} {rx : S → va_W} {pl1 : S → va_W} (hr : va_Run p l e R s m args below meth c H locs cells slots mc ms (F0 m pc ls st0) rest (va_Qi post (rB g (va_A (cx ++ pl) H.size) (fun u => rx u ++ pl1 u)) (va_A (cx ++ pl) H.size) a) (va_A (cx ++ pl) H.size)) (hP : va_P g.1 vwCl (X ++ pl) H) (hD : va_D A0 (X ++ pl)) (hS : va_S A0 H0 H locs) (hA : ∀ q, H0.size ≤ q → A0 q)
    (isC isR : List Nat) (hC : isC.map (fun i => X[i]?) = cx.map some) (hR : isR.map (fun i => X[i]?) = wr.map some) (hn : va_nd isR = true) (hdis : ∀ i ∈ isR, i ∉ isC)
    (kk : ∀ (r : Int32) (u : S) (H1 : Heap) (locs1 : List Loc), post r u → va_P g.1 vwCl ((wr ++ rx u) ++ pl1 u) H1 → va_D A0 ((wr ++ rx u) ++ pl1 u) → va_S A0 H0 H1 locs1 → W p l e R s m args below meth c H1 locs1 (cells + mc) (slots + ms) Q (F0 m (pc + 3) ls (.int r :: rest))) : W p l e R s m args below meth c H locs cells slots Q (F0 m pc ls st0) := by
  have hFc := pl_free hD hS hA isC hC
  refine va_calli hr hS (fun q _ h => hFc q h) hFc (fun r u t H1 locs1 ht hvm hw hB hz1 hk1 hS1 => ?_)
  obtain ⟨hP1, hD1⟩ := hB
  rw [ht] at hP1
  obtain ⟨hP2, hD2⟩ := va_joinP (wr := wr) (rx := rx u) (pl1 := pl1 u) hP hD isC isR hC hR hn hdis hk1 hFc hP1 hD1
  exact kk r u H1 locs1 hw hP2 hD2 hS1
theorem rw_vP {S : Type} {post : S → Prop} {rx : S → va_W} {pl1 : S → va_W} (hr : va_Run p l e R s m args below meth c H locs cells slots mc ms (F0 m pc ls st0) rest (va_Qv post (rB g (va_A (cx ++ pl) H.size) (fun u => rx u ++ pl1 u)) (va_A (cx ++ pl) H.size) a) (va_A (cx ++ pl) H.size)) (hP : va_P g.1 vwCl (X ++ pl) H) (hD : va_D A0 (X ++ pl)) (hS : va_S A0 H0 H locs) (hA : ∀ q, H0.size ≤ q → A0 q)
    (isC isR : List Nat) (hC : isC.map (fun i => X[i]?) = cx.map some) (hR : isR.map (fun i => X[i]?) = wr.map some) (hn : va_nd isR = true) (hdis : ∀ i ∈ isR, i ∉ isC)
    (kk : ∀ (u : S) (H1 : Heap) (locs1 : List Loc), post u → va_P g.1 vwCl ((wr ++ rx u) ++ pl1 u) H1 → va_D A0 ((wr ++ rx u) ++ pl1 u) → va_S A0 H0 H1 locs1 → W p l e R s m args below meth c H1 locs1 (cells + mc) (slots + ms) Q (F0 m (pc + 3) ls rest)) : W p l e R s m args below meth c H locs cells slots Q (F0 m pc ls st0) := by
  have hFc := pl_free hD hS hA isC hC
  refine va_callv hr hS (fun q _ h => hFc q h) hFc (fun u t H1 locs1 ht hvm hw hB hz1 hk1 hS1 => ?_)
  obtain ⟨hP1, hD1⟩ := hB
  rw [ht] at hP1
  obtain ⟨hP2, hD2⟩ := va_joinP (wr := wr) (rx := rx u) (pl1 := pl1 u) hP hD isC isR hC hR hn hdis hk1 hFc hP1 hD1
  exact kk u H1 locs1 hw hP2 hD2 hS1
end RWP
/-- what is at a wall's number -/
def wAt (Wl : Nat → Option WV) (i : Int32) : Option WV := if i < 0 then none else if 64 ≤ i then none else Wl i.toNatClampNeg
/-- the wall at each number, by the slots and the objects -/
abbrev wOf (sl : Nat → Option Nat) (wv : Nat → WV) : Nat → Option WV := fun i => (sl i).map wv
def slOK (sl : Nat → Option Nat) (LW : List Nat) : Prop := ∀ i x, sl i = some x → x ∈ LW
abbrev plW (LW : List Nat) (wv : Nat → WV) : va_W := va_pl LW (fun x => wE (wv x))
abbrev wsX (g : CX) (a q : Nat) (sl : Nat → Option Nat) (cnt : Int32) : va_W := [(a, .inr (3, [.ref q, .int cnt])), (q, .inl (g.2 1, 64, .inr (.inr (.inr (.inr sl)))))]
theorem va_rf_ok (r : Option Nat) : va_rf r = .null ∨ ∃ a, va_rf r = .ref a := by cases r with | none => exact Or.inl rfl | some x => exact Or.inr ⟨x, rfl⟩
theorem in64 {i : Int32} (h0 : ¬ i < 0) (h1 : ¬ 64 ≤ i) : vp_in i 64 := by
  rcases pk_ix i (n := 64) (by decide) with q | q | ⟨j, hj, rfl⟩
  · exact absurd q h0
  · exact absurd q h1
  · exact vp_in_nI hj (by decide)
end
section
theorem hd_S_init : yS_init.cls ≠ "java/lang/invoke/MethodHandle" ∧ yS_init.cls ≠ "java/lang/invoke/VarHandle" ∧ (parseMethodDescriptor yS_init.desc).map (fun d => d.parameters.length) = some 0 := by decide +kernel
theorem hd_S_count : yS_count.cls = "NodeMaker$Walls" ∧ yS_count.cls ≠ "java/lang/invoke/MethodHandle" ∧ yS_count.cls ≠ "java/lang/invoke/VarHandle" ∧ (parseMethodDescriptor yS_count.desc).map (fun d => d.parameters.length) = some 0 := by decide +kernel
theorem hd_S_at : yS_at.cls = "NodeMaker$Walls" ∧ yS_at.cls ≠ "java/lang/invoke/MethodHandle" ∧ yS_at.cls ≠ "java/lang/invoke/VarHandle" ∧ (parseMethodDescriptor yS_at.desc).map (fun d => d.parameters.length) = some 1 := by decide +kernel
theorem hd_S_add : yS_add.cls = "NodeMaker$Walls" ∧ yS_add.cls ≠ "java/lang/invoke/MethodHandle" ∧ yS_add.cls ≠ "java/lang/invoke/VarHandle" ∧ (parseMethodDescriptor yS_add.desc).map (fun d => d.parameters.length) = some 1 := by decide +kernel
theorem hd_S_drop : yS_drop.cls = "NodeMaker$Walls" ∧ yS_drop.cls ≠ "java/lang/invoke/MethodHandle" ∧ yS_drop.cls ≠ "java/lang/invoke/VarHandle" ∧ (parseMethodDescriptor yS_drop.desc).map (fun d => d.parameters.length) = some 1 := by decide +kernel
theorem hd_S_dropAll : yS_dropAll.cls = "NodeMaker$Walls" ∧ yS_dropAll.cls ≠ "java/lang/invoke/MethodHandle" ∧ yS_dropAll.cls ≠ "java/lang/invoke/VarHandle" ∧ (parseMethodDescriptor yS_dropAll.desc).map (fun d => d.parameters.length) = some 0 := by decide +kernel
set_option maxHeartbeats 4000000 in
set_option maxRecDepth 100000 in
theorem cS_count (l : Launch) (g : CX) (a q : Nat) (sl : Nat → Option Nat) (cnt : Int32) (LW : List Nat) (wv : Nat → WV) : Met l yS_count (wm yS_count kS_count 1 (some .int)) ({ frames := 0, cells := 0, slots := 0, locals := 0 }) (ro g [.ref a] (va_P g.1 vwCl (wsX g a q sl cnt ++ plW LW wv))) (vp_Si (fun r => r = cnt)) 0 0 (fun _ => False) := by
  refine Met.ofW (cc := kS_count) (maxL := 1) (ret := (some .int)) (by decide) rfl ?_
  intro p e s m args below meth c s₁ B hml hv
  obtain ⟨rfl, hK, hP⟩ := hv
  have hx := B.exec
  have hb := B.bytes
  have hr := B.returns
  have ht : ∀ w ∈ wT, w.before _ s = true := fun w h => atoms_spec (ws := wm yS_count kS_count 1 (some .int)) B.pre w (List.mem_cons_of_mem _ h)
  have hown : s.vm.findClass "NodeMaker$Walls" = some m.cls := findClass_of_methodNamed B.named
  have hlocks := B.notSynchronized
  have hl := lv_entry ([.ref a]) (n := 1) (Nat.le_of_ble_eq_true rfl)
  rw [lg_entry_eq]
  generalize (lg_sl ([.ref a]) ++ List.replicate (1 - (lg_sl ([.ref a])).length) Slot.unset).toArray = ls at hl ⊢
  have hl : lv_has ls 1 [(0, .ref a)] := hl
  refine lv_aload_n hx hb dS_count_0 rfl (lv_at hl 0 rfl) ?_
  refine va_get (D := g.1) (ci := 3) (v := .int cnt) (C := "NodeMaker$Walls") (T := Fd_S) (N := 2) hx hb ht i_S hown hK.1 hP 0 rfl rfl 1 (by decide) (ht _ q_65) (fun _ h9 => h9) rfl dS_count_1 ?_
  exact W.iret hx hb hr (fun t ht9 hW => ⟨_, rfl, rfl, ht9⟩) (fun q h => by cases h) dS_count_4
set_option maxHeartbeats 4000000 in
set_option maxRecDepth 100000 in
theorem cS_at (l : Launch) (g : CX) (a q : Nat) (sl : Nat → Option Nat) (cnt : Int32) (LW : List Nat) (wv : Nat → WV) (hsl : slOK sl LW) (i : Int32) : Met l yS_at (wm yS_at kS_at 2 (some (.object "NodeMaker$Wall"))) ({ frames := 0, cells := 0, slots := 0, locals := 0 }) (ro g [.ref a, .int i] (va_P g.1 vwCl (wsX g a q sl cnt ++ plW LW wv))) (va_Sq (fun r => r.map wv = wAt (wOf sl wv) i ∧ ∀ x, r = some x → x ∈ LW)) 0 0 (fun _ => False) := by
  refine Met.ofW (cc := kS_at) (maxL := 2) (ret := (some (.object "NodeMaker$Wall"))) (by decide) rfl ?_
  intro p e s m args below meth c s₁ B hml hv
  obtain ⟨rfl, hK, hP⟩ := hv
  have hx := B.exec
  have hb := B.bytes
  have hr := B.returns
  have ht : ∀ w ∈ wT, w.before _ s = true := fun w h => atoms_spec (ws := wm yS_at kS_at 2 (some (.object "NodeMaker$Wall"))) B.pre w (List.mem_cons_of_mem _ h)
  have hown : s.vm.findClass "NodeMaker$Walls" = some m.cls := findClass_of_methodNamed B.named
  have hlocks := B.notSynchronized
  have hl := lv_entry ([.ref a, .int i]) (n := 2) (Nat.le_of_ble_eq_true rfl)
  rw [lg_entry_eq]
  generalize (lg_sl ([.ref a, .int i]) ++ List.replicate (2 - (lg_sl ([.ref a, .int i])).length) Slot.unset).toArray = ls at hl ⊢
  have hl : lv_has ls 2 [(0, .ref a), (1, .int i)] := hl
  refine lv_iload_n hx hb dS_at_0 rfl (lv_at hl 1 rfl) ?_
  refine lv_if_lt (tgt := 19) hx hb dS_at_1 (by decide) (fun c_1 => ?_) (fun c_1 => ?_)
  · skip
    refine lv_null hx hb dS_at_19 ?_
    exact W.aret hx hb hr (Or.inl ⟨_, rfl⟩) (Or.inl rfl) (fun t ht9 hW => ⟨none, rfl, ⟨by rw [wAt, if_pos c_1]; rfl, fun x h => by cases h⟩, ht9⟩) (fun q h => by cases h) dS_at_20
  · skip
    refine lv_iload_n hx hb dS_at_4 rfl (lv_at hl 1 rfl) ?_
    refine lv_bipush (v := 64) hx hb dS_at_5 (by decide) ?_
    refine lv_icmp_ge (tgt := 19) hx hb dS_at_7 (by decide) (fun c_2 => ?_) (fun c_2 => ?_)
    · skip
      refine lv_null hx hb dS_at_19 ?_
      exact W.aret hx hb hr (Or.inl ⟨_, rfl⟩) (Or.inl rfl) (fun t ht9 hW => ⟨none, rfl, ⟨by rw [wAt, if_neg c_1, if_pos c_2]; rfl, fun x h => by cases h⟩, ht9⟩) (fun q h => by cases h) dS_at_20
    · skip
      refine lv_aload_n hx hb dS_at_10 rfl (lv_at hl 0 rfl) ?_
      refine va_get (D := g.1) (ci := 3) (v := .ref q) (C := "NodeMaker$Walls") (T := Fd_S) (N := 2) hx hb ht i_S hown hK.1 hP 0 rfl rfl 0 (by decide) (ht _ q_64) (fun _ h9 => h9) rfl dS_at_11 ?_
      refine lv_iload_n hx hb dS_at_14 rfl (lv_at hl 1 rfl) ?_
      refine va_aldq hx hb hK.1 hP 1 1 rfl rfl (in64 c_1 c_2) dS_at_15 ?_
      refine lv_goto (tgt := 20) hx hb dS_at_16 (by decide) ?_
      exact W.aret hx hb hr (Or.inl ⟨_, rfl⟩) (va_rf_ok _) (fun t ht9 hW => ⟨sl i.toNatClampNeg, rfl, ⟨by rw [wAt, if_neg c_1, if_neg c_2], fun x h => hsl _ x h⟩, ht9⟩) (fun q h => by cases h) dS_at_20
/-- the slots without a number; how many are left -/
def slDrop (Wl : Nat → Option WV) (sl : Nat → Option Nat) (i : Int32) : Nat → Option Nat := if wAt Wl i = none then sl else va_up sl i.toNatClampNeg none
theorem slDrop_ok {Wl : Nat → Option WV} {sl : Nat → Option Nat} {i : Int32} {LW : List Nat} (h : slOK sl LW) : slOK (slDrop Wl sl i) LW := by
  unfold slDrop
  split
  · exact h
  · intro j x hx
    unfold va_up at hx
    split at hx
    · cases hx
    · exact h j x hx
theorem wAt_in {Wl : Nat → Option WV} {i : Int32} (h : ¬ wAt Wl i = none) : vp_in i 64 := by
  unfold wAt at h
  split at h
  · exact absurd rfl h
  split at h
  · exact absurd rfl h
  · exact in64 (by assumption) (by assumption)
set_option maxHeartbeats 4000000 in
set_option maxRecDepth 100000 in
theorem cS_drop (l : Launch) (g : CX) (sz : Nat) (a q : Nat) (sl : Nat → Option Nat) (cnt : Int32) (LW : List Nat) (wv : Nat → WV) (hsl : slOK sl LW) (i : Int32) : Met l yS_drop (wm yS_drop kS_drop 2 (some .boolean)) ({ frames := 1, cells := 0, slots := 0, locals := 21 }) (rw g [.ref a, .int i] (wsX g a q sl cnt ++ plW LW wv) sz) (va_Qi (fun (r : Int32) (_u : Unit) => r = if wAt (wOf sl wv) i = none then 0 else 1) (rB g (va_A (wsX g a q sl cnt ++ plW LW wv) sz) (fun _u => (wsX g a q (slDrop (wOf sl wv) sl i) (if wAt (wOf sl wv) i = none then cnt else cnt - 1) ++ plW LW wv))) (va_A (wsX g a q sl cnt ++ plW LW wv) sz)) 0 0 (va_A (wsX g a q sl cnt ++ plW LW wv) sz) := by
  refine Met.ofW (cc := kS_drop) (maxL := 2) (ret := (some .boolean)) (by decide) rfl ?_
  intro p e s m args below meth c s₁ B hml hv
  obtain ⟨rfl, hsz, hK, hP, hD0⟩ := hv
  have hx := B.exec
  have hb := B.bytes
  have hr := B.returns
  have ht : ∀ w ∈ wT, w.before _ s = true := fun w h => atoms_spec (ws := wm yS_drop kS_drop 2 (some .boolean)) B.pre w (List.mem_cons_of_mem _ h)
  have hown : s.vm.findClass "NodeMaker$Walls" = some m.cls := findClass_of_methodNamed B.named
  have hlocks := B.notSynchronized
  subst hsz
  have hD := hD0.self (sz := s.heap.size)
  generalize hAe : va_A (wsX g a q sl cnt ++ plW LW wv) s.heap.size = A at hD ⊢
  have hA : ∀ q : Nat, s.heap.size ≤ q → A q := fun q h => by rw [← hAe]; exact Or.inr h
  have hS : va_S A s.heap s.heap [] := va_S.rf
  have hl := lv_entry ([.ref a, .int i]) (n := 2) (Nat.le_of_ble_eq_true rfl)
  rw [lg_entry_eq]
  generalize (lg_sl ([.ref a, .int i]) ++ List.replicate (2 - (lg_sl ([.ref a, .int i])).length) Slot.unset).toArray = ls at hl ⊢
  have hl : lv_has ls 2 [(0, .ref a), (1, .int i)] := hl
  refine lv_aload_n hx hb dS_drop_0 rfl (lv_at hl 0 rfl) ?_
  refine lv_iload_n hx hb dS_drop_1 rfl (lv_at hl 1 rfl) ?_
  refine ro_Vq (As := [.int i]) (rest := []) ⟨hx, hb, hml, hown, ht⟩ (cS_at l g a q sl cnt LW wv hsl i) (cwV 1 ht (g_V q_236 q_237 q_238 q_34 q_239) rfl rfl rfl hd_S_at ⟨Nat.le_of_ble_eq_true rfl, Nat.le_of_ble_eq_true rfl⟩) hK hP (va_recv hK.1 hP (ci := 3) (q0 := 0) rfl rfl) rfl hl.1 rfl (Nat.le_of_ble_eq_true rfl) dS_drop_2 ⟨by show 0 ≤ 0; omega, by show 0 ≤ 0; omega⟩ (fun hq => ?_) (fun x_3 hq => ?_)
  · skip
    have hw : wAt (wOf sl wv) i = none := hq.1.symm
    refine lv_ifnonnullN hx hb dS_drop_5 ?_
    refine lv_iconst (v := 0) hx hb dS_drop_8 (by decide) ?_
    have hn := hw
    have hP9 : va_P g.1 vwCl (wsX g a q (slDrop (wOf sl wv) sl i) (if wAt (wOf sl wv) i = none then cnt else cnt - 1) ++ plW LW wv) s.heap := by rw [slDrop, if_pos hn, if_pos hn]; exact hP
    have hD9 : va_D A (wsX g a q (slDrop (wOf sl wv) sl i) (if wAt (wOf sl wv) i = none then cnt else cnt - 1) ++ plW LW wv) := by rw [slDrop, if_pos hn, if_pos hn]; exact hD
    exact W.zret hx hb hr rfl (fun t ht9 hW => ⟨⟨_, (), rfl, by rw [if_pos hn], by rw [ht9]; exact hP9, hD9⟩, hS.F ht9⟩) hS.2.2 dS_drop_9
  · skip
    have hw : wAt (wOf sl wv) i = some (wv x_3) := hq.1.symm
    refine lv_ifnonnull (tgt := 10) hx hb dS_drop_5 (by decide) ?_
    refine lv_aload_n hx hb dS_drop_10 rfl (lv_at hl 0 rfl) ?_
    refine va_get (D := g.1) (ci := 3) (v := .ref q) (C := "NodeMaker$Walls") (T := Fd_S) (N := 2) hx hb ht i_S hown hK.1 hP 0 rfl rfl 0 (by decide) (ht _ q_64) (fun _ h9 => h9) rfl dS_drop_11 ?_
    refine lv_iload_n hx hb dS_drop_14 rfl (lv_at hl 1 rfl) ?_
    refine lv_null hx hb dS_drop_15 ?_
    refine va_astqN hx hb hK.1 hP hD hS 1 1 rfl rfl (wAt_in (by rw [hw]; exact fun h => by cases h)) dS_drop_16 (fun H locs hP hD hS => ?_)
    have hP : va_P g.1 vwCl ([(a, .inr (3, [.ref q, .int cnt])), (q, .inl (g.2 1, 64, .inr (.inr (.inr (.inr (va_up sl i.toNatClampNeg none))))))] ++ plW LW wv) H := hP
    have hD : va_D A ([(a, .inr (3, [.ref q, .int cnt])), (q, .inl (g.2 1, 64, .inr (.inr (.inr (.inr (va_up sl i.toNatClampNeg none))))))] ++ plW LW wv) := hD
    refine lv_aload_n hx hb dS_drop_17 rfl (lv_at hl 0 rfl) ?_
    refine lv_dup hx hb dS_drop_18 rfl ?_
    refine va_get (D := g.1) (ci := 3) (v := .int cnt) (C := "NodeMaker$Walls") (T := Fd_S) (N := 2) hx hb ht i_S hown hK.1 hP 0 rfl rfl 1 (by decide) (ht _ q_65) (fun _ h9 => h9) rfl dS_drop_19 ?_
    refine lv_iconst (v := 1) hx hb dS_drop_22 (by decide) ?_
    refine lv_isub hx hb dS_drop_23 ?_
    refine va_put (D := g.1) (ci := 3) (v := .int (cnt - 1)) (ty := .int) (C := "NodeMaker$Walls") (T := Fd_S) (N := 2) hx hb ht i_S ty_S ty_S_ok nm_S hown hK.1 hP hD hS 0 rfl rfl 1 (by decide) (ht _ q_65) (fun _ h9 => h9) rfl (by decide +kernel) rfl rfl (Nat.le_of_ble_eq_true rfl) dS_drop_24 (fun H locs hP hD hS => ?_)
    have hP : va_P g.1 vwCl ([(a, .inr (3, [.ref q, .int (cnt - 1)])), (q, .inl (g.2 1, 64, .inr (.inr (.inr (.inr (va_up sl i.toNatClampNeg none))))))] ++ plW LW wv) H := hP
    have hD : va_D A ([(a, .inr (3, [.ref q, .int (cnt - 1)])), (q, .inl (g.2 1, 64, .inr (.inr (.inr (.inr (va_up sl i.toNatClampNeg none))))))] ++ plW LW wv) := hD
    refine lv_iconst (v := 1) hx hb dS_drop_27 (by decide) ?_
    have hn : ¬ wAt (wOf sl wv) i = none := by rw [hw]; exact fun h => by cases h
    have hP9 : va_P g.1 vwCl (wsX g a q (slDrop (wOf sl wv) sl i) (if wAt (wOf sl wv) i = none then cnt else cnt - 1) ++ plW LW wv) H := by rw [slDrop, if_neg hn, if_neg hn]; exact hP
    have hD9 : va_D A (wsX g a q (slDrop (wOf sl wv) sl i) (if wAt (wOf sl wv) i = none then cnt else cnt - 1) ++ plW LW wv) := by rw [slDrop, if_neg hn, if_neg hn]; exact hD
    exact W.zret hx hb hr rfl (fun t ht9 hW => ⟨⟨_, (), rfl, by rw [if_neg hn], by rw [ht9]; exact hP9, hD9⟩, hS.F ht9⟩) hS.2.2 dS_drop_28
set_option maxHeartbeats 4000000 in
set_option maxRecDepth 100000 in
theorem cS_init (l : Launch) (g : CX) (sz : Nat) (a : Nat) : Met l yS_init (wm yS_init kS_init 1 none) ({ frames := 1, cells := 1, slots := 64, locals := 12 }) (rw g [.ref a] [(a, .inr (3, [.null, .int 0]))] sz) (va_Qv (fun (u : Nat) => True) (rB g (va_A [(a, .inr (3, [.null, .int 0]))] sz) (fun u => (wsX g a u (fun _ => none) 0))) (va_A [(a, .inr (3, [.null, .int 0]))] sz)) 1 64 (va_A [(a, .inr (3, [.null, .int 0]))] sz) := by
  refine Met.ofW (cc := kS_init) (maxL := 1) (ret := none) (by decide) rfl ?_
  intro p e s m args below meth c s₁ B hml hv
  obtain ⟨rfl, hsz, hK, hP, hD0⟩ := hv
  have hx := B.exec
  have hb := B.bytes
  have hr := B.returns
  have ht : ∀ w ∈ wT, w.before _ s = true := fun w h => atoms_spec (ws := wm yS_init kS_init 1 none) B.pre w (List.mem_cons_of_mem _ h)
  have hown : s.vm.findClass "NodeMaker$Walls" = some m.cls := findClass_of_methodNamed B.named
  have hlocks := B.notSynchronized
  have hin : meth.name = "<init>" := (name_of_methodNamed B.named B.method).1
  subst hsz
  have hD := hD0.self (sz := s.heap.size)
  generalize hAe : va_A [(a, .inr (3, [.null, .int 0]))] s.heap.size = A at hD ⊢
  have hA : ∀ q : Nat, s.heap.size ≤ q → A q := fun q h => by rw [← hAe]; exact Or.inr h
  have hS : va_S A s.heap s.heap [] := va_S.rf
  have hl := lv_entry ([.ref a]) (n := 1) (Nat.le_of_ble_eq_true rfl)
  rw [lg_entry_eq]
  generalize (lg_sl ([.ref a]) ++ List.replicate (1 - (lg_sl ([.ref a])).length) Slot.unset).toArray = ls at hl ⊢
  have hl : lv_has ls 1 [(0, .ref a)] := hl
  refine lv_aload_n hx hb dS_init_0 rfl (lv_at hl 0 rfl) ?_
  refine W.objInit hx hb hown (ht _ q_61) (ht _ q_48) (ht _ q_49) rfl (by rw [hml]; exact hl.1) rfl dS_init_1 (Nat.le_of_ble_eq_true rfl) (Nat.le_of_ble_eq_true rfl) ?_
  refine W.eq (g2 := F0 m 4 ls []) rfl ?_
  refine lv_aload_n hx hb dS_init_4 rfl (lv_at hl 0 rfl) ?_
  refine lv_bipush (v := 64) hx hb dS_init_5 (by decide) ?_
  refine xa_newq hx hb hown (ht _ q_62) hK hP hD hS hA (N' := 64) rfl (by decide) (by show 0 + 1 ≤ 1; omega) (by show 0 + 64 ≤ 64; omega) dS_init_7 (fun q_4 H hP hD hS => ?_)
  have hP : va_P g.1 vwCl [(a, .inr (3, [.null, .int 0])), (q_4, .inl (g.2 1, 64, .inr (.inr (.inr (.inr (fun _ => none))))))] H := hP
  have hD : va_D A [(a, .inr (3, [.null, .int 0])), (q_4, .inl (g.2 1, 64, .inr (.inr (.inr (.inr (fun _ => none))))))] := hD
  refine va_putF (D := g.1) (ci := 3) (v := .ref q_4) (ty := (.array (.object "NodeMaker$Wall"))) (C := "NodeMaker$Walls") (T := Fd_S) (N := 2) hx hb ht i_S ty_S ty_S_ok nm_S hown hK.1 hP hD hS 0 rfl rfl 0 (by decide) (ht _ q_64) (fun _ h9 => h9) rfl hin rfl (by decide +kernel) rfl rfl (Nat.le_of_ble_eq_true rfl) dS_init_10 (fun H locs hP hD hS => ?_)
  have hP : va_P g.1 vwCl [(a, .inr (3, [.ref q_4, .int 0])), (q_4, .inl (g.2 1, 64, .inr (.inr (.inr (.inr (fun _ => none))))))] H := hP
  have hD : va_D A [(a, .inr (3, [.ref q_4, .int 0])), (q_4, .inl (g.2 1, 64, .inr (.inr (.inr (.inr (fun _ => none))))))] := hD
  exact W.vret hx hb hr (fun t ht9 hW => ⟨⟨q_4, rfl, trivial, by rw [ht9]; exact hP, hD⟩, hS.F ht9⟩) hS.2.2 dS_init_13
set_option maxHeartbeats 4000000 in
set_option maxRecDepth 100000 in
theorem cS_dropAll (l : Launch) (g : CX) (sz : Nat) (a q : Nat) (sl : Nat → Option Nat) (cnt : Int32) (LW : List Nat) (wv : Nat → WV) : Met l yS_dropAll (wm yS_dropAll kS_dropAll 2 none) ({ frames := 0, cells := 0, slots := 0, locals := 0 }) (rw g [.ref a] (wsX g a q sl cnt ++ plW LW wv) sz) (va_Qv (fun (u : Nat → Option Nat) => ∀ j, j < 64 → u j = none) (rB g (va_A (wsX g a q sl cnt ++ plW LW wv) sz) (fun u => (wsX g a q u 0 ++ plW LW wv))) (va_A (wsX g a q sl cnt ++ plW LW wv) sz)) 0 0 (va_A (wsX g a q sl cnt ++ plW LW wv) sz) := by
  refine Met.ofW (cc := kS_dropAll) (maxL := 2) (ret := none) (by decide) rfl ?_
  intro p e s m args below meth c s₁ B hml hv
  obtain ⟨rfl, hsz, hK, hP, hD0⟩ := hv
  have hx := B.exec
  have hb := B.bytes
  have hr := B.returns
  have ht : ∀ w ∈ wT, w.before _ s = true := fun w h => atoms_spec (ws := wm yS_dropAll kS_dropAll 2 none) B.pre w (List.mem_cons_of_mem _ h)
  have hown : s.vm.findClass "NodeMaker$Walls" = some m.cls := findClass_of_methodNamed B.named
  have hlocks := B.notSynchronized
  subst hsz
  have hD := hD0.self (sz := s.heap.size)
  generalize hAe : va_A (wsX g a q sl cnt ++ plW LW wv) s.heap.size = A at hD ⊢
  have hA : ∀ q : Nat, s.heap.size ≤ q → A q := fun q h => by rw [← hAe]; exact Or.inr h
  have hS : va_S A s.heap s.heap [] := va_S.rf
  have hl := lv_entry ([.ref a]) (n := 2) (Nat.le_of_ble_eq_true rfl)
  rw [lg_entry_eq]
  generalize (lg_sl ([.ref a]) ++ List.replicate (2 - (lg_sl ([.ref a])).length) Slot.unset).toArray = ls at hl ⊢
  have hl : lv_has ls 2 [(0, .ref a)] := hl
  refine lv_iconst (v := 0) hx hb dS_dropAll_0 (by decide) ?_
  refine lv_istore_n (lv' := [(1, .int 0), (0, .ref a)]) hx hb dS_dropAll_1 rfl hl (by decide) rfl (fun ls hl => ?_)
  have loop : ∀ (n k : Nat) (i : Int32) (sl : Nat → Option Nat) (H : Heap) (locs : List Loc) (ls : Array Slot), k + n = 64 → i = nI k → (∀ j, j < k → sl j = none) → va_P g.1 vwCl (wsX g a q sl cnt ++ plW LW wv) H → va_D A (wsX g a q sl cnt ++ plW LW wv) → va_S A s.heap H locs → lv_has ls 2 [(1, .int i), (0, .ref a)] → W p l e (headSpec (wm yS_dropAll kS_dropAll 2 none) ({ frames := 0, cells := 0, slots := 0, locals := 0 })).room s m ([.ref a] : List Value).toArray below meth c H locs (0) (0) (MQ below (va_Qv (fun (u : Nat → Option Nat) => ∀ j, j < 64 → u j = none) (rB g A (fun u => (wsX g a q u 0 ++ plW LW wv))) A) ([.ref a] : List Value).toArray s 0 0 A) (F0 m 2 ls []) := by
    intro n
    induction n with
    | zero =>
      intro k i sl H locs ls hk hi hs hP hD hS hl
      refine lv_iload_n hx hb dS_dropAll_2 rfl (lv_at hl 0 rfl) ?_
      refine lv_bipush (v := 64) hx hb dS_dropAll_3 (by decide) ?_
      refine lv_icmp_ge (tgt := 21) hx hb dS_dropAll_5 (by decide) (fun c_5 => ?_) (fun c_5 => ?_)
      · skip
        refine lv_aload_n hx hb dS_dropAll_21 rfl (lv_at hl 1 rfl) ?_
        refine lv_iconst (v := 0) hx hb dS_dropAll_22 (by decide) ?_
        refine va_put (D := g.1) (ci := 3) (v := .int 0) (ty := .int) (C := "NodeMaker$Walls") (T := Fd_S) (N := 2) hx hb ht i_S ty_S ty_S_ok nm_S hown hK.1 hP hD hS 0 rfl rfl 1 (by decide) (ht _ q_65) (fun _ h9 => h9) rfl (by decide +kernel) rfl rfl (Nat.le_of_ble_eq_true rfl) dS_dropAll_23 (fun H locs hP hD hS => ?_)
        have hP : va_P g.1 vwCl ([(a, .inr (3, [.ref q, .int 0])), (q, .inl (g.2 1, 64, .inr (.inr (.inr (.inr sl)))))] ++ plW LW wv) H := hP
        have hD : va_D A ([(a, .inr (3, [.ref q, .int 0])), (q, .inl (g.2 1, 64, .inr (.inr (.inr (.inr sl)))))] ++ plW LW wv) := hD
        exact W.vret hx hb hr (fun t ht9 hW => ⟨⟨sl, rfl, fun j hj => hs j (by omega), by rw [ht9]; exact hP, hD⟩, hS.F ht9⟩) hS.2.2 dS_dropAll_26
      · skip
        exact absurd (by rw [hi]; exact nI_le (a := 64) (by omega) (by omega)) c_5
    | succ n ih =>
      intro k i sl H locs ls hk hi hs hP hD hS hl
      refine lv_iload_n hx hb dS_dropAll_2 rfl (lv_at hl 0 rfl) ?_
      refine lv_bipush (v := 64) hx hb dS_dropAll_3 (by decide) ?_
      refine lv_icmp_ge (tgt := 21) hx hb dS_dropAll_5 (by decide) (fun c_6 => ?_) (fun c_6 => ?_)
      · skip
        exact absurd c_6 (by rw [hi]; exact nI_ge (b := 64) (by omega) (by omega))
      · skip
        refine lv_aload_n hx hb dS_dropAll_8 rfl (lv_at hl 1 rfl) ?_
        refine va_get (D := g.1) (ci := 3) (v := .ref q) (C := "NodeMaker$Walls") (T := Fd_S) (N := 2) hx hb ht i_S hown hK.1 hP 0 rfl rfl 0 (by decide) (ht _ q_64) (fun _ h9 => h9) rfl dS_dropAll_9 ?_
        refine lv_iload_n hx hb dS_dropAll_12 rfl (lv_at hl 0 rfl) ?_
        refine lv_null hx hb dS_dropAll_13 ?_
        refine va_astqN hx hb hK.1 hP hD hS 1 1 rfl rfl (by rw [hi]; exact vp_in_nI (by omega) (by omega)) dS_dropAll_14 (fun H locs hP hD hS => ?_)
        have hP : va_P g.1 vwCl ([(a, .inr (3, [.ref q, .int cnt])), (q, .inl (g.2 1, 64, .inr (.inr (.inr (.inr (va_up sl i.toNatClampNeg none))))))] ++ plW LW wv) H := hP
        have hD : va_D A ([(a, .inr (3, [.ref q, .int cnt])), (q, .inl (g.2 1, 64, .inr (.inr (.inr (.inr (va_up sl i.toNatClampNeg none))))))] ++ plW LW wv) := hD
        refine lv_iinc (v := i + 1) (lv' := [(1, .int (i + 1)), (0, .ref a)]) hx hb dS_dropAll_15 hl (k := 0) rfl rfl (by decide) rfl (fun ls hl => ?_)
        refine lv_goto (tgt := 2) hx hb dS_dropAll_18 (by decide) ?_
        have hs2 : ∀ j, j < k + 1 → va_up sl i.toNatClampNeg none j = none := lt_s (fun j hj => (va_up_ne _ _ (by rw [hi, nI_clamp (by omega)]; omega)).trans (hs j hj)) (by rw [hi, nI_clamp (by omega)]; exact va_up_self _ _ _)
        exact ih (k + 1) (i + 1) (va_up sl i.toNatClampNeg none) _ _ ls (by omega) (by rw [hi]; exact nI_1 k) hs2 hP hD hS hl
  exact loop 64 0 0 sl _ _ ls (by omega) rfl (fun j hj => absurd hj (Nat.not_lt_zero j)) hP hD hS hl
end
section
/-- the free number that the downward look over the walls finds; none if one clashes -/
def sS_loop (Wl : Nat → Option WV) (v : WV) : Nat → Int32 → Option Int32
  | 0, fr => some fr
  | k + 1, fr => match Wl k with
    | none => sS_loop Wl v k (nI k)
    | some o => if sW_clashes o v = 0 then sS_loop Wl v k fr else none
def sS_add (Wl : Nat → Option WV) (v : WV) : Int32 := (sS_loop Wl v 64 (-1)).getD (-1)
def slAdd (sl : Nat → Option Nat) (r : Int32) (b : Nat) : Nat → Option Nat := if r = -1 then sl else va_up sl r.toNatClampNeg (some b)
theorem slAdd_ok {sl : Nat → Option Nat} {r : Int32} {b : Nat} {LW : List Nat} (h : slOK sl LW) (hb : b ∈ LW) : slOK (slAdd sl r b) LW := by
  unfold slAdd
  split
  · exact h
  · intro j x hx
    unfold va_up at hx
    split at hx
    · cases hx; exact hb
    · exact h j x hx
theorem sS_some {Wl : Nat → Option WV} {v : WV} {k : Nat} {o : WV} {fr : Int32} (h : Wl k = some o) : sS_loop Wl v (k + 1) fr = if sW_clashes o v = 0 then sS_loop Wl v k fr else none := by simp only [sS_loop, h]
theorem sS_none {Wl : Nat → Option WV} {v : WV} {k : Nat} {fr : Int32} (h : Wl k = none) : sS_loop Wl v (k + 1) fr = sS_loop Wl v k (nI k) := by simp only [sS_loop, h]
set_option maxHeartbeats 4000000 in
set_option maxRecDepth 100000 in
theorem cS_add (l : Launch) (g : CX) (sz : Nat) (a q : Nat) (sl : Nat → Option Nat) (cnt : Int32) (LW : List Nat) (wv : Nat → WV) (hsl : slOK sl LW) (b : Nat) (hbL : b ∈ LW) : Met l yS_add (wm yS_add kS_add 5 (some .int)) ({ frames := 3, cells := 0, slots := 0, locals := 68 }) (rw g [.ref a, .ref b] (wsX g a q sl cnt ++ plW LW wv) sz) (va_Qi (fun (r : Int32) (_u : Unit) => r = sS_add (wOf sl wv) (wv b)) (rB g (va_A (wsX g a q sl cnt ++ plW LW wv) sz) (fun _u => (wsX g a q (slAdd sl (sS_add (wOf sl wv) (wv b)) b) (if sS_add (wOf sl wv) (wv b) = -1 then cnt else cnt + 1) ++ plW LW wv))) (va_A (wsX g a q sl cnt ++ plW LW wv) sz)) 0 0 (va_A (wsX g a q sl cnt ++ plW LW wv) sz) := by
  refine Met.ofW (cc := kS_add) (maxL := 5) (ret := (some .int)) (by decide) rfl ?_
  intro p e s m args below meth c s₁ B hml hv
  obtain ⟨rfl, hsz, hK, hP, hD0⟩ := hv
  have hx := B.exec
  have hb := B.bytes
  have hr := B.returns
  have ht : ∀ w ∈ wT, w.before _ s = true := fun w h => atoms_spec (ws := wm yS_add kS_add 5 (some .int)) B.pre w (List.mem_cons_of_mem _ h)
  have hown : s.vm.findClass "NodeMaker$Walls" = some m.cls := findClass_of_methodNamed B.named
  have hlocks := B.notSynchronized
  subst hsz
  have hD := hD0.self (sz := s.heap.size)
  generalize hAe : va_A (wsX g a q sl cnt ++ plW LW wv) s.heap.size = A at hD ⊢
  have hA : ∀ q : Nat, s.heap.size ≤ q → A q := fun q h => by rw [← hAe]; exact Or.inr h
  have hS : va_S A s.heap s.heap [] := va_S.rf
  have hl := lv_entry ([.ref a, .ref b]) (n := 5) (Nat.le_of_ble_eq_true rfl)
  rw [lg_entry_eq]
  generalize (lg_sl ([.ref a, .ref b]) ++ List.replicate (5 - (lg_sl ([.ref a, .ref b])).length) Slot.unset).toArray = ls at hl ⊢
  have hl : lv_has ls 5 [(0, .ref a), (1, .ref b)] := hl
  refine lv_iconst (v := -1) hx hb dS_add_0 (by decide) ?_
  refine lv_istore_n (lv' := [(2, .int (-1)), (0, .ref a), (1, .ref b)]) hx hb dS_add_1 rfl hl (by decide) rfl (fun ls hl => ?_)
  refine lv_bipush (v := 63) hx hb dS_add_2 (by decide) ?_
  refine lv_istore_n (lv' := [(3, .int 63), (2, .int (-1)), (0, .ref a), (1, .ref b)]) hx hb dS_add_4 rfl hl (by decide) rfl (fun ls hl => ?_)
  have loop : ∀ (k : Nat) (fr i : Int32) (ls : Array Slot), k ≤ 64 → i = nI k - 1 → (fr = -1 ∨ ∃ j, j < 64 ∧ fr = nI j) → sS_loop (wOf sl wv) (wv b) k fr = sS_loop (wOf sl wv) (wv b) 64 (-1) → lv_has ls 5 [(3, .int i), (2, .int fr), (0, .ref a), (1, .ref b)] → W p l e (headSpec (wm yS_add kS_add 5 (some .int)) ({ frames := 3, cells := 0, slots := 0, locals := 68 })).room s m ([.ref a, .ref b] : List Value).toArray below meth c s.heap [] (0) (0) (MQ below (va_Qi (fun (r : Int32) (_u : Unit) => r = sS_add (wOf sl wv) (wv b)) (rB g A (fun _u => (wsX g a q (slAdd sl (sS_add (wOf sl wv) (wv b)) b) (if sS_add (wOf sl wv) (wv b) = -1 then cnt else cnt + 1) ++ plW LW wv))) A) ([.ref a, .ref b] : List Value).toArray s 0 0 A) (F0 m 5 ls []) := by
    intro k
    induction k with
    | zero =>
      intro fr i ls hk hi hfr hS1 hl
      refine lv_iload_n hx hb dS_add_5 rfl (lv_at hl 0 rfl) ?_
      refine lv_if_lt (tgt := 44) hx hb dS_add_6 (by decide) (fun c_1 => ?_) (fun c_1 => ?_)
      · skip
        refine lv_iload_n hx hb dS_add_44 rfl (lv_at hl 1 rfl) ?_
        refine lv_iconst (v := -1) hx hb dS_add_45 (by decide) ?_
        refine lv_icmp_eq (tgt := 66) hx hb dS_add_46 (by decide) (fun c_2 => ?_) (fun c_2 => ?_)
        · skip
          refine lv_iload_n hx hb dS_add_66 rfl (lv_at hl 1 rfl) ?_
          have hR : sS_add (wOf sl wv) (wv b) = fr := by rw [sS_add, ← hS1]; rfl
          have hR1 : sS_add (wOf sl wv) (wv b) = -1 := hR.trans c_2
          have hP9 : va_P g.1 vwCl (wsX g a q (slAdd sl (sS_add (wOf sl wv) (wv b)) b) (if sS_add (wOf sl wv) (wv b) = -1 then cnt else cnt + 1) ++ plW LW wv) s.heap := by rw [slAdd, if_pos hR1, if_pos hR1]; exact hP
          have hD9 : va_D A (wsX g a q (slAdd sl (sS_add (wOf sl wv) (wv b)) b) (if sS_add (wOf sl wv) (wv b) = -1 then cnt else cnt + 1) ++ plW LW wv) := by rw [slAdd, if_pos hR1, if_pos hR1]; exact hD
          exact W.iret hx hb hr (fun t ht9 hW => ⟨⟨_, (), rfl, hR.symm, by rw [ht9]; exact hP9, hD9⟩, hS.F ht9⟩) hS.2.2 dS_add_67
        · skip
          obtain ⟨j, hj, hfj⟩ : ∃ j, j < 64 ∧ fr = nI j := by rcases hfr with h | h; exact absurd h c_2; exact h
          have hfi : vp_in fr 64 := by rw [hfj]; exact vp_in_nI hj (by decide)
          obtain ⟨kb, hkb⟩ := va_pl_get (X := wsX g a q sl cnt) (f := fun x => wE (wv x)) hbL
          refine lv_aload_n hx hb dS_add_49 rfl (lv_at hl 2 rfl) ?_
          refine va_get (D := g.1) (ci := 3) (v := .ref q) (C := "NodeMaker$Walls") (T := Fd_S) (N := 2) hx hb ht i_S hown hK.1 hP 0 rfl rfl 0 (by decide) (ht _ q_64) (fun _ h9 => h9) rfl dS_add_50 ?_
          refine lv_iload_n hx hb dS_add_53 rfl (lv_at hl 1 rfl) ?_
          refine lv_aload_n hx hb dS_add_54 rfl (lv_at hl 3 rfl) ?_
          refine va_astq hx hb hK.1 hP hD hS 1 1 kb 2 (r := ("NodeMaker$Wall", Fd_W, 4)) rfl rfl hkb rfl (hfi) dS_add_55 (fun H locs hP hD hS => ?_)
          have hP : va_P g.1 vwCl ([(a, .inr (3, [.ref q, .int cnt])), (q, .inl (g.2 1, 64, .inr (.inr (.inr (.inr (va_up sl fr.toNatClampNeg (some b)))))))] ++ plW LW wv) H := hP
          have hD : va_D A ([(a, .inr (3, [.ref q, .int cnt])), (q, .inl (g.2 1, 64, .inr (.inr (.inr (.inr (va_up sl fr.toNatClampNeg (some b)))))))] ++ plW LW wv) := hD
          refine lv_aload_n hx hb dS_add_56 rfl (lv_at hl 2 rfl) ?_
          refine lv_dup hx hb dS_add_57 rfl ?_
          refine va_get (D := g.1) (ci := 3) (v := .int cnt) (C := "NodeMaker$Walls") (T := Fd_S) (N := 2) hx hb ht i_S hown hK.1 hP 0 rfl rfl 1 (by decide) (ht _ q_65) (fun _ h9 => h9) rfl dS_add_58 ?_
          refine lv_iconst (v := 1) hx hb dS_add_61 (by decide) ?_
          refine lv_iadd hx hb dS_add_62 ?_
          refine va_put (D := g.1) (ci := 3) (v := .int (cnt + 1)) (ty := .int) (C := "NodeMaker$Walls") (T := Fd_S) (N := 2) hx hb ht i_S ty_S ty_S_ok nm_S hown hK.1 hP hD hS 0 rfl rfl 1 (by decide) (ht _ q_65) (fun _ h9 => h9) rfl (by decide +kernel) rfl rfl (Nat.le_of_ble_eq_true rfl) dS_add_63 (fun H locs hP hD hS => ?_)
          have hP : va_P g.1 vwCl ([(a, .inr (3, [.ref q, .int (cnt + 1)])), (q, .inl (g.2 1, 64, .inr (.inr (.inr (.inr (va_up sl fr.toNatClampNeg (some b)))))))] ++ plW LW wv) H := hP
          have hD : va_D A ([(a, .inr (3, [.ref q, .int (cnt + 1)])), (q, .inl (g.2 1, 64, .inr (.inr (.inr (.inr (va_up sl fr.toNatClampNeg (some b)))))))] ++ plW LW wv) := hD
          refine lv_iload_n hx hb dS_add_66 rfl (lv_at hl 1 rfl) ?_
          have hR : sS_add (wOf sl wv) (wv b) = fr := by rw [sS_add, ← hS1]; rfl
          have hR1 : ¬ sS_add (wOf sl wv) (wv b) = -1 := by rw [hR]; exact c_2
          have hP9 : va_P g.1 vwCl (wsX g a q (slAdd sl (sS_add (wOf sl wv) (wv b)) b) (if sS_add (wOf sl wv) (wv b) = -1 then cnt else cnt + 1) ++ plW LW wv) H := by rw [slAdd, if_neg hR1, if_neg hR1, hR]; exact hP
          have hD9 : va_D A (wsX g a q (slAdd sl (sS_add (wOf sl wv) (wv b)) b) (if sS_add (wOf sl wv) (wv b) = -1 then cnt else cnt + 1) ++ plW LW wv) := by rw [slAdd, if_neg hR1, if_neg hR1, hR]; exact hD
          exact W.iret hx hb hr (fun t ht9 hW => ⟨⟨_, (), rfl, hR.symm, by rw [ht9]; exact hP9, hD9⟩, hS.F ht9⟩) hS.2.2 dS_add_67
      · skip
        exact absurd (by rw [hi]; decide) c_1
    | succ k ih =>
      intro fr i ls hk hi hfr hS1 hl
      have hik : i = nI k := hi.trans (nI_pred k)
      refine lv_iload_n hx hb dS_add_5 rfl (lv_at hl 0 rfl) ?_
      refine lv_if_lt (tgt := 44) hx hb dS_add_6 (by decide) (fun c_3 => ?_) (fun c_3 => ?_)
      · skip
        exact absurd c_3 (by rw [hik]; exact nI_pos (by omega))
      · skip
        refine lv_aload_n hx hb dS_add_9 rfl (lv_at hl 2 rfl) ?_
        refine va_get (D := g.1) (ci := 3) (v := .ref q) (C := "NodeMaker$Walls") (T := Fd_S) (N := 2) hx hb ht i_S hown hK.1 hP 0 rfl rfl 0 (by decide) (ht _ q_64) (fun _ h9 => h9) rfl dS_add_10 ?_
        refine lv_iload_n hx hb dS_add_13 rfl (lv_at hl 0 rfl) ?_
        refine va_aldq hx hb hK.1 hP 1 1 rfl rfl (by rw [hik]; exact vp_in_nI (by omega) (by decide)) dS_add_14 ?_
        rcases ho : sl i.toNatClampNeg with _ | x
        · skip
          refine W.eq (g2 := F0 m 15 ls [.null]) rfl ?_
          have hox : wOf sl wv k = none := by show (sl k).map wv = none; rw [hik, nI_clamp (by omega)] at ho; rw [ho]; rfl
          refine lv_astoreN (lv' := [(4, .null), (3, .int i), (2, .int fr), (0, .ref a), (1, .ref b)]) hx hb dS_add_15 hl (by decide) rfl (fun ls hl => ?_)
          refine lv_aloadN hx hb dS_add_17 (lv_at hl 0 rfl) ?_
          refine lv_ifnonnullN hx hb dS_add_19 ?_
          refine lv_iload_n hx hb dS_add_22 rfl (lv_at hl 1 rfl) ?_
          refine lv_istore_n (lv' := [(2, .int i), (4, .null), (3, .int i), (0, .ref a), (1, .ref b)]) hx hb dS_add_23 rfl hl (by decide) rfl (fun ls hl => ?_)
          refine lv_goto (tgt := 38) hx hb dS_add_24 (by decide) ?_
          refine lv_iinc (v := i + (-1)) (lv' := [(3, .int (i + (-1))), (2, .int i), (4, .null), (0, .ref a), (1, .ref b)]) hx hb dS_add_38 hl (k := 2) rfl rfl (by decide) rfl (fun ls hl => ?_)
          refine lv_goto (tgt := 5) hx hb dS_add_41 (by decide) ?_
          exact ih i (i + (-1)) ls (by omega) (by rw [hik]; exact (Int32.sub_eq_add_neg _ _).symm) (Or.inr ⟨k, by omega, hik⟩) (by rw [← hS1, sS_none hox, hik]) (lv_sub hl [0, 1, 3, 4] rfl)
        · skip
          refine W.eq (g2 := F0 m 15 ls [.ref x]) rfl ?_
          have hox : wOf sl wv k = some (wv x) := by show (sl k).map wv = some (wv x); rw [hik, nI_clamp (by omega)] at ho; rw [ho]; rfl
          refine lv_astore (lv' := [(4, .ref x), (3, .int i), (2, .int fr), (0, .ref a), (1, .ref b)]) hx hb dS_add_15 hl (by decide) rfl (fun ls hl => ?_)
          refine lv_aload hx hb dS_add_17 (lv_at hl 0 rfl) ?_
          refine lv_ifnonnull (tgt := 27) hx hb dS_add_19 (by decide) ?_
          refine lv_aload hx hb dS_add_27 (lv_at hl 0 rfl) ?_
          refine lv_aload_n hx hb dS_add_29 rfl (lv_at hl 4 rfl) ?_
          have hPc := pl_two hP (hsl _ x ho) hbL
          refine ro_Vi (v := sW_clashes (wv x) (wv b)) (As := [.ref b]) (rest := []) ⟨hx, hb, hml, hown, ht⟩ (cW_clashes l g x (wv x) b (wv b)) (cwV 1 ht (g_V q_198 q_199 q_200 q_38 q_201) rfl rfl rfl hd_W_clashes ⟨Nat.le_of_ble_eq_true rfl, Nat.le_of_ble_eq_true rfl⟩) hK (hPc) (va_recv hK.1 hPc (ci := 2) (q0 := 0) rfl rfl) rfl hl.1 rfl (Nat.le_of_ble_eq_true rfl) dS_add_30 ⟨by show 0 ≤ 0; omega, by show 0 ≤ 0; omega⟩ ?_
          refine lv_if_eq (tgt := 38) hx hb dS_add_33 (by decide) (fun c_4 => ?_) (fun c_4 => ?_)
          · skip
            have hcl := c_4
            refine lv_iinc (v := i + (-1)) (lv' := [(3, .int (i + (-1))), (4, .ref x), (2, .int fr), (0, .ref a), (1, .ref b)]) hx hb dS_add_38 hl (k := 1) rfl rfl (by decide) rfl (fun ls hl => ?_)
            refine lv_goto (tgt := 5) hx hb dS_add_41 (by decide) ?_
            exact ih fr (i + (-1)) ls (by omega) (by rw [hik]; exact (Int32.sub_eq_add_neg _ _).symm) (hfr) (by rw [← hS1, sS_some hox, if_pos hcl]) (lv_sub hl [0, 2, 3, 4] rfl)
          · skip
            refine lv_iconst (v := -1) hx hb dS_add_36 (by decide) ?_
            have hR : sS_add (wOf sl wv) (wv b) = -1 := by rw [sS_add, ← hS1, sS_some hox, if_neg c_4]; rfl
            have hR1 := hR
            have hP9 : va_P g.1 vwCl (wsX g a q (slAdd sl (sS_add (wOf sl wv) (wv b)) b) (if sS_add (wOf sl wv) (wv b) = -1 then cnt else cnt + 1) ++ plW LW wv) s.heap := by rw [slAdd, if_pos hR1, if_pos hR1]; exact hP
            have hD9 : va_D A (wsX g a q (slAdd sl (sS_add (wOf sl wv) (wv b)) b) (if sS_add (wOf sl wv) (wv b) = -1 then cnt else cnt + 1) ++ plW LW wv) := by rw [slAdd, if_pos hR1, if_pos hR1]; exact hD
            exact W.iret hx hb hr (fun t ht9 hW => ⟨⟨_, (), rfl, hR.symm, by rw [ht9]; exact hP9, hD9⟩, hS.F ht9⟩) hS.2.2 dS_add_37
  exact loop 64 (-1) 63 ls (by omega) rfl (Or.inl rfl) rfl (lv_sub hl [0, 1, 2, 3] rfl)
end
section
/-- the tree's cells: the tree, the walls and their slots, three lists of pieces, sixteen rows (0 lines, 1 lefts, 2 rights, 3 sizes, 4 depths, 5 firstPieces, 6 .. 8 pieces, 9 homes, 10 .. 12 waiting, 13 .. 15 leftList) -/
abbrev treeX (g : CX) (ad q cp : Nat → Nat) (f : Nat → Nat → Int32) (Rw : Nat → List Int32) (sl : Nat → Option Nat) (cnt h st : Int32) : va_W := [(ad 0, .inr (4, [.ref (ad 1), .ref (ad 6), .ref (ad 7), .ref (ad 8), .ref (ad 9), .ref (ad 10), .ref (ad 11), .ref (ad 3), .ref (ad 15), .ref (ad 4), .ref (ad 5), .int h, .int st])), (ad 1, .inr (3, [.ref (ad 2), .int cnt])), (ad 2, .inl (g.2 1, 64, .inr (.inr (.inr (.inr sl))))), (ad 3, .inr (1, [.ref (ad 12), .ref (ad 13), .ref (ad 14)])), (ad 4, .inr (1, [.ref (ad 16), .ref (ad 17), .ref (ad 18)])), (ad 5, .inr (1, [.ref (ad 19), .ref (ad 20), .ref (ad 21)])), (ad 6, .inr (0, [.ref (q 0), .int (nI (Rw 0).length)])), (q 0, .inl (g.2 0, cp 0, .inl (f 0))), (ad 7, .inr (0, [.ref (q 1), .int (nI (Rw 1).length)])), (q 1, .inl (g.2 0, cp 1, .inl (f 1))), (ad 8, .inr (0, [.ref (q 2), .int (nI (Rw 2).length)])), (q 2, .inl (g.2 0, cp 2, .inl (f 2))), (ad 9, .inr (0, [.ref (q 3), .int (nI (Rw 3).length)])), (q 3, .inl (g.2 0, cp 3, .inl (f 3))), (ad 10, .inr (0, [.ref (q 4), .int (nI (Rw 4).length)])), (q 4, .inl (g.2 0, cp 4, .inl (f 4))), (ad 11, .inr (0, [.ref (q 5), .int (nI (Rw 5).length)])), (q 5, .inl (g.2 0, cp 5, .inl (f 5))), (ad 12, .inr (0, [.ref (q 6), .int (nI (Rw 6).length)])), (q 6, .inl (g.2 0, cp 6, .inl (f 6))), (ad 13, .inr (0, [.ref (q 7), .int (nI (Rw 7).length)])), (q 7, .inl (g.2 0, cp 7, .inl (f 7))), (ad 14, .inr (0, [.ref (q 8), .int (nI (Rw 8).length)])), (q 8, .inl (g.2 0, cp 8, .inl (f 8))), (ad 15, .inr (0, [.ref (q 9), .int (nI (Rw 9).length)])), (q 9, .inl (g.2 0, cp 9, .inl (f 9))), (ad 16, .inr (0, [.ref (q 10), .int (nI (Rw 10).length)])), (q 10, .inl (g.2 0, cp 10, .inl (f 10))), (ad 17, .inr (0, [.ref (q 11), .int (nI (Rw 11).length)])), (q 11, .inl (g.2 0, cp 11, .inl (f 11))), (ad 18, .inr (0, [.ref (q 12), .int (nI (Rw 12).length)])), (q 12, .inl (g.2 0, cp 12, .inl (f 12))), (ad 19, .inr (0, [.ref (q 13), .int (nI (Rw 13).length)])), (q 13, .inl (g.2 0, cp 13, .inl (f 13))), (ad 20, .inr (0, [.ref (q 14), .int (nI (Rw 14).length)])), (q 14, .inl (g.2 0, cp 14, .inl (f 14))), (ad 21, .inr (0, [.ref (q 15), .int (nI (Rw 15).length)])), (q 15, .inl (g.2 0, cp 15, .inl (f 15)))]
/-- with the walls' objects -/
abbrev TW (g : CX) (ad q cp : Nat → Nat) (f : Nat → Nat → Int32) (Rw : Nat → List Int32) (sl : Nat → Option Nat) (cnt h st : Int32) (LW : List Nat) (wv : Nat → WV) : va_W := treeX g ad q cp f Rw sl cnt h st ++ plW LW wv
def rowsT (cp : Nat → Nat) (f : Nat → Nat → Int32) (Rw : Nat → List Int32) : Prop := ∀ k, k < 16 → rowR (cp k) (f k) (Rw k)
theorem rows_up {cp : Nat → Nat} {f : Nat → Nat → Int32} {Rw : Nat → List Int32} (K : Nat) {c : Nat} {f1 : Nat → Int32} {L : List Int32} (h : rowsT cp f Rw) (h1 : rowR c f1 L) : rowsT (va_up cp K c) (va_up f K f1) (va_up Rw K L) := by
  intro k hk
  by_cases e : k = K
  · subst e; rw [va_up_self, va_up_self, va_up_self]; exact h1
  · rw [va_up_ne _ _ e, va_up_ne _ _ e, va_up_ne _ _ e]; exact h k hk
theorem rows_upL {cp : Nat → Nat} {f : Nat → Nat → Int32} {Rw : Nat → List Int32} (K : Nat) {f1 : Nat → Int32} {L : List Int32} (h : rowsT cp f Rw) (h1 : rowR (cp K) f1 L) : rowsT cp (va_up f K f1) (va_up Rw K L) := by
  intro k hk
  by_cases e : k = K
  · subst e; rw [va_up_self, va_up_self]; exact h1
  · rw [va_up_ne _ _ e, va_up_ne _ _ e]; exact h k hk
theorem rows_upR {cp : Nat → Nat} {f : Nat → Nat → Int32} {Rw : Nat → List Int32} (K : Nat) {L : List Int32} (h : rowsT cp f Rw) (h1 : rowR (cp K) (f K) L) : rowsT cp f (va_up Rw K L) := by
  intro k hk
  by_cases e : k = K
  · subst e; rw [va_up_self]; exact h1
  · rw [va_up_ne _ _ e]; exact h k hk
theorem rows_3 {cp : Nat → Nat} {f : Nat → Nat → Int32} {Rw : Nat → List Int32} (K : Nat) (hK : K + 3 ≤ 16) (h : rowsT cp f Rw) : rows3 (fun k => cp (K + k)) (fun k => f (K + k)) (fun k => Rw (K + k)) := fun k hk => h (K + k) (by omega)
section TR
variable {p : Program} {l : Launch} {e : Env} {R : Room} {s : State} {m : MethodId} {args : Array Value} {below : List Frame} {meth : Method} {c : Code} {H : Heap} {locs : List Loc} {cells slots : Nat} {Q : State → Prop}
variable {cc : ByteArray} {pc nL index : Nat} {ls : Array Slot} {rest : List Value} {g : CX} {A0 : Nat → Prop} {H0 : Heap} {ad q cp : Nat → Nat} {f : Nat → Nat → Int32} {Rw : Nat → List Int32} {sl : Nat → Option Nat} {cnt h st : Int32} {LW : List Nat} {wv : Nat → WV}
set_option maxHeartbeats 4000000 in
set_option maxRecDepth 100000 in
theorem tr_add_0 {v : Int32} (S : CallFix p m c cc nL s args wT "NodeMaker$Tree") (hl1 : Cond.methodLink "NodeMaker$Tree" index yR_add ∈ wT) (hR : 2 + 1 ≤ R.frames ∧ 8 + (2 + 11) + 82 ≤ R.locals) (hK : KK g s) (hz : rowsT cp f Rw) (hP : va_P g.1 vwCl (TW g ad q cp f Rw sl cnt h st LW wv) H) (hD : va_D A0 (TW g ad q cp f Rw sl cnt h st LW wv)) (hS : va_S A0 H0 H locs) (hA : ∀ q, H0.size ≤ q → A0 q)
    (hsz : ls.size = nL) (hrm : (rest.map fun v => v.category).sum ≤ 8) (hdg : decode cc pc = .ok (.invokevirtual index, 3)) (hf : cells + aUse (cp 0) (Rw 0) ≤ R.cells ∧ slots + aUse (cp 0) (Rw 0) ≤ R.slots)
    (kk : ∀ (q1 : Nat → Nat) (f1 : Nat → Nat → Int32) (H1 : Heap) (locs1 : List Loc), rowsT (va_up cp 0 (aCap (cp 0) (Rw 0))) f1 (va_up Rw 0 (rAdd (Rw 0) v)) → va_P g.1 vwCl (TW g ad q1 (va_up cp 0 (aCap (cp 0) (Rw 0))) f1 (va_up Rw 0 (rAdd (Rw 0) v)) sl cnt h st LW wv) H1 → va_D A0 (TW g ad q1 (va_up cp 0 (aCap (cp 0) (Rw 0))) f1 (va_up Rw 0 (rAdd (Rw 0) v)) sl cnt h st LW wv) → va_S A0 H0 H1 locs1 → W p l e R s m args below meth c H1 locs1 (cells + aUse (cp 0) (Rw 0)) (slots + aUse (cp 0) (Rw 0)) Q (F0 m (pc + 3) ls rest)) :
    W p l e R s m args below meth c H locs cells slots Q (F0 m pc ls (.int v :: .ref (ad 6) :: rest)) := by
  have hPc : va_P g.1 vwCl (rowW g (ad 6) (q 0) (cp 0) (f 0) (Rw 0).length) H := hP.sub [6, 7] rfl
  have hDc : va_D A0 (rowW g (ad 6) (q 0) (cp 0) (f 0) (Rw 0).length) := hD.sub [6, 7] (by decide) rfl
  refine rw_vQ (X := treeX g ad q cp f Rw sl cnt h st) (pl := plW LW wv) (wr := ([0, 1, 2, 3, 4, 5, 8, 9, 10, 11, 12, 13, 14, 15, 16, 17, 18, 19, 20, 21, 22, 23, 24, 25, 26, 27, 28, 29, 30, 31, 32, 33, 34, 35, 36, 37] : List Nat).filterMap (fun i => (treeX g ad q cp f Rw sl cnt h st)[i]?)) (va_runV (As := [.int v]) (rest := rest) S (cR_add l g H.size (ad 6) (q 0) (cp 0) (f 0) (Rw 0) (hz 0 (by decide)) v) (cwV 1 S.2.2.2.2 (g_V hl1 q_279 q_280 q_35 q_281) rfl rfl rfl hd_R_add hR) (rw_V hK hPc hDc (va_recv hK.1 hPc (ci := 0) (q0 := 0) rfl rfl)) rfl rfl hsz rfl (lv_room hrm) hdg hf) hP hD hS hA [6, 7] [0, 1, 2, 3, 4, 5, 8, 9, 10, 11, 12, 13, 14, 15, 16, 17, 18, 19, 20, 21, 22, 23, 24, 25, 26, 27, 28, 29, 30, 31, 32, 33, 34, 35, 36, 37] rfl rfl rfl (by decide) (by decide) (fun u H1 locs1 hw hP1 hD1 hS1 => ?_)
  exact kk ((va_up q 0 u.1)) ((va_up f 0 u.2)) H1 locs1 (rows_up 0 hz hw) (pl_P (cx := treeX g ad (va_up q 0 u.1) (va_up cp 0 (aCap (cp 0) (Rw 0))) (va_up f 0 u.2) (va_up Rw 0 (rAdd (Rw 0) v)) sl cnt h st) hP1 [0, 1, 2, 3, 4, 5, 36, 37, 6, 7, 8, 9, 10, 11, 12, 13, 14, 15, 16, 17, 18, 19, 20, 21, 22, 23, 24, 25, 26, 27, 28, 29, 30, 31, 32, 33, 34, 35] rfl) (pl_D (cx := treeX g ad (va_up q 0 u.1) (va_up cp 0 (aCap (cp 0) (Rw 0))) (va_up f 0 u.2) (va_up Rw 0 (rAdd (Rw 0) v)) sl cnt h st) hD1 [0, 1, 2, 3, 4, 5, 36, 37, 6, 7, 8, 9, 10, 11, 12, 13, 14, 15, 16, 17, 18, 19, 20, 21, 22, 23, 24, 25, 26, 27, 28, 29, 30, 31, 32, 33, 34, 35] (by decide) rfl) hS1
set_option maxHeartbeats 4000000 in
set_option maxRecDepth 100000 in
theorem tr_add_1 {v : Int32} (S : CallFix p m c cc nL s args wT "NodeMaker$Tree") (hl1 : Cond.methodLink "NodeMaker$Tree" index yR_add ∈ wT) (hR : 2 + 1 ≤ R.frames ∧ 8 + (2 + 11) + 82 ≤ R.locals) (hK : KK g s) (hz : rowsT cp f Rw) (hP : va_P g.1 vwCl (TW g ad q cp f Rw sl cnt h st LW wv) H) (hD : va_D A0 (TW g ad q cp f Rw sl cnt h st LW wv)) (hS : va_S A0 H0 H locs) (hA : ∀ q, H0.size ≤ q → A0 q)
    (hsz : ls.size = nL) (hrm : (rest.map fun v => v.category).sum ≤ 8) (hdg : decode cc pc = .ok (.invokevirtual index, 3)) (hf : cells + aUse (cp 1) (Rw 1) ≤ R.cells ∧ slots + aUse (cp 1) (Rw 1) ≤ R.slots)
    (kk : ∀ (q1 : Nat → Nat) (f1 : Nat → Nat → Int32) (H1 : Heap) (locs1 : List Loc), rowsT (va_up cp 1 (aCap (cp 1) (Rw 1))) f1 (va_up Rw 1 (rAdd (Rw 1) v)) → va_P g.1 vwCl (TW g ad q1 (va_up cp 1 (aCap (cp 1) (Rw 1))) f1 (va_up Rw 1 (rAdd (Rw 1) v)) sl cnt h st LW wv) H1 → va_D A0 (TW g ad q1 (va_up cp 1 (aCap (cp 1) (Rw 1))) f1 (va_up Rw 1 (rAdd (Rw 1) v)) sl cnt h st LW wv) → va_S A0 H0 H1 locs1 → W p l e R s m args below meth c H1 locs1 (cells + aUse (cp 1) (Rw 1)) (slots + aUse (cp 1) (Rw 1)) Q (F0 m (pc + 3) ls rest)) :
    W p l e R s m args below meth c H locs cells slots Q (F0 m pc ls (.int v :: .ref (ad 7) :: rest)) := by
  have hPc : va_P g.1 vwCl (rowW g (ad 7) (q 1) (cp 1) (f 1) (Rw 1).length) H := hP.sub [8, 9] rfl
  have hDc : va_D A0 (rowW g (ad 7) (q 1) (cp 1) (f 1) (Rw 1).length) := hD.sub [8, 9] (by decide) rfl
  refine rw_vQ (X := treeX g ad q cp f Rw sl cnt h st) (pl := plW LW wv) (wr := ([0, 1, 2, 3, 4, 5, 6, 7, 10, 11, 12, 13, 14, 15, 16, 17, 18, 19, 20, 21, 22, 23, 24, 25, 26, 27, 28, 29, 30, 31, 32, 33, 34, 35, 36, 37] : List Nat).filterMap (fun i => (treeX g ad q cp f Rw sl cnt h st)[i]?)) (va_runV (As := [.int v]) (rest := rest) S (cR_add l g H.size (ad 7) (q 1) (cp 1) (f 1) (Rw 1) (hz 1 (by decide)) v) (cwV 1 S.2.2.2.2 (g_V hl1 q_279 q_280 q_35 q_281) rfl rfl rfl hd_R_add hR) (rw_V hK hPc hDc (va_recv hK.1 hPc (ci := 0) (q0 := 0) rfl rfl)) rfl rfl hsz rfl (lv_room hrm) hdg hf) hP hD hS hA [8, 9] [0, 1, 2, 3, 4, 5, 6, 7, 10, 11, 12, 13, 14, 15, 16, 17, 18, 19, 20, 21, 22, 23, 24, 25, 26, 27, 28, 29, 30, 31, 32, 33, 34, 35, 36, 37] rfl rfl rfl (by decide) (by decide) (fun u H1 locs1 hw hP1 hD1 hS1 => ?_)
  exact kk ((va_up q 1 u.1)) ((va_up f 1 u.2)) H1 locs1 (rows_up 1 hz hw) (pl_P (cx := treeX g ad (va_up q 1 u.1) (va_up cp 1 (aCap (cp 1) (Rw 1))) (va_up f 1 u.2) (va_up Rw 1 (rAdd (Rw 1) v)) sl cnt h st) hP1 [0, 1, 2, 3, 4, 5, 6, 7, 36, 37, 8, 9, 10, 11, 12, 13, 14, 15, 16, 17, 18, 19, 20, 21, 22, 23, 24, 25, 26, 27, 28, 29, 30, 31, 32, 33, 34, 35] rfl) (pl_D (cx := treeX g ad (va_up q 1 u.1) (va_up cp 1 (aCap (cp 1) (Rw 1))) (va_up f 1 u.2) (va_up Rw 1 (rAdd (Rw 1) v)) sl cnt h st) hD1 [0, 1, 2, 3, 4, 5, 6, 7, 36, 37, 8, 9, 10, 11, 12, 13, 14, 15, 16, 17, 18, 19, 20, 21, 22, 23, 24, 25, 26, 27, 28, 29, 30, 31, 32, 33, 34, 35] (by decide) rfl) hS1
set_option maxHeartbeats 4000000 in
set_option maxRecDepth 100000 in
theorem tr_add_2 {v : Int32} (S : CallFix p m c cc nL s args wT "NodeMaker$Tree") (hl1 : Cond.methodLink "NodeMaker$Tree" index yR_add ∈ wT) (hR : 2 + 1 ≤ R.frames ∧ 8 + (2 + 11) + 82 ≤ R.locals) (hK : KK g s) (hz : rowsT cp f Rw) (hP : va_P g.1 vwCl (TW g ad q cp f Rw sl cnt h st LW wv) H) (hD : va_D A0 (TW g ad q cp f Rw sl cnt h st LW wv)) (hS : va_S A0 H0 H locs) (hA : ∀ q, H0.size ≤ q → A0 q)
    (hsz : ls.size = nL) (hrm : (rest.map fun v => v.category).sum ≤ 8) (hdg : decode cc pc = .ok (.invokevirtual index, 3)) (hf : cells + aUse (cp 2) (Rw 2) ≤ R.cells ∧ slots + aUse (cp 2) (Rw 2) ≤ R.slots)
    (kk : ∀ (q1 : Nat → Nat) (f1 : Nat → Nat → Int32) (H1 : Heap) (locs1 : List Loc), rowsT (va_up cp 2 (aCap (cp 2) (Rw 2))) f1 (va_up Rw 2 (rAdd (Rw 2) v)) → va_P g.1 vwCl (TW g ad q1 (va_up cp 2 (aCap (cp 2) (Rw 2))) f1 (va_up Rw 2 (rAdd (Rw 2) v)) sl cnt h st LW wv) H1 → va_D A0 (TW g ad q1 (va_up cp 2 (aCap (cp 2) (Rw 2))) f1 (va_up Rw 2 (rAdd (Rw 2) v)) sl cnt h st LW wv) → va_S A0 H0 H1 locs1 → W p l e R s m args below meth c H1 locs1 (cells + aUse (cp 2) (Rw 2)) (slots + aUse (cp 2) (Rw 2)) Q (F0 m (pc + 3) ls rest)) :
    W p l e R s m args below meth c H locs cells slots Q (F0 m pc ls (.int v :: .ref (ad 8) :: rest)) := by
  have hPc : va_P g.1 vwCl (rowW g (ad 8) (q 2) (cp 2) (f 2) (Rw 2).length) H := hP.sub [10, 11] rfl
  have hDc : va_D A0 (rowW g (ad 8) (q 2) (cp 2) (f 2) (Rw 2).length) := hD.sub [10, 11] (by decide) rfl
  refine rw_vQ (X := treeX g ad q cp f Rw sl cnt h st) (pl := plW LW wv) (wr := ([0, 1, 2, 3, 4, 5, 6, 7, 8, 9, 12, 13, 14, 15, 16, 17, 18, 19, 20, 21, 22, 23, 24, 25, 26, 27, 28, 29, 30, 31, 32, 33, 34, 35, 36, 37] : List Nat).filterMap (fun i => (treeX g ad q cp f Rw sl cnt h st)[i]?)) (va_runV (As := [.int v]) (rest := rest) S (cR_add l g H.size (ad 8) (q 2) (cp 2) (f 2) (Rw 2) (hz 2 (by decide)) v) (cwV 1 S.2.2.2.2 (g_V hl1 q_279 q_280 q_35 q_281) rfl rfl rfl hd_R_add hR) (rw_V hK hPc hDc (va_recv hK.1 hPc (ci := 0) (q0 := 0) rfl rfl)) rfl rfl hsz rfl (lv_room hrm) hdg hf) hP hD hS hA [10, 11] [0, 1, 2, 3, 4, 5, 6, 7, 8, 9, 12, 13, 14, 15, 16, 17, 18, 19, 20, 21, 22, 23, 24, 25, 26, 27, 28, 29, 30, 31, 32, 33, 34, 35, 36, 37] rfl rfl rfl (by decide) (by decide) (fun u H1 locs1 hw hP1 hD1 hS1 => ?_)
  exact kk ((va_up q 2 u.1)) ((va_up f 2 u.2)) H1 locs1 (rows_up 2 hz hw) (pl_P (cx := treeX g ad (va_up q 2 u.1) (va_up cp 2 (aCap (cp 2) (Rw 2))) (va_up f 2 u.2) (va_up Rw 2 (rAdd (Rw 2) v)) sl cnt h st) hP1 [0, 1, 2, 3, 4, 5, 6, 7, 8, 9, 36, 37, 10, 11, 12, 13, 14, 15, 16, 17, 18, 19, 20, 21, 22, 23, 24, 25, 26, 27, 28, 29, 30, 31, 32, 33, 34, 35] rfl) (pl_D (cx := treeX g ad (va_up q 2 u.1) (va_up cp 2 (aCap (cp 2) (Rw 2))) (va_up f 2 u.2) (va_up Rw 2 (rAdd (Rw 2) v)) sl cnt h st) hD1 [0, 1, 2, 3, 4, 5, 6, 7, 8, 9, 36, 37, 10, 11, 12, 13, 14, 15, 16, 17, 18, 19, 20, 21, 22, 23, 24, 25, 26, 27, 28, 29, 30, 31, 32, 33, 34, 35] (by decide) rfl) hS1
set_option maxHeartbeats 4000000 in
set_option maxRecDepth 100000 in
theorem tr_add_3 {v : Int32} (S : CallFix p m c cc nL s args wT "NodeMaker$Tree") (hl1 : Cond.methodLink "NodeMaker$Tree" index yR_add ∈ wT) (hR : 2 + 1 ≤ R.frames ∧ 8 + (2 + 11) + 82 ≤ R.locals) (hK : KK g s) (hz : rowsT cp f Rw) (hP : va_P g.1 vwCl (TW g ad q cp f Rw sl cnt h st LW wv) H) (hD : va_D A0 (TW g ad q cp f Rw sl cnt h st LW wv)) (hS : va_S A0 H0 H locs) (hA : ∀ q, H0.size ≤ q → A0 q)
    (hsz : ls.size = nL) (hrm : (rest.map fun v => v.category).sum ≤ 8) (hdg : decode cc pc = .ok (.invokevirtual index, 3)) (hf : cells + aUse (cp 3) (Rw 3) ≤ R.cells ∧ slots + aUse (cp 3) (Rw 3) ≤ R.slots)
    (kk : ∀ (q1 : Nat → Nat) (f1 : Nat → Nat → Int32) (H1 : Heap) (locs1 : List Loc), rowsT (va_up cp 3 (aCap (cp 3) (Rw 3))) f1 (va_up Rw 3 (rAdd (Rw 3) v)) → va_P g.1 vwCl (TW g ad q1 (va_up cp 3 (aCap (cp 3) (Rw 3))) f1 (va_up Rw 3 (rAdd (Rw 3) v)) sl cnt h st LW wv) H1 → va_D A0 (TW g ad q1 (va_up cp 3 (aCap (cp 3) (Rw 3))) f1 (va_up Rw 3 (rAdd (Rw 3) v)) sl cnt h st LW wv) → va_S A0 H0 H1 locs1 → W p l e R s m args below meth c H1 locs1 (cells + aUse (cp 3) (Rw 3)) (slots + aUse (cp 3) (Rw 3)) Q (F0 m (pc + 3) ls rest)) :
    W p l e R s m args below meth c H locs cells slots Q (F0 m pc ls (.int v :: .ref (ad 9) :: rest)) := by
  have hPc : va_P g.1 vwCl (rowW g (ad 9) (q 3) (cp 3) (f 3) (Rw 3).length) H := hP.sub [12, 13] rfl
  have hDc : va_D A0 (rowW g (ad 9) (q 3) (cp 3) (f 3) (Rw 3).length) := hD.sub [12, 13] (by decide) rfl
  refine rw_vQ (X := treeX g ad q cp f Rw sl cnt h st) (pl := plW LW wv) (wr := ([0, 1, 2, 3, 4, 5, 6, 7, 8, 9, 10, 11, 14, 15, 16, 17, 18, 19, 20, 21, 22, 23, 24, 25, 26, 27, 28, 29, 30, 31, 32, 33, 34, 35, 36, 37] : List Nat).filterMap (fun i => (treeX g ad q cp f Rw sl cnt h st)[i]?)) (va_runV (As := [.int v]) (rest := rest) S (cR_add l g H.size (ad 9) (q 3) (cp 3) (f 3) (Rw 3) (hz 3 (by decide)) v) (cwV 1 S.2.2.2.2 (g_V hl1 q_279 q_280 q_35 q_281) rfl rfl rfl hd_R_add hR) (rw_V hK hPc hDc (va_recv hK.1 hPc (ci := 0) (q0 := 0) rfl rfl)) rfl rfl hsz rfl (lv_room hrm) hdg hf) hP hD hS hA [12, 13] [0, 1, 2, 3, 4, 5, 6, 7, 8, 9, 10, 11, 14, 15, 16, 17, 18, 19, 20, 21, 22, 23, 24, 25, 26, 27, 28, 29, 30, 31, 32, 33, 34, 35, 36, 37] rfl rfl rfl (by decide) (by decide) (fun u H1 locs1 hw hP1 hD1 hS1 => ?_)
  exact kk ((va_up q 3 u.1)) ((va_up f 3 u.2)) H1 locs1 (rows_up 3 hz hw) (pl_P (cx := treeX g ad (va_up q 3 u.1) (va_up cp 3 (aCap (cp 3) (Rw 3))) (va_up f 3 u.2) (va_up Rw 3 (rAdd (Rw 3) v)) sl cnt h st) hP1 [0, 1, 2, 3, 4, 5, 6, 7, 8, 9, 10, 11, 36, 37, 12, 13, 14, 15, 16, 17, 18, 19, 20, 21, 22, 23, 24, 25, 26, 27, 28, 29, 30, 31, 32, 33, 34, 35] rfl) (pl_D (cx := treeX g ad (va_up q 3 u.1) (va_up cp 3 (aCap (cp 3) (Rw 3))) (va_up f 3 u.2) (va_up Rw 3 (rAdd (Rw 3) v)) sl cnt h st) hD1 [0, 1, 2, 3, 4, 5, 6, 7, 8, 9, 10, 11, 36, 37, 12, 13, 14, 15, 16, 17, 18, 19, 20, 21, 22, 23, 24, 25, 26, 27, 28, 29, 30, 31, 32, 33, 34, 35] (by decide) rfl) hS1
set_option maxHeartbeats 4000000 in
set_option maxRecDepth 100000 in
theorem tr_add_4 {v : Int32} (S : CallFix p m c cc nL s args wT "NodeMaker$Tree") (hl1 : Cond.methodLink "NodeMaker$Tree" index yR_add ∈ wT) (hR : 2 + 1 ≤ R.frames ∧ 8 + (2 + 11) + 82 ≤ R.locals) (hK : KK g s) (hz : rowsT cp f Rw) (hP : va_P g.1 vwCl (TW g ad q cp f Rw sl cnt h st LW wv) H) (hD : va_D A0 (TW g ad q cp f Rw sl cnt h st LW wv)) (hS : va_S A0 H0 H locs) (hA : ∀ q, H0.size ≤ q → A0 q)
    (hsz : ls.size = nL) (hrm : (rest.map fun v => v.category).sum ≤ 8) (hdg : decode cc pc = .ok (.invokevirtual index, 3)) (hf : cells + aUse (cp 4) (Rw 4) ≤ R.cells ∧ slots + aUse (cp 4) (Rw 4) ≤ R.slots)
    (kk : ∀ (q1 : Nat → Nat) (f1 : Nat → Nat → Int32) (H1 : Heap) (locs1 : List Loc), rowsT (va_up cp 4 (aCap (cp 4) (Rw 4))) f1 (va_up Rw 4 (rAdd (Rw 4) v)) → va_P g.1 vwCl (TW g ad q1 (va_up cp 4 (aCap (cp 4) (Rw 4))) f1 (va_up Rw 4 (rAdd (Rw 4) v)) sl cnt h st LW wv) H1 → va_D A0 (TW g ad q1 (va_up cp 4 (aCap (cp 4) (Rw 4))) f1 (va_up Rw 4 (rAdd (Rw 4) v)) sl cnt h st LW wv) → va_S A0 H0 H1 locs1 → W p l e R s m args below meth c H1 locs1 (cells + aUse (cp 4) (Rw 4)) (slots + aUse (cp 4) (Rw 4)) Q (F0 m (pc + 3) ls rest)) :
    W p l e R s m args below meth c H locs cells slots Q (F0 m pc ls (.int v :: .ref (ad 10) :: rest)) := by
  have hPc : va_P g.1 vwCl (rowW g (ad 10) (q 4) (cp 4) (f 4) (Rw 4).length) H := hP.sub [14, 15] rfl
  have hDc : va_D A0 (rowW g (ad 10) (q 4) (cp 4) (f 4) (Rw 4).length) := hD.sub [14, 15] (by decide) rfl
  refine rw_vQ (X := treeX g ad q cp f Rw sl cnt h st) (pl := plW LW wv) (wr := ([0, 1, 2, 3, 4, 5, 6, 7, 8, 9, 10, 11, 12, 13, 16, 17, 18, 19, 20, 21, 22, 23, 24, 25, 26, 27, 28, 29, 30, 31, 32, 33, 34, 35, 36, 37] : List Nat).filterMap (fun i => (treeX g ad q cp f Rw sl cnt h st)[i]?)) (va_runV (As := [.int v]) (rest := rest) S (cR_add l g H.size (ad 10) (q 4) (cp 4) (f 4) (Rw 4) (hz 4 (by decide)) v) (cwV 1 S.2.2.2.2 (g_V hl1 q_279 q_280 q_35 q_281) rfl rfl rfl hd_R_add hR) (rw_V hK hPc hDc (va_recv hK.1 hPc (ci := 0) (q0 := 0) rfl rfl)) rfl rfl hsz rfl (lv_room hrm) hdg hf) hP hD hS hA [14, 15] [0, 1, 2, 3, 4, 5, 6, 7, 8, 9, 10, 11, 12, 13, 16, 17, 18, 19, 20, 21, 22, 23, 24, 25, 26, 27, 28, 29, 30, 31, 32, 33, 34, 35, 36, 37] rfl rfl rfl (by decide) (by decide) (fun u H1 locs1 hw hP1 hD1 hS1 => ?_)
  exact kk ((va_up q 4 u.1)) ((va_up f 4 u.2)) H1 locs1 (rows_up 4 hz hw) (pl_P (cx := treeX g ad (va_up q 4 u.1) (va_up cp 4 (aCap (cp 4) (Rw 4))) (va_up f 4 u.2) (va_up Rw 4 (rAdd (Rw 4) v)) sl cnt h st) hP1 [0, 1, 2, 3, 4, 5, 6, 7, 8, 9, 10, 11, 12, 13, 36, 37, 14, 15, 16, 17, 18, 19, 20, 21, 22, 23, 24, 25, 26, 27, 28, 29, 30, 31, 32, 33, 34, 35] rfl) (pl_D (cx := treeX g ad (va_up q 4 u.1) (va_up cp 4 (aCap (cp 4) (Rw 4))) (va_up f 4 u.2) (va_up Rw 4 (rAdd (Rw 4) v)) sl cnt h st) hD1 [0, 1, 2, 3, 4, 5, 6, 7, 8, 9, 10, 11, 12, 13, 36, 37, 14, 15, 16, 17, 18, 19, 20, 21, 22, 23, 24, 25, 26, 27, 28, 29, 30, 31, 32, 33, 34, 35] (by decide) rfl) hS1
set_option maxHeartbeats 4000000 in
set_option maxRecDepth 100000 in
theorem tr_add_5 {v : Int32} (S : CallFix p m c cc nL s args wT "NodeMaker$Tree") (hl1 : Cond.methodLink "NodeMaker$Tree" index yR_add ∈ wT) (hR : 2 + 1 ≤ R.frames ∧ 8 + (2 + 11) + 82 ≤ R.locals) (hK : KK g s) (hz : rowsT cp f Rw) (hP : va_P g.1 vwCl (TW g ad q cp f Rw sl cnt h st LW wv) H) (hD : va_D A0 (TW g ad q cp f Rw sl cnt h st LW wv)) (hS : va_S A0 H0 H locs) (hA : ∀ q, H0.size ≤ q → A0 q)
    (hsz : ls.size = nL) (hrm : (rest.map fun v => v.category).sum ≤ 8) (hdg : decode cc pc = .ok (.invokevirtual index, 3)) (hf : cells + aUse (cp 5) (Rw 5) ≤ R.cells ∧ slots + aUse (cp 5) (Rw 5) ≤ R.slots)
    (kk : ∀ (q1 : Nat → Nat) (f1 : Nat → Nat → Int32) (H1 : Heap) (locs1 : List Loc), rowsT (va_up cp 5 (aCap (cp 5) (Rw 5))) f1 (va_up Rw 5 (rAdd (Rw 5) v)) → va_P g.1 vwCl (TW g ad q1 (va_up cp 5 (aCap (cp 5) (Rw 5))) f1 (va_up Rw 5 (rAdd (Rw 5) v)) sl cnt h st LW wv) H1 → va_D A0 (TW g ad q1 (va_up cp 5 (aCap (cp 5) (Rw 5))) f1 (va_up Rw 5 (rAdd (Rw 5) v)) sl cnt h st LW wv) → va_S A0 H0 H1 locs1 → W p l e R s m args below meth c H1 locs1 (cells + aUse (cp 5) (Rw 5)) (slots + aUse (cp 5) (Rw 5)) Q (F0 m (pc + 3) ls rest)) :
    W p l e R s m args below meth c H locs cells slots Q (F0 m pc ls (.int v :: .ref (ad 11) :: rest)) := by
  have hPc : va_P g.1 vwCl (rowW g (ad 11) (q 5) (cp 5) (f 5) (Rw 5).length) H := hP.sub [16, 17] rfl
  have hDc : va_D A0 (rowW g (ad 11) (q 5) (cp 5) (f 5) (Rw 5).length) := hD.sub [16, 17] (by decide) rfl
  refine rw_vQ (X := treeX g ad q cp f Rw sl cnt h st) (pl := plW LW wv) (wr := ([0, 1, 2, 3, 4, 5, 6, 7, 8, 9, 10, 11, 12, 13, 14, 15, 18, 19, 20, 21, 22, 23, 24, 25, 26, 27, 28, 29, 30, 31, 32, 33, 34, 35, 36, 37] : List Nat).filterMap (fun i => (treeX g ad q cp f Rw sl cnt h st)[i]?)) (va_runV (As := [.int v]) (rest := rest) S (cR_add l g H.size (ad 11) (q 5) (cp 5) (f 5) (Rw 5) (hz 5 (by decide)) v) (cwV 1 S.2.2.2.2 (g_V hl1 q_279 q_280 q_35 q_281) rfl rfl rfl hd_R_add hR) (rw_V hK hPc hDc (va_recv hK.1 hPc (ci := 0) (q0 := 0) rfl rfl)) rfl rfl hsz rfl (lv_room hrm) hdg hf) hP hD hS hA [16, 17] [0, 1, 2, 3, 4, 5, 6, 7, 8, 9, 10, 11, 12, 13, 14, 15, 18, 19, 20, 21, 22, 23, 24, 25, 26, 27, 28, 29, 30, 31, 32, 33, 34, 35, 36, 37] rfl rfl rfl (by decide) (by decide) (fun u H1 locs1 hw hP1 hD1 hS1 => ?_)
  exact kk ((va_up q 5 u.1)) ((va_up f 5 u.2)) H1 locs1 (rows_up 5 hz hw) (pl_P (cx := treeX g ad (va_up q 5 u.1) (va_up cp 5 (aCap (cp 5) (Rw 5))) (va_up f 5 u.2) (va_up Rw 5 (rAdd (Rw 5) v)) sl cnt h st) hP1 [0, 1, 2, 3, 4, 5, 6, 7, 8, 9, 10, 11, 12, 13, 14, 15, 36, 37, 16, 17, 18, 19, 20, 21, 22, 23, 24, 25, 26, 27, 28, 29, 30, 31, 32, 33, 34, 35] rfl) (pl_D (cx := treeX g ad (va_up q 5 u.1) (va_up cp 5 (aCap (cp 5) (Rw 5))) (va_up f 5 u.2) (va_up Rw 5 (rAdd (Rw 5) v)) sl cnt h st) hD1 [0, 1, 2, 3, 4, 5, 6, 7, 8, 9, 10, 11, 12, 13, 14, 15, 36, 37, 16, 17, 18, 19, 20, 21, 22, 23, 24, 25, 26, 27, 28, 29, 30, 31, 32, 33, 34, 35] (by decide) rfl) hS1
set_option maxHeartbeats 4000000 in
set_option maxRecDepth 100000 in
theorem tr_add_9 {v : Int32} (S : CallFix p m c cc nL s args wT "NodeMaker$Tree") (hl1 : Cond.methodLink "NodeMaker$Tree" index yR_add ∈ wT) (hR : 2 + 1 ≤ R.frames ∧ 8 + (2 + 11) + 82 ≤ R.locals) (hK : KK g s) (hz : rowsT cp f Rw) (hP : va_P g.1 vwCl (TW g ad q cp f Rw sl cnt h st LW wv) H) (hD : va_D A0 (TW g ad q cp f Rw sl cnt h st LW wv)) (hS : va_S A0 H0 H locs) (hA : ∀ q, H0.size ≤ q → A0 q)
    (hsz : ls.size = nL) (hrm : (rest.map fun v => v.category).sum ≤ 8) (hdg : decode cc pc = .ok (.invokevirtual index, 3)) (hf : cells + aUse (cp 9) (Rw 9) ≤ R.cells ∧ slots + aUse (cp 9) (Rw 9) ≤ R.slots)
    (kk : ∀ (q1 : Nat → Nat) (f1 : Nat → Nat → Int32) (H1 : Heap) (locs1 : List Loc), rowsT (va_up cp 9 (aCap (cp 9) (Rw 9))) f1 (va_up Rw 9 (rAdd (Rw 9) v)) → va_P g.1 vwCl (TW g ad q1 (va_up cp 9 (aCap (cp 9) (Rw 9))) f1 (va_up Rw 9 (rAdd (Rw 9) v)) sl cnt h st LW wv) H1 → va_D A0 (TW g ad q1 (va_up cp 9 (aCap (cp 9) (Rw 9))) f1 (va_up Rw 9 (rAdd (Rw 9) v)) sl cnt h st LW wv) → va_S A0 H0 H1 locs1 → W p l e R s m args below meth c H1 locs1 (cells + aUse (cp 9) (Rw 9)) (slots + aUse (cp 9) (Rw 9)) Q (F0 m (pc + 3) ls rest)) :
    W p l e R s m args below meth c H locs cells slots Q (F0 m pc ls (.int v :: .ref (ad 15) :: rest)) := by
  have hPc : va_P g.1 vwCl (rowW g (ad 15) (q 9) (cp 9) (f 9) (Rw 9).length) H := hP.sub [24, 25] rfl
  have hDc : va_D A0 (rowW g (ad 15) (q 9) (cp 9) (f 9) (Rw 9).length) := hD.sub [24, 25] (by decide) rfl
  refine rw_vQ (X := treeX g ad q cp f Rw sl cnt h st) (pl := plW LW wv) (wr := ([0, 1, 2, 3, 4, 5, 6, 7, 8, 9, 10, 11, 12, 13, 14, 15, 16, 17, 18, 19, 20, 21, 22, 23, 26, 27, 28, 29, 30, 31, 32, 33, 34, 35, 36, 37] : List Nat).filterMap (fun i => (treeX g ad q cp f Rw sl cnt h st)[i]?)) (va_runV (As := [.int v]) (rest := rest) S (cR_add l g H.size (ad 15) (q 9) (cp 9) (f 9) (Rw 9) (hz 9 (by decide)) v) (cwV 1 S.2.2.2.2 (g_V hl1 q_279 q_280 q_35 q_281) rfl rfl rfl hd_R_add hR) (rw_V hK hPc hDc (va_recv hK.1 hPc (ci := 0) (q0 := 0) rfl rfl)) rfl rfl hsz rfl (lv_room hrm) hdg hf) hP hD hS hA [24, 25] [0, 1, 2, 3, 4, 5, 6, 7, 8, 9, 10, 11, 12, 13, 14, 15, 16, 17, 18, 19, 20, 21, 22, 23, 26, 27, 28, 29, 30, 31, 32, 33, 34, 35, 36, 37] rfl rfl rfl (by decide) (by decide) (fun u H1 locs1 hw hP1 hD1 hS1 => ?_)
  exact kk ((va_up q 9 u.1)) ((va_up f 9 u.2)) H1 locs1 (rows_up 9 hz hw) (pl_P (cx := treeX g ad (va_up q 9 u.1) (va_up cp 9 (aCap (cp 9) (Rw 9))) (va_up f 9 u.2) (va_up Rw 9 (rAdd (Rw 9) v)) sl cnt h st) hP1 [0, 1, 2, 3, 4, 5, 6, 7, 8, 9, 10, 11, 12, 13, 14, 15, 16, 17, 18, 19, 20, 21, 22, 23, 36, 37, 24, 25, 26, 27, 28, 29, 30, 31, 32, 33, 34, 35] rfl) (pl_D (cx := treeX g ad (va_up q 9 u.1) (va_up cp 9 (aCap (cp 9) (Rw 9))) (va_up f 9 u.2) (va_up Rw 9 (rAdd (Rw 9) v)) sl cnt h st) hD1 [0, 1, 2, 3, 4, 5, 6, 7, 8, 9, 10, 11, 12, 13, 14, 15, 16, 17, 18, 19, 20, 21, 22, 23, 36, 37, 24, 25, 26, 27, 28, 29, 30, 31, 32, 33, 34, 35] (by decide) rfl) hS1
set_option maxHeartbeats 4000000 in
set_option maxRecDepth 100000 in
theorem tr_set_1 {i : Int32} {v : Int32} (S : CallFix p m c cc nL s args wT "NodeMaker$Tree") (hl1 : Cond.methodLink "NodeMaker$Tree" index yR_set ∈ wT) (hR : 0 + 1 ≤ R.frames ∧ 8 + (3 + 11) + 0 ≤ R.locals) (hK : KK g s) (hz : rowsT cp f Rw) (hP : va_P g.1 vwCl (TW g ad q cp f Rw sl cnt h st LW wv) H) (hD : va_D A0 (TW g ad q cp f Rw sl cnt h st LW wv)) (hS : va_S A0 H0 H locs) (hA : ∀ q, H0.size ≤ q → A0 q)
    (hsz : ls.size = nL) (hrm : (rest.map fun v => v.category).sum ≤ 8) (hdg : decode cc pc = .ok (.invokevirtual index, 3)) (hf : cells + 0 ≤ R.cells ∧ slots + 0 ≤ R.slots)
    (kk : ∀ (q1 : Nat → Nat) (f1 : Nat → Nat → Int32) (H1 : Heap) (locs1 : List Loc), rowsT cp f1 (va_up Rw 1 (rSet (Rw 1) i v)) → va_P g.1 vwCl (TW g ad q1 cp f1 (va_up Rw 1 (rSet (Rw 1) i v)) sl cnt h st LW wv) H1 → va_D A0 (TW g ad q1 cp f1 (va_up Rw 1 (rSet (Rw 1) i v)) sl cnt h st LW wv) → va_S A0 H0 H1 locs1 → W p l e R s m args below meth c H1 locs1 (cells + 0) (slots + 0) Q (F0 m (pc + 3) ls rest)) :
    W p l e R s m args below meth c H locs cells slots Q (F0 m pc ls (.int v :: .int i :: .ref (ad 7) :: rest)) := by
  have hPc : va_P g.1 vwCl (rowW g (ad 7) (q 1) (cp 1) (f 1) (Rw 1).length) H := hP.sub [8, 9] rfl
  have hDc : va_D A0 (rowW g (ad 7) (q 1) (cp 1) (f 1) (Rw 1).length) := hD.sub [8, 9] (by decide) rfl
  refine rw_vQ (X := treeX g ad q cp f Rw sl cnt h st) (pl := plW LW wv) (wr := ([0, 1, 2, 3, 4, 5, 6, 7, 10, 11, 12, 13, 14, 15, 16, 17, 18, 19, 20, 21, 22, 23, 24, 25, 26, 27, 28, 29, 30, 31, 32, 33, 34, 35, 36, 37] : List Nat).filterMap (fun i => (treeX g ad q cp f Rw sl cnt h st)[i]?)) (va_runV (As := [.int i, .int v]) (rest := rest) S (cR_set l g H.size (ad 7) (q 1) (cp 1) (f 1) (Rw 1) (hz 1 (by decide)) i v) (cwV 2 S.2.2.2.2 (g_V hl1 q_362 q_363 q_35 q_364) rfl rfl rfl hd_R_set hR) (rw_V hK hPc hDc (va_recv hK.1 hPc (ci := 0) (q0 := 0) rfl rfl)) rfl rfl hsz rfl (lv_room hrm) hdg hf) hP hD hS hA [8, 9] [0, 1, 2, 3, 4, 5, 6, 7, 10, 11, 12, 13, 14, 15, 16, 17, 18, 19, 20, 21, 22, 23, 24, 25, 26, 27, 28, 29, 30, 31, 32, 33, 34, 35, 36, 37] rfl rfl rfl (by decide) (by decide) (fun u H1 locs1 hw hP1 hD1 hS1 => ?_)
  exact kk (q) ((va_up f 1 u)) H1 locs1 (rows_upL 1 hz hw) (pl_P (cx := treeX g ad q cp (va_up f 1 u) (va_up Rw 1 (rSet (Rw 1) i v)) sl cnt h st) hP1 [0, 1, 2, 3, 4, 5, 6, 7, 36, 37, 8, 9, 10, 11, 12, 13, 14, 15, 16, 17, 18, 19, 20, 21, 22, 23, 24, 25, 26, 27, 28, 29, 30, 31, 32, 33, 34, 35] rfl) (pl_D (cx := treeX g ad q cp (va_up f 1 u) (va_up Rw 1 (rSet (Rw 1) i v)) sl cnt h st) hD1 [0, 1, 2, 3, 4, 5, 6, 7, 36, 37, 8, 9, 10, 11, 12, 13, 14, 15, 16, 17, 18, 19, 20, 21, 22, 23, 24, 25, 26, 27, 28, 29, 30, 31, 32, 33, 34, 35] (by decide) rfl) hS1
set_option maxHeartbeats 4000000 in
set_option maxRecDepth 100000 in
theorem tr_set_2 {i : Int32} {v : Int32} (S : CallFix p m c cc nL s args wT "NodeMaker$Tree") (hl1 : Cond.methodLink "NodeMaker$Tree" index yR_set ∈ wT) (hR : 0 + 1 ≤ R.frames ∧ 8 + (3 + 11) + 0 ≤ R.locals) (hK : KK g s) (hz : rowsT cp f Rw) (hP : va_P g.1 vwCl (TW g ad q cp f Rw sl cnt h st LW wv) H) (hD : va_D A0 (TW g ad q cp f Rw sl cnt h st LW wv)) (hS : va_S A0 H0 H locs) (hA : ∀ q, H0.size ≤ q → A0 q)
    (hsz : ls.size = nL) (hrm : (rest.map fun v => v.category).sum ≤ 8) (hdg : decode cc pc = .ok (.invokevirtual index, 3)) (hf : cells + 0 ≤ R.cells ∧ slots + 0 ≤ R.slots)
    (kk : ∀ (q1 : Nat → Nat) (f1 : Nat → Nat → Int32) (H1 : Heap) (locs1 : List Loc), rowsT cp f1 (va_up Rw 2 (rSet (Rw 2) i v)) → va_P g.1 vwCl (TW g ad q1 cp f1 (va_up Rw 2 (rSet (Rw 2) i v)) sl cnt h st LW wv) H1 → va_D A0 (TW g ad q1 cp f1 (va_up Rw 2 (rSet (Rw 2) i v)) sl cnt h st LW wv) → va_S A0 H0 H1 locs1 → W p l e R s m args below meth c H1 locs1 (cells + 0) (slots + 0) Q (F0 m (pc + 3) ls rest)) :
    W p l e R s m args below meth c H locs cells slots Q (F0 m pc ls (.int v :: .int i :: .ref (ad 8) :: rest)) := by
  have hPc : va_P g.1 vwCl (rowW g (ad 8) (q 2) (cp 2) (f 2) (Rw 2).length) H := hP.sub [10, 11] rfl
  have hDc : va_D A0 (rowW g (ad 8) (q 2) (cp 2) (f 2) (Rw 2).length) := hD.sub [10, 11] (by decide) rfl
  refine rw_vQ (X := treeX g ad q cp f Rw sl cnt h st) (pl := plW LW wv) (wr := ([0, 1, 2, 3, 4, 5, 6, 7, 8, 9, 12, 13, 14, 15, 16, 17, 18, 19, 20, 21, 22, 23, 24, 25, 26, 27, 28, 29, 30, 31, 32, 33, 34, 35, 36, 37] : List Nat).filterMap (fun i => (treeX g ad q cp f Rw sl cnt h st)[i]?)) (va_runV (As := [.int i, .int v]) (rest := rest) S (cR_set l g H.size (ad 8) (q 2) (cp 2) (f 2) (Rw 2) (hz 2 (by decide)) i v) (cwV 2 S.2.2.2.2 (g_V hl1 q_362 q_363 q_35 q_364) rfl rfl rfl hd_R_set hR) (rw_V hK hPc hDc (va_recv hK.1 hPc (ci := 0) (q0 := 0) rfl rfl)) rfl rfl hsz rfl (lv_room hrm) hdg hf) hP hD hS hA [10, 11] [0, 1, 2, 3, 4, 5, 6, 7, 8, 9, 12, 13, 14, 15, 16, 17, 18, 19, 20, 21, 22, 23, 24, 25, 26, 27, 28, 29, 30, 31, 32, 33, 34, 35, 36, 37] rfl rfl rfl (by decide) (by decide) (fun u H1 locs1 hw hP1 hD1 hS1 => ?_)
  exact kk (q) ((va_up f 2 u)) H1 locs1 (rows_upL 2 hz hw) (pl_P (cx := treeX g ad q cp (va_up f 2 u) (va_up Rw 2 (rSet (Rw 2) i v)) sl cnt h st) hP1 [0, 1, 2, 3, 4, 5, 6, 7, 8, 9, 36, 37, 10, 11, 12, 13, 14, 15, 16, 17, 18, 19, 20, 21, 22, 23, 24, 25, 26, 27, 28, 29, 30, 31, 32, 33, 34, 35] rfl) (pl_D (cx := treeX g ad q cp (va_up f 2 u) (va_up Rw 2 (rSet (Rw 2) i v)) sl cnt h st) hD1 [0, 1, 2, 3, 4, 5, 6, 7, 8, 9, 36, 37, 10, 11, 12, 13, 14, 15, 16, 17, 18, 19, 20, 21, 22, 23, 24, 25, 26, 27, 28, 29, 30, 31, 32, 33, 34, 35] (by decide) rfl) hS1
set_option maxHeartbeats 4000000 in
set_option maxRecDepth 100000 in
theorem tr_set_3 {i : Int32} {v : Int32} (S : CallFix p m c cc nL s args wT "NodeMaker$Tree") (hl1 : Cond.methodLink "NodeMaker$Tree" index yR_set ∈ wT) (hR : 0 + 1 ≤ R.frames ∧ 8 + (3 + 11) + 0 ≤ R.locals) (hK : KK g s) (hz : rowsT cp f Rw) (hP : va_P g.1 vwCl (TW g ad q cp f Rw sl cnt h st LW wv) H) (hD : va_D A0 (TW g ad q cp f Rw sl cnt h st LW wv)) (hS : va_S A0 H0 H locs) (hA : ∀ q, H0.size ≤ q → A0 q)
    (hsz : ls.size = nL) (hrm : (rest.map fun v => v.category).sum ≤ 8) (hdg : decode cc pc = .ok (.invokevirtual index, 3)) (hf : cells + 0 ≤ R.cells ∧ slots + 0 ≤ R.slots)
    (kk : ∀ (q1 : Nat → Nat) (f1 : Nat → Nat → Int32) (H1 : Heap) (locs1 : List Loc), rowsT cp f1 (va_up Rw 3 (rSet (Rw 3) i v)) → va_P g.1 vwCl (TW g ad q1 cp f1 (va_up Rw 3 (rSet (Rw 3) i v)) sl cnt h st LW wv) H1 → va_D A0 (TW g ad q1 cp f1 (va_up Rw 3 (rSet (Rw 3) i v)) sl cnt h st LW wv) → va_S A0 H0 H1 locs1 → W p l e R s m args below meth c H1 locs1 (cells + 0) (slots + 0) Q (F0 m (pc + 3) ls rest)) :
    W p l e R s m args below meth c H locs cells slots Q (F0 m pc ls (.int v :: .int i :: .ref (ad 9) :: rest)) := by
  have hPc : va_P g.1 vwCl (rowW g (ad 9) (q 3) (cp 3) (f 3) (Rw 3).length) H := hP.sub [12, 13] rfl
  have hDc : va_D A0 (rowW g (ad 9) (q 3) (cp 3) (f 3) (Rw 3).length) := hD.sub [12, 13] (by decide) rfl
  refine rw_vQ (X := treeX g ad q cp f Rw sl cnt h st) (pl := plW LW wv) (wr := ([0, 1, 2, 3, 4, 5, 6, 7, 8, 9, 10, 11, 14, 15, 16, 17, 18, 19, 20, 21, 22, 23, 24, 25, 26, 27, 28, 29, 30, 31, 32, 33, 34, 35, 36, 37] : List Nat).filterMap (fun i => (treeX g ad q cp f Rw sl cnt h st)[i]?)) (va_runV (As := [.int i, .int v]) (rest := rest) S (cR_set l g H.size (ad 9) (q 3) (cp 3) (f 3) (Rw 3) (hz 3 (by decide)) i v) (cwV 2 S.2.2.2.2 (g_V hl1 q_362 q_363 q_35 q_364) rfl rfl rfl hd_R_set hR) (rw_V hK hPc hDc (va_recv hK.1 hPc (ci := 0) (q0 := 0) rfl rfl)) rfl rfl hsz rfl (lv_room hrm) hdg hf) hP hD hS hA [12, 13] [0, 1, 2, 3, 4, 5, 6, 7, 8, 9, 10, 11, 14, 15, 16, 17, 18, 19, 20, 21, 22, 23, 24, 25, 26, 27, 28, 29, 30, 31, 32, 33, 34, 35, 36, 37] rfl rfl rfl (by decide) (by decide) (fun u H1 locs1 hw hP1 hD1 hS1 => ?_)
  exact kk (q) ((va_up f 3 u)) H1 locs1 (rows_upL 3 hz hw) (pl_P (cx := treeX g ad q cp (va_up f 3 u) (va_up Rw 3 (rSet (Rw 3) i v)) sl cnt h st) hP1 [0, 1, 2, 3, 4, 5, 6, 7, 8, 9, 10, 11, 36, 37, 12, 13, 14, 15, 16, 17, 18, 19, 20, 21, 22, 23, 24, 25, 26, 27, 28, 29, 30, 31, 32, 33, 34, 35] rfl) (pl_D (cx := treeX g ad q cp (va_up f 3 u) (va_up Rw 3 (rSet (Rw 3) i v)) sl cnt h st) hD1 [0, 1, 2, 3, 4, 5, 6, 7, 8, 9, 10, 11, 36, 37, 12, 13, 14, 15, 16, 17, 18, 19, 20, 21, 22, 23, 24, 25, 26, 27, 28, 29, 30, 31, 32, 33, 34, 35] (by decide) rfl) hS1
set_option maxHeartbeats 4000000 in
set_option maxRecDepth 100000 in
theorem tr_cut_0 {i : Int32} (S : CallFix p m c cc nL s args wT "NodeMaker$Tree") (hl1 : Cond.methodLink "NodeMaker$Tree" index yR_shorten ∈ wT) (hR : 0 + 1 ≤ R.frames ∧ 8 + (2 + 11) + 0 ≤ R.locals) (hK : KK g s) (hz : rowsT cp f Rw) (hP : va_P g.1 vwCl (TW g ad q cp f Rw sl cnt h st LW wv) H) (hD : va_D A0 (TW g ad q cp f Rw sl cnt h st LW wv)) (hS : va_S A0 H0 H locs) (hA : ∀ q, H0.size ≤ q → A0 q)
    (hsz : ls.size = nL) (hrm : (rest.map fun v => v.category).sum ≤ 8) (hdg : decode cc pc = .ok (.invokevirtual index, 3)) (hf : cells + 0 ≤ R.cells ∧ slots + 0 ≤ R.slots)
    (kk : ∀ (q1 : Nat → Nat) (f1 : Nat → Nat → Int32) (H1 : Heap) (locs1 : List Loc), rowsT cp f1 (va_up Rw 0 (rCut (Rw 0) i)) → va_P g.1 vwCl (TW g ad q1 cp f1 (va_up Rw 0 (rCut (Rw 0) i)) sl cnt h st LW wv) H1 → va_D A0 (TW g ad q1 cp f1 (va_up Rw 0 (rCut (Rw 0) i)) sl cnt h st LW wv) → va_S A0 H0 H1 locs1 → W p l e R s m args below meth c H1 locs1 (cells + 0) (slots + 0) Q (F0 m (pc + 3) ls rest)) :
    W p l e R s m args below meth c H locs cells slots Q (F0 m pc ls (.int i :: .ref (ad 6) :: rest)) := by
  have hPc : va_P g.1 vwCl (rowW g (ad 6) (q 0) (cp 0) (f 0) (Rw 0).length) H := hP.sub [6, 7] rfl
  have hDc : va_D A0 (rowW g (ad 6) (q 0) (cp 0) (f 0) (Rw 0).length) := hD.sub [6, 7] (by decide) rfl
  refine rw_vQ (X := treeX g ad q cp f Rw sl cnt h st) (pl := plW LW wv) (wr := ([0, 1, 2, 3, 4, 5, 8, 9, 10, 11, 12, 13, 14, 15, 16, 17, 18, 19, 20, 21, 22, 23, 24, 25, 26, 27, 28, 29, 30, 31, 32, 33, 34, 35, 36, 37] : List Nat).filterMap (fun i => (treeX g ad q cp f Rw sl cnt h st)[i]?)) (va_runV (As := [.int i]) (rest := rest) S (cR_shorten l g H.size (ad 6) (q 0) (cp 0) (f 0) (Rw 0) (hz 0 (by decide)) i) (cwV 1 S.2.2.2.2 (g_V hl1 q_265 q_266 q_35 q_267) rfl rfl rfl hd_R_shorten hR) (rw_V hK hPc hDc (va_recv hK.1 hPc (ci := 0) (q0 := 0) rfl rfl)) rfl rfl hsz rfl (lv_room hrm) hdg hf) hP hD hS hA [6, 7] [0, 1, 2, 3, 4, 5, 8, 9, 10, 11, 12, 13, 14, 15, 16, 17, 18, 19, 20, 21, 22, 23, 24, 25, 26, 27, 28, 29, 30, 31, 32, 33, 34, 35, 36, 37] rfl rfl rfl (by decide) (by decide) (fun u H1 locs1 hw hP1 hD1 hS1 => ?_)
  exact kk (q) (f) H1 locs1 (rows_upR 0 hz hw) (pl_P (cx := treeX g ad q cp f (va_up Rw 0 (rCut (Rw 0) i)) sl cnt h st) hP1 [0, 1, 2, 3, 4, 5, 36, 37, 6, 7, 8, 9, 10, 11, 12, 13, 14, 15, 16, 17, 18, 19, 20, 21, 22, 23, 24, 25, 26, 27, 28, 29, 30, 31, 32, 33, 34, 35] rfl) (pl_D (cx := treeX g ad q cp f (va_up Rw 0 (rCut (Rw 0) i)) sl cnt h st) hD1 [0, 1, 2, 3, 4, 5, 36, 37, 6, 7, 8, 9, 10, 11, 12, 13, 14, 15, 16, 17, 18, 19, 20, 21, 22, 23, 24, 25, 26, 27, 28, 29, 30, 31, 32, 33, 34, 35] (by decide) rfl) hS1
set_option maxHeartbeats 4000000 in
set_option maxRecDepth 100000 in
theorem tr_cut_1 {i : Int32} (S : CallFix p m c cc nL s args wT "NodeMaker$Tree") (hl1 : Cond.methodLink "NodeMaker$Tree" index yR_shorten ∈ wT) (hR : 0 + 1 ≤ R.frames ∧ 8 + (2 + 11) + 0 ≤ R.locals) (hK : KK g s) (hz : rowsT cp f Rw) (hP : va_P g.1 vwCl (TW g ad q cp f Rw sl cnt h st LW wv) H) (hD : va_D A0 (TW g ad q cp f Rw sl cnt h st LW wv)) (hS : va_S A0 H0 H locs) (hA : ∀ q, H0.size ≤ q → A0 q)
    (hsz : ls.size = nL) (hrm : (rest.map fun v => v.category).sum ≤ 8) (hdg : decode cc pc = .ok (.invokevirtual index, 3)) (hf : cells + 0 ≤ R.cells ∧ slots + 0 ≤ R.slots)
    (kk : ∀ (q1 : Nat → Nat) (f1 : Nat → Nat → Int32) (H1 : Heap) (locs1 : List Loc), rowsT cp f1 (va_up Rw 1 (rCut (Rw 1) i)) → va_P g.1 vwCl (TW g ad q1 cp f1 (va_up Rw 1 (rCut (Rw 1) i)) sl cnt h st LW wv) H1 → va_D A0 (TW g ad q1 cp f1 (va_up Rw 1 (rCut (Rw 1) i)) sl cnt h st LW wv) → va_S A0 H0 H1 locs1 → W p l e R s m args below meth c H1 locs1 (cells + 0) (slots + 0) Q (F0 m (pc + 3) ls rest)) :
    W p l e R s m args below meth c H locs cells slots Q (F0 m pc ls (.int i :: .ref (ad 7) :: rest)) := by
  have hPc : va_P g.1 vwCl (rowW g (ad 7) (q 1) (cp 1) (f 1) (Rw 1).length) H := hP.sub [8, 9] rfl
  have hDc : va_D A0 (rowW g (ad 7) (q 1) (cp 1) (f 1) (Rw 1).length) := hD.sub [8, 9] (by decide) rfl
  refine rw_vQ (X := treeX g ad q cp f Rw sl cnt h st) (pl := plW LW wv) (wr := ([0, 1, 2, 3, 4, 5, 6, 7, 10, 11, 12, 13, 14, 15, 16, 17, 18, 19, 20, 21, 22, 23, 24, 25, 26, 27, 28, 29, 30, 31, 32, 33, 34, 35, 36, 37] : List Nat).filterMap (fun i => (treeX g ad q cp f Rw sl cnt h st)[i]?)) (va_runV (As := [.int i]) (rest := rest) S (cR_shorten l g H.size (ad 7) (q 1) (cp 1) (f 1) (Rw 1) (hz 1 (by decide)) i) (cwV 1 S.2.2.2.2 (g_V hl1 q_265 q_266 q_35 q_267) rfl rfl rfl hd_R_shorten hR) (rw_V hK hPc hDc (va_recv hK.1 hPc (ci := 0) (q0 := 0) rfl rfl)) rfl rfl hsz rfl (lv_room hrm) hdg hf) hP hD hS hA [8, 9] [0, 1, 2, 3, 4, 5, 6, 7, 10, 11, 12, 13, 14, 15, 16, 17, 18, 19, 20, 21, 22, 23, 24, 25, 26, 27, 28, 29, 30, 31, 32, 33, 34, 35, 36, 37] rfl rfl rfl (by decide) (by decide) (fun u H1 locs1 hw hP1 hD1 hS1 => ?_)
  exact kk (q) (f) H1 locs1 (rows_upR 1 hz hw) (pl_P (cx := treeX g ad q cp f (va_up Rw 1 (rCut (Rw 1) i)) sl cnt h st) hP1 [0, 1, 2, 3, 4, 5, 6, 7, 36, 37, 8, 9, 10, 11, 12, 13, 14, 15, 16, 17, 18, 19, 20, 21, 22, 23, 24, 25, 26, 27, 28, 29, 30, 31, 32, 33, 34, 35] rfl) (pl_D (cx := treeX g ad q cp f (va_up Rw 1 (rCut (Rw 1) i)) sl cnt h st) hD1 [0, 1, 2, 3, 4, 5, 6, 7, 36, 37, 8, 9, 10, 11, 12, 13, 14, 15, 16, 17, 18, 19, 20, 21, 22, 23, 24, 25, 26, 27, 28, 29, 30, 31, 32, 33, 34, 35] (by decide) rfl) hS1
set_option maxHeartbeats 4000000 in
set_option maxRecDepth 100000 in
theorem tr_cut_2 {i : Int32} (S : CallFix p m c cc nL s args wT "NodeMaker$Tree") (hl1 : Cond.methodLink "NodeMaker$Tree" index yR_shorten ∈ wT) (hR : 0 + 1 ≤ R.frames ∧ 8 + (2 + 11) + 0 ≤ R.locals) (hK : KK g s) (hz : rowsT cp f Rw) (hP : va_P g.1 vwCl (TW g ad q cp f Rw sl cnt h st LW wv) H) (hD : va_D A0 (TW g ad q cp f Rw sl cnt h st LW wv)) (hS : va_S A0 H0 H locs) (hA : ∀ q, H0.size ≤ q → A0 q)
    (hsz : ls.size = nL) (hrm : (rest.map fun v => v.category).sum ≤ 8) (hdg : decode cc pc = .ok (.invokevirtual index, 3)) (hf : cells + 0 ≤ R.cells ∧ slots + 0 ≤ R.slots)
    (kk : ∀ (q1 : Nat → Nat) (f1 : Nat → Nat → Int32) (H1 : Heap) (locs1 : List Loc), rowsT cp f1 (va_up Rw 2 (rCut (Rw 2) i)) → va_P g.1 vwCl (TW g ad q1 cp f1 (va_up Rw 2 (rCut (Rw 2) i)) sl cnt h st LW wv) H1 → va_D A0 (TW g ad q1 cp f1 (va_up Rw 2 (rCut (Rw 2) i)) sl cnt h st LW wv) → va_S A0 H0 H1 locs1 → W p l e R s m args below meth c H1 locs1 (cells + 0) (slots + 0) Q (F0 m (pc + 3) ls rest)) :
    W p l e R s m args below meth c H locs cells slots Q (F0 m pc ls (.int i :: .ref (ad 8) :: rest)) := by
  have hPc : va_P g.1 vwCl (rowW g (ad 8) (q 2) (cp 2) (f 2) (Rw 2).length) H := hP.sub [10, 11] rfl
  have hDc : va_D A0 (rowW g (ad 8) (q 2) (cp 2) (f 2) (Rw 2).length) := hD.sub [10, 11] (by decide) rfl
  refine rw_vQ (X := treeX g ad q cp f Rw sl cnt h st) (pl := plW LW wv) (wr := ([0, 1, 2, 3, 4, 5, 6, 7, 8, 9, 12, 13, 14, 15, 16, 17, 18, 19, 20, 21, 22, 23, 24, 25, 26, 27, 28, 29, 30, 31, 32, 33, 34, 35, 36, 37] : List Nat).filterMap (fun i => (treeX g ad q cp f Rw sl cnt h st)[i]?)) (va_runV (As := [.int i]) (rest := rest) S (cR_shorten l g H.size (ad 8) (q 2) (cp 2) (f 2) (Rw 2) (hz 2 (by decide)) i) (cwV 1 S.2.2.2.2 (g_V hl1 q_265 q_266 q_35 q_267) rfl rfl rfl hd_R_shorten hR) (rw_V hK hPc hDc (va_recv hK.1 hPc (ci := 0) (q0 := 0) rfl rfl)) rfl rfl hsz rfl (lv_room hrm) hdg hf) hP hD hS hA [10, 11] [0, 1, 2, 3, 4, 5, 6, 7, 8, 9, 12, 13, 14, 15, 16, 17, 18, 19, 20, 21, 22, 23, 24, 25, 26, 27, 28, 29, 30, 31, 32, 33, 34, 35, 36, 37] rfl rfl rfl (by decide) (by decide) (fun u H1 locs1 hw hP1 hD1 hS1 => ?_)
  exact kk (q) (f) H1 locs1 (rows_upR 2 hz hw) (pl_P (cx := treeX g ad q cp f (va_up Rw 2 (rCut (Rw 2) i)) sl cnt h st) hP1 [0, 1, 2, 3, 4, 5, 6, 7, 8, 9, 36, 37, 10, 11, 12, 13, 14, 15, 16, 17, 18, 19, 20, 21, 22, 23, 24, 25, 26, 27, 28, 29, 30, 31, 32, 33, 34, 35] rfl) (pl_D (cx := treeX g ad q cp f (va_up Rw 2 (rCut (Rw 2) i)) sl cnt h st) hD1 [0, 1, 2, 3, 4, 5, 6, 7, 8, 9, 36, 37, 10, 11, 12, 13, 14, 15, 16, 17, 18, 19, 20, 21, 22, 23, 24, 25, 26, 27, 28, 29, 30, 31, 32, 33, 34, 35] (by decide) rfl) hS1
set_option maxHeartbeats 4000000 in
set_option maxRecDepth 100000 in
theorem tr_cut_3 {i : Int32} (S : CallFix p m c cc nL s args wT "NodeMaker$Tree") (hl1 : Cond.methodLink "NodeMaker$Tree" index yR_shorten ∈ wT) (hR : 0 + 1 ≤ R.frames ∧ 8 + (2 + 11) + 0 ≤ R.locals) (hK : KK g s) (hz : rowsT cp f Rw) (hP : va_P g.1 vwCl (TW g ad q cp f Rw sl cnt h st LW wv) H) (hD : va_D A0 (TW g ad q cp f Rw sl cnt h st LW wv)) (hS : va_S A0 H0 H locs) (hA : ∀ q, H0.size ≤ q → A0 q)
    (hsz : ls.size = nL) (hrm : (rest.map fun v => v.category).sum ≤ 8) (hdg : decode cc pc = .ok (.invokevirtual index, 3)) (hf : cells + 0 ≤ R.cells ∧ slots + 0 ≤ R.slots)
    (kk : ∀ (q1 : Nat → Nat) (f1 : Nat → Nat → Int32) (H1 : Heap) (locs1 : List Loc), rowsT cp f1 (va_up Rw 3 (rCut (Rw 3) i)) → va_P g.1 vwCl (TW g ad q1 cp f1 (va_up Rw 3 (rCut (Rw 3) i)) sl cnt h st LW wv) H1 → va_D A0 (TW g ad q1 cp f1 (va_up Rw 3 (rCut (Rw 3) i)) sl cnt h st LW wv) → va_S A0 H0 H1 locs1 → W p l e R s m args below meth c H1 locs1 (cells + 0) (slots + 0) Q (F0 m (pc + 3) ls rest)) :
    W p l e R s m args below meth c H locs cells slots Q (F0 m pc ls (.int i :: .ref (ad 9) :: rest)) := by
  have hPc : va_P g.1 vwCl (rowW g (ad 9) (q 3) (cp 3) (f 3) (Rw 3).length) H := hP.sub [12, 13] rfl
  have hDc : va_D A0 (rowW g (ad 9) (q 3) (cp 3) (f 3) (Rw 3).length) := hD.sub [12, 13] (by decide) rfl
  refine rw_vQ (X := treeX g ad q cp f Rw sl cnt h st) (pl := plW LW wv) (wr := ([0, 1, 2, 3, 4, 5, 6, 7, 8, 9, 10, 11, 14, 15, 16, 17, 18, 19, 20, 21, 22, 23, 24, 25, 26, 27, 28, 29, 30, 31, 32, 33, 34, 35, 36, 37] : List Nat).filterMap (fun i => (treeX g ad q cp f Rw sl cnt h st)[i]?)) (va_runV (As := [.int i]) (rest := rest) S (cR_shorten l g H.size (ad 9) (q 3) (cp 3) (f 3) (Rw 3) (hz 3 (by decide)) i) (cwV 1 S.2.2.2.2 (g_V hl1 q_265 q_266 q_35 q_267) rfl rfl rfl hd_R_shorten hR) (rw_V hK hPc hDc (va_recv hK.1 hPc (ci := 0) (q0 := 0) rfl rfl)) rfl rfl hsz rfl (lv_room hrm) hdg hf) hP hD hS hA [12, 13] [0, 1, 2, 3, 4, 5, 6, 7, 8, 9, 10, 11, 14, 15, 16, 17, 18, 19, 20, 21, 22, 23, 24, 25, 26, 27, 28, 29, 30, 31, 32, 33, 34, 35, 36, 37] rfl rfl rfl (by decide) (by decide) (fun u H1 locs1 hw hP1 hD1 hS1 => ?_)
  exact kk (q) (f) H1 locs1 (rows_upR 3 hz hw) (pl_P (cx := treeX g ad q cp f (va_up Rw 3 (rCut (Rw 3) i)) sl cnt h st) hP1 [0, 1, 2, 3, 4, 5, 6, 7, 8, 9, 10, 11, 36, 37, 12, 13, 14, 15, 16, 17, 18, 19, 20, 21, 22, 23, 24, 25, 26, 27, 28, 29, 30, 31, 32, 33, 34, 35] rfl) (pl_D (cx := treeX g ad q cp f (va_up Rw 3 (rCut (Rw 3) i)) sl cnt h st) hD1 [0, 1, 2, 3, 4, 5, 6, 7, 8, 9, 10, 11, 36, 37, 12, 13, 14, 15, 16, 17, 18, 19, 20, 21, 22, 23, 24, 25, 26, 27, 28, 29, 30, 31, 32, 33, 34, 35] (by decide) rfl) hS1
set_option maxHeartbeats 4000000 in
set_option maxRecDepth 100000 in
theorem tr_cut_4 {i : Int32} (S : CallFix p m c cc nL s args wT "NodeMaker$Tree") (hl1 : Cond.methodLink "NodeMaker$Tree" index yR_shorten ∈ wT) (hR : 0 + 1 ≤ R.frames ∧ 8 + (2 + 11) + 0 ≤ R.locals) (hK : KK g s) (hz : rowsT cp f Rw) (hP : va_P g.1 vwCl (TW g ad q cp f Rw sl cnt h st LW wv) H) (hD : va_D A0 (TW g ad q cp f Rw sl cnt h st LW wv)) (hS : va_S A0 H0 H locs) (hA : ∀ q, H0.size ≤ q → A0 q)
    (hsz : ls.size = nL) (hrm : (rest.map fun v => v.category).sum ≤ 8) (hdg : decode cc pc = .ok (.invokevirtual index, 3)) (hf : cells + 0 ≤ R.cells ∧ slots + 0 ≤ R.slots)
    (kk : ∀ (q1 : Nat → Nat) (f1 : Nat → Nat → Int32) (H1 : Heap) (locs1 : List Loc), rowsT cp f1 (va_up Rw 4 (rCut (Rw 4) i)) → va_P g.1 vwCl (TW g ad q1 cp f1 (va_up Rw 4 (rCut (Rw 4) i)) sl cnt h st LW wv) H1 → va_D A0 (TW g ad q1 cp f1 (va_up Rw 4 (rCut (Rw 4) i)) sl cnt h st LW wv) → va_S A0 H0 H1 locs1 → W p l e R s m args below meth c H1 locs1 (cells + 0) (slots + 0) Q (F0 m (pc + 3) ls rest)) :
    W p l e R s m args below meth c H locs cells slots Q (F0 m pc ls (.int i :: .ref (ad 10) :: rest)) := by
  have hPc : va_P g.1 vwCl (rowW g (ad 10) (q 4) (cp 4) (f 4) (Rw 4).length) H := hP.sub [14, 15] rfl
  have hDc : va_D A0 (rowW g (ad 10) (q 4) (cp 4) (f 4) (Rw 4).length) := hD.sub [14, 15] (by decide) rfl
  refine rw_vQ (X := treeX g ad q cp f Rw sl cnt h st) (pl := plW LW wv) (wr := ([0, 1, 2, 3, 4, 5, 6, 7, 8, 9, 10, 11, 12, 13, 16, 17, 18, 19, 20, 21, 22, 23, 24, 25, 26, 27, 28, 29, 30, 31, 32, 33, 34, 35, 36, 37] : List Nat).filterMap (fun i => (treeX g ad q cp f Rw sl cnt h st)[i]?)) (va_runV (As := [.int i]) (rest := rest) S (cR_shorten l g H.size (ad 10) (q 4) (cp 4) (f 4) (Rw 4) (hz 4 (by decide)) i) (cwV 1 S.2.2.2.2 (g_V hl1 q_265 q_266 q_35 q_267) rfl rfl rfl hd_R_shorten hR) (rw_V hK hPc hDc (va_recv hK.1 hPc (ci := 0) (q0 := 0) rfl rfl)) rfl rfl hsz rfl (lv_room hrm) hdg hf) hP hD hS hA [14, 15] [0, 1, 2, 3, 4, 5, 6, 7, 8, 9, 10, 11, 12, 13, 16, 17, 18, 19, 20, 21, 22, 23, 24, 25, 26, 27, 28, 29, 30, 31, 32, 33, 34, 35, 36, 37] rfl rfl rfl (by decide) (by decide) (fun u H1 locs1 hw hP1 hD1 hS1 => ?_)
  exact kk (q) (f) H1 locs1 (rows_upR 4 hz hw) (pl_P (cx := treeX g ad q cp f (va_up Rw 4 (rCut (Rw 4) i)) sl cnt h st) hP1 [0, 1, 2, 3, 4, 5, 6, 7, 8, 9, 10, 11, 12, 13, 36, 37, 14, 15, 16, 17, 18, 19, 20, 21, 22, 23, 24, 25, 26, 27, 28, 29, 30, 31, 32, 33, 34, 35] rfl) (pl_D (cx := treeX g ad q cp f (va_up Rw 4 (rCut (Rw 4) i)) sl cnt h st) hD1 [0, 1, 2, 3, 4, 5, 6, 7, 8, 9, 10, 11, 12, 13, 36, 37, 14, 15, 16, 17, 18, 19, 20, 21, 22, 23, 24, 25, 26, 27, 28, 29, 30, 31, 32, 33, 34, 35] (by decide) rfl) hS1
set_option maxHeartbeats 4000000 in
set_option maxRecDepth 100000 in
theorem tr_cut_5 {i : Int32} (S : CallFix p m c cc nL s args wT "NodeMaker$Tree") (hl1 : Cond.methodLink "NodeMaker$Tree" index yR_shorten ∈ wT) (hR : 0 + 1 ≤ R.frames ∧ 8 + (2 + 11) + 0 ≤ R.locals) (hK : KK g s) (hz : rowsT cp f Rw) (hP : va_P g.1 vwCl (TW g ad q cp f Rw sl cnt h st LW wv) H) (hD : va_D A0 (TW g ad q cp f Rw sl cnt h st LW wv)) (hS : va_S A0 H0 H locs) (hA : ∀ q, H0.size ≤ q → A0 q)
    (hsz : ls.size = nL) (hrm : (rest.map fun v => v.category).sum ≤ 8) (hdg : decode cc pc = .ok (.invokevirtual index, 3)) (hf : cells + 0 ≤ R.cells ∧ slots + 0 ≤ R.slots)
    (kk : ∀ (q1 : Nat → Nat) (f1 : Nat → Nat → Int32) (H1 : Heap) (locs1 : List Loc), rowsT cp f1 (va_up Rw 5 (rCut (Rw 5) i)) → va_P g.1 vwCl (TW g ad q1 cp f1 (va_up Rw 5 (rCut (Rw 5) i)) sl cnt h st LW wv) H1 → va_D A0 (TW g ad q1 cp f1 (va_up Rw 5 (rCut (Rw 5) i)) sl cnt h st LW wv) → va_S A0 H0 H1 locs1 → W p l e R s m args below meth c H1 locs1 (cells + 0) (slots + 0) Q (F0 m (pc + 3) ls rest)) :
    W p l e R s m args below meth c H locs cells slots Q (F0 m pc ls (.int i :: .ref (ad 11) :: rest)) := by
  have hPc : va_P g.1 vwCl (rowW g (ad 11) (q 5) (cp 5) (f 5) (Rw 5).length) H := hP.sub [16, 17] rfl
  have hDc : va_D A0 (rowW g (ad 11) (q 5) (cp 5) (f 5) (Rw 5).length) := hD.sub [16, 17] (by decide) rfl
  refine rw_vQ (X := treeX g ad q cp f Rw sl cnt h st) (pl := plW LW wv) (wr := ([0, 1, 2, 3, 4, 5, 6, 7, 8, 9, 10, 11, 12, 13, 14, 15, 18, 19, 20, 21, 22, 23, 24, 25, 26, 27, 28, 29, 30, 31, 32, 33, 34, 35, 36, 37] : List Nat).filterMap (fun i => (treeX g ad q cp f Rw sl cnt h st)[i]?)) (va_runV (As := [.int i]) (rest := rest) S (cR_shorten l g H.size (ad 11) (q 5) (cp 5) (f 5) (Rw 5) (hz 5 (by decide)) i) (cwV 1 S.2.2.2.2 (g_V hl1 q_265 q_266 q_35 q_267) rfl rfl rfl hd_R_shorten hR) (rw_V hK hPc hDc (va_recv hK.1 hPc (ci := 0) (q0 := 0) rfl rfl)) rfl rfl hsz rfl (lv_room hrm) hdg hf) hP hD hS hA [16, 17] [0, 1, 2, 3, 4, 5, 6, 7, 8, 9, 10, 11, 12, 13, 14, 15, 18, 19, 20, 21, 22, 23, 24, 25, 26, 27, 28, 29, 30, 31, 32, 33, 34, 35, 36, 37] rfl rfl rfl (by decide) (by decide) (fun u H1 locs1 hw hP1 hD1 hS1 => ?_)
  exact kk (q) (f) H1 locs1 (rows_upR 5 hz hw) (pl_P (cx := treeX g ad q cp f (va_up Rw 5 (rCut (Rw 5) i)) sl cnt h st) hP1 [0, 1, 2, 3, 4, 5, 6, 7, 8, 9, 10, 11, 12, 13, 14, 15, 36, 37, 16, 17, 18, 19, 20, 21, 22, 23, 24, 25, 26, 27, 28, 29, 30, 31, 32, 33, 34, 35] rfl) (pl_D (cx := treeX g ad q cp f (va_up Rw 5 (rCut (Rw 5) i)) sl cnt h st) hD1 [0, 1, 2, 3, 4, 5, 6, 7, 8, 9, 10, 11, 12, 13, 14, 15, 36, 37, 16, 17, 18, 19, 20, 21, 22, 23, 24, 25, 26, 27, 28, 29, 30, 31, 32, 33, 34, 35] (by decide) rfl) hS1
set_option maxHeartbeats 4000000 in
set_option maxRecDepth 100000 in
theorem tr_cut_9 {i : Int32} (S : CallFix p m c cc nL s args wT "NodeMaker$Tree") (hl1 : Cond.methodLink "NodeMaker$Tree" index yR_shorten ∈ wT) (hR : 0 + 1 ≤ R.frames ∧ 8 + (2 + 11) + 0 ≤ R.locals) (hK : KK g s) (hz : rowsT cp f Rw) (hP : va_P g.1 vwCl (TW g ad q cp f Rw sl cnt h st LW wv) H) (hD : va_D A0 (TW g ad q cp f Rw sl cnt h st LW wv)) (hS : va_S A0 H0 H locs) (hA : ∀ q, H0.size ≤ q → A0 q)
    (hsz : ls.size = nL) (hrm : (rest.map fun v => v.category).sum ≤ 8) (hdg : decode cc pc = .ok (.invokevirtual index, 3)) (hf : cells + 0 ≤ R.cells ∧ slots + 0 ≤ R.slots)
    (kk : ∀ (q1 : Nat → Nat) (f1 : Nat → Nat → Int32) (H1 : Heap) (locs1 : List Loc), rowsT cp f1 (va_up Rw 9 (rCut (Rw 9) i)) → va_P g.1 vwCl (TW g ad q1 cp f1 (va_up Rw 9 (rCut (Rw 9) i)) sl cnt h st LW wv) H1 → va_D A0 (TW g ad q1 cp f1 (va_up Rw 9 (rCut (Rw 9) i)) sl cnt h st LW wv) → va_S A0 H0 H1 locs1 → W p l e R s m args below meth c H1 locs1 (cells + 0) (slots + 0) Q (F0 m (pc + 3) ls rest)) :
    W p l e R s m args below meth c H locs cells slots Q (F0 m pc ls (.int i :: .ref (ad 15) :: rest)) := by
  have hPc : va_P g.1 vwCl (rowW g (ad 15) (q 9) (cp 9) (f 9) (Rw 9).length) H := hP.sub [24, 25] rfl
  have hDc : va_D A0 (rowW g (ad 15) (q 9) (cp 9) (f 9) (Rw 9).length) := hD.sub [24, 25] (by decide) rfl
  refine rw_vQ (X := treeX g ad q cp f Rw sl cnt h st) (pl := plW LW wv) (wr := ([0, 1, 2, 3, 4, 5, 6, 7, 8, 9, 10, 11, 12, 13, 14, 15, 16, 17, 18, 19, 20, 21, 22, 23, 26, 27, 28, 29, 30, 31, 32, 33, 34, 35, 36, 37] : List Nat).filterMap (fun i => (treeX g ad q cp f Rw sl cnt h st)[i]?)) (va_runV (As := [.int i]) (rest := rest) S (cR_shorten l g H.size (ad 15) (q 9) (cp 9) (f 9) (Rw 9) (hz 9 (by decide)) i) (cwV 1 S.2.2.2.2 (g_V hl1 q_265 q_266 q_35 q_267) rfl rfl rfl hd_R_shorten hR) (rw_V hK hPc hDc (va_recv hK.1 hPc (ci := 0) (q0 := 0) rfl rfl)) rfl rfl hsz rfl (lv_room hrm) hdg hf) hP hD hS hA [24, 25] [0, 1, 2, 3, 4, 5, 6, 7, 8, 9, 10, 11, 12, 13, 14, 15, 16, 17, 18, 19, 20, 21, 22, 23, 26, 27, 28, 29, 30, 31, 32, 33, 34, 35, 36, 37] rfl rfl rfl (by decide) (by decide) (fun u H1 locs1 hw hP1 hD1 hS1 => ?_)
  exact kk (q) (f) H1 locs1 (rows_upR 9 hz hw) (pl_P (cx := treeX g ad q cp f (va_up Rw 9 (rCut (Rw 9) i)) sl cnt h st) hP1 [0, 1, 2, 3, 4, 5, 6, 7, 8, 9, 10, 11, 12, 13, 14, 15, 16, 17, 18, 19, 20, 21, 22, 23, 36, 37, 24, 25, 26, 27, 28, 29, 30, 31, 32, 33, 34, 35] rfl) (pl_D (cx := treeX g ad q cp f (va_up Rw 9 (rCut (Rw 9) i)) sl cnt h st) hD1 [0, 1, 2, 3, 4, 5, 6, 7, 8, 9, 10, 11, 12, 13, 14, 15, 16, 17, 18, 19, 20, 21, 22, 23, 36, 37, 24, 25, 26, 27, 28, 29, 30, 31, 32, 33, 34, 35] (by decide) rfl) hS1
set_option maxHeartbeats 4000000 in
set_option maxRecDepth 100000 in
theorem tp_add_6 {v0 : Int32} {v1 : Int32} {v2 : Int32} (S : CallFix p m c cc nL s args wT "NodeMaker$Tree") (hl1 : Cond.methodLink "NodeMaker$Tree" index yP_add ∈ wT) (hR : 3 + 1 ≤ R.frames ∧ 8 + (4 + 11) + 103 ≤ R.locals) (hK : KK g s) (hz : rowsT cp f Rw) (hP : va_P g.1 vwCl (TW g ad q cp f Rw sl cnt h st LW wv) H) (hD : va_D A0 (TW g ad q cp f Rw sl cnt h st LW wv)) (hS : va_S A0 H0 H locs) (hA : ∀ q, H0.size ≤ q → A0 q)
    (hsz : ls.size = nL) (hrm : (rest.map fun v => v.category).sum ≤ 8) (hdg : decode cc pc = .ok (.invokevirtual index, 3)) (hf : cells + (aUse (cp 6) (Rw 6) + aUse (cp 7) (Rw 7) + aUse (cp 8) (Rw 8)) ≤ R.cells ∧ slots + (aUse (cp 6) (Rw 6) + aUse (cp 7) (Rw 7) + aUse (cp 8) (Rw 8)) ≤ R.slots)
    (kk : ∀ (q1 : Nat → Nat) (f1 : Nat → Nat → Int32) (H1 : Heap) (locs1 : List Loc), rowsT (va_up (va_up (va_up cp 6 (aCap (cp 6) (Rw 6))) 7 (aCap (cp 7) (Rw 7))) 8 (aCap (cp 8) (Rw 8))) f1 (va_up (va_up (va_up Rw 6 (rAdd (Rw 6) v0)) 7 (rAdd (Rw 7) v1)) 8 (rAdd (Rw 8) v2)) → va_P g.1 vwCl (TW g ad q1 (va_up (va_up (va_up cp 6 (aCap (cp 6) (Rw 6))) 7 (aCap (cp 7) (Rw 7))) 8 (aCap (cp 8) (Rw 8))) f1 (va_up (va_up (va_up Rw 6 (rAdd (Rw 6) v0)) 7 (rAdd (Rw 7) v1)) 8 (rAdd (Rw 8) v2)) sl cnt h st LW wv) H1 → va_D A0 (TW g ad q1 (va_up (va_up (va_up cp 6 (aCap (cp 6) (Rw 6))) 7 (aCap (cp 7) (Rw 7))) 8 (aCap (cp 8) (Rw 8))) f1 (va_up (va_up (va_up Rw 6 (rAdd (Rw 6) v0)) 7 (rAdd (Rw 7) v1)) 8 (rAdd (Rw 8) v2)) sl cnt h st LW wv) → va_S A0 H0 H1 locs1 → W p l e R s m args below meth c H1 locs1 (cells + (aUse (cp 6) (Rw 6) + aUse (cp 7) (Rw 7) + aUse (cp 8) (Rw 8))) (slots + (aUse (cp 6) (Rw 6) + aUse (cp 7) (Rw 7) + aUse (cp 8) (Rw 8))) Q (F0 m (pc + 3) ls rest)) :
    W p l e R s m args below meth c H locs cells slots Q (F0 m pc ls (.int v2 :: .int v1 :: .int v0 :: .ref (ad 3) :: rest)) := by
  have hPc : va_P g.1 vwCl (piW g (ad 3) (fun k => ad (12 + k)) (fun k => q (6 + k)) (fun k => cp (6 + k)) (fun k => f (6 + k)) (fun k => (Rw (6 + k)).length)) H := hP.sub [3, 18, 19, 20, 21, 22, 23] rfl
  have hDc : va_D A0 (piW g (ad 3) (fun k => ad (12 + k)) (fun k => q (6 + k)) (fun k => cp (6 + k)) (fun k => f (6 + k)) (fun k => (Rw (6 + k)).length)) := hD.sub [3, 18, 19, 20, 21, 22, 23] (by decide) rfl
  refine rw_vQ (X := treeX g ad q cp f Rw sl cnt h st) (pl := plW LW wv) (wr := ([0, 1, 2, 4, 5, 6, 7, 8, 9, 10, 11, 12, 13, 14, 15, 16, 17, 24, 25, 26, 27, 28, 29, 30, 31, 32, 33, 34, 35, 36, 37] : List Nat).filterMap (fun i => (treeX g ad q cp f Rw sl cnt h st)[i]?)) (va_runV (As := [.int v0, .int v1, .int v2]) (rest := rest) S (cP_add l g H.size (ad 3) (fun k => ad (12 + k)) (fun k => q (6 + k)) (fun k => cp (6 + k)) (fun k => f (6 + k)) (fun k => Rw (6 + k)) (rows_3 6 (by decide) hz) v0 v1 v2) (cwV 3 S.2.2.2.2 (g_V hl1 q_275 q_276 q_36 q_277) rfl rfl rfl hd_P_add hR) (rw_V hK hPc hDc (va_recv hK.1 hPc (ci := 1) (q0 := 0) rfl rfl)) rfl rfl hsz rfl (lv_room hrm) hdg hf) hP hD hS hA [3, 18, 19, 20, 21, 22, 23] [0, 1, 2, 4, 5, 6, 7, 8, 9, 10, 11, 12, 13, 14, 15, 16, 17, 24, 25, 26, 27, 28, 29, 30, 31, 32, 33, 34, 35, 36, 37] rfl rfl rfl (by decide) (by decide) (fun u H1 locs1 hw hP1 hD1 hS1 => ?_)
  exact kk ((va_up (va_up (va_up q 6 (u.1 0)) 7 (u.1 1)) 8 (u.1 2))) ((va_up (va_up (va_up f 6 (u.2 0)) 7 (u.2 1)) 8 (u.2 2))) H1 locs1 (rows_up 8 (rows_up 7 (rows_up 6 hz (hw 0 (by decide))) (hw 1 (by decide))) (hw 2 (by decide))) (pl_P (cx := treeX g ad (va_up (va_up (va_up q 6 (u.1 0)) 7 (u.1 1)) 8 (u.1 2)) (va_up (va_up (va_up cp 6 (aCap (cp 6) (Rw 6))) 7 (aCap (cp 7) (Rw 7))) 8 (aCap (cp 8) (Rw 8))) (va_up (va_up (va_up f 6 (u.2 0)) 7 (u.2 1)) 8 (u.2 2)) (va_up (va_up (va_up Rw 6 (rAdd (Rw 6) v0)) 7 (rAdd (Rw 7) v1)) 8 (rAdd (Rw 8) v2)) sl cnt h st) hP1 [0, 1, 2, 31, 3, 4, 5, 6, 7, 8, 9, 10, 11, 12, 13, 14, 15, 16, 32, 33, 34, 35, 36, 37, 17, 18, 19, 20, 21, 22, 23, 24, 25, 26, 27, 28, 29, 30] rfl) (pl_D (cx := treeX g ad (va_up (va_up (va_up q 6 (u.1 0)) 7 (u.1 1)) 8 (u.1 2)) (va_up (va_up (va_up cp 6 (aCap (cp 6) (Rw 6))) 7 (aCap (cp 7) (Rw 7))) 8 (aCap (cp 8) (Rw 8))) (va_up (va_up (va_up f 6 (u.2 0)) 7 (u.2 1)) 8 (u.2 2)) (va_up (va_up (va_up Rw 6 (rAdd (Rw 6) v0)) 7 (rAdd (Rw 7) v1)) 8 (rAdd (Rw 8) v2)) sl cnt h st) hD1 [0, 1, 2, 31, 3, 4, 5, 6, 7, 8, 9, 10, 11, 12, 13, 14, 15, 16, 32, 33, 34, 35, 36, 37, 17, 18, 19, 20, 21, 22, 23, 24, 25, 26, 27, 28, 29, 30] (by decide) rfl) hS1
set_option maxHeartbeats 4000000 in
set_option maxRecDepth 100000 in
theorem tp_cut_6 {i : Int32} (S : CallFix p m c cc nL s args wT "NodeMaker$Tree") (hl1 : Cond.methodLink "NodeMaker$Tree" index yP_shorten ∈ wT) (hR : 1 + 1 ≤ R.frames ∧ 8 + (2 + 11) + 21 ≤ R.locals) (hK : KK g s) (hz : rowsT cp f Rw) (hP : va_P g.1 vwCl (TW g ad q cp f Rw sl cnt h st LW wv) H) (hD : va_D A0 (TW g ad q cp f Rw sl cnt h st LW wv)) (hS : va_S A0 H0 H locs) (hA : ∀ q, H0.size ≤ q → A0 q)
    (hsz : ls.size = nL) (hrm : (rest.map fun v => v.category).sum ≤ 8) (hdg : decode cc pc = .ok (.invokevirtual index, 3)) (hf : cells + 0 ≤ R.cells ∧ slots + 0 ≤ R.slots)
    (kk : ∀ (q1 : Nat → Nat) (f1 : Nat → Nat → Int32) (H1 : Heap) (locs1 : List Loc), rowsT cp f1 (va_up (va_up (va_up Rw 6 (rCut (Rw 6) i)) 7 (rCut (Rw 7) i)) 8 (rCut (Rw 8) i)) → va_P g.1 vwCl (TW g ad q1 cp f1 (va_up (va_up (va_up Rw 6 (rCut (Rw 6) i)) 7 (rCut (Rw 7) i)) 8 (rCut (Rw 8) i)) sl cnt h st LW wv) H1 → va_D A0 (TW g ad q1 cp f1 (va_up (va_up (va_up Rw 6 (rCut (Rw 6) i)) 7 (rCut (Rw 7) i)) 8 (rCut (Rw 8) i)) sl cnt h st LW wv) → va_S A0 H0 H1 locs1 → W p l e R s m args below meth c H1 locs1 (cells + 0) (slots + 0) Q (F0 m (pc + 3) ls rest)) :
    W p l e R s m args below meth c H locs cells slots Q (F0 m pc ls (.int i :: .ref (ad 3) :: rest)) := by
  have hPc : va_P g.1 vwCl (piW g (ad 3) (fun k => ad (12 + k)) (fun k => q (6 + k)) (fun k => cp (6 + k)) (fun k => f (6 + k)) (fun k => (Rw (6 + k)).length)) H := hP.sub [3, 18, 19, 20, 21, 22, 23] rfl
  have hDc : va_D A0 (piW g (ad 3) (fun k => ad (12 + k)) (fun k => q (6 + k)) (fun k => cp (6 + k)) (fun k => f (6 + k)) (fun k => (Rw (6 + k)).length)) := hD.sub [3, 18, 19, 20, 21, 22, 23] (by decide) rfl
  refine rw_vQ (X := treeX g ad q cp f Rw sl cnt h st) (pl := plW LW wv) (wr := ([0, 1, 2, 4, 5, 6, 7, 8, 9, 10, 11, 12, 13, 14, 15, 16, 17, 24, 25, 26, 27, 28, 29, 30, 31, 32, 33, 34, 35, 36, 37] : List Nat).filterMap (fun i => (treeX g ad q cp f Rw sl cnt h st)[i]?)) (va_runV (As := [.int i]) (rest := rest) S (cP_shorten l g H.size (ad 3) (fun k => ad (12 + k)) (fun k => q (6 + k)) (fun k => cp (6 + k)) (fun k => f (6 + k)) (fun k => Rw (6 + k)) (rows_3 6 (by decide) hz) i) (cwV 1 S.2.2.2.2 (g_V hl1 q_269 q_270 q_36 q_271) rfl rfl rfl hd_P_shorten hR) (rw_V hK hPc hDc (va_recv hK.1 hPc (ci := 1) (q0 := 0) rfl rfl)) rfl rfl hsz rfl (lv_room hrm) hdg hf) hP hD hS hA [3, 18, 19, 20, 21, 22, 23] [0, 1, 2, 4, 5, 6, 7, 8, 9, 10, 11, 12, 13, 14, 15, 16, 17, 24, 25, 26, 27, 28, 29, 30, 31, 32, 33, 34, 35, 36, 37] rfl rfl rfl (by decide) (by decide) (fun u H1 locs1 hw hP1 hD1 hS1 => ?_)
  exact kk (q) (f) H1 locs1 (rows_upR 8 (rows_upR 7 (rows_upR 6 hz (hw 0 (by decide))) (hw 1 (by decide))) (hw 2 (by decide))) (pl_P (cx := treeX g ad q cp f (va_up (va_up (va_up Rw 6 (rCut (Rw 6) i)) 7 (rCut (Rw 7) i)) 8 (rCut (Rw 8) i)) sl cnt h st) hP1 [0, 1, 2, 31, 3, 4, 5, 6, 7, 8, 9, 10, 11, 12, 13, 14, 15, 16, 32, 33, 34, 35, 36, 37, 17, 18, 19, 20, 21, 22, 23, 24, 25, 26, 27, 28, 29, 30] rfl) (pl_D (cx := treeX g ad q cp f (va_up (va_up (va_up Rw 6 (rCut (Rw 6) i)) 7 (rCut (Rw 7) i)) 8 (rCut (Rw 8) i)) sl cnt h st) hD1 [0, 1, 2, 31, 3, 4, 5, 6, 7, 8, 9, 10, 11, 12, 13, 14, 15, 16, 32, 33, 34, 35, 36, 37, 17, 18, 19, 20, 21, 22, 23, 24, 25, 26, 27, 28, 29, 30] (by decide) rfl) hS1
set_option maxHeartbeats 4000000 in
set_option maxRecDepth 100000 in
theorem tp_add_10 {v0 : Int32} {v1 : Int32} {v2 : Int32} (S : CallFix p m c cc nL s args wT "NodeMaker$Tree") (hl1 : Cond.methodLink "NodeMaker$Tree" index yP_add ∈ wT) (hR : 3 + 1 ≤ R.frames ∧ 8 + (4 + 11) + 103 ≤ R.locals) (hK : KK g s) (hz : rowsT cp f Rw) (hP : va_P g.1 vwCl (TW g ad q cp f Rw sl cnt h st LW wv) H) (hD : va_D A0 (TW g ad q cp f Rw sl cnt h st LW wv)) (hS : va_S A0 H0 H locs) (hA : ∀ q, H0.size ≤ q → A0 q)
    (hsz : ls.size = nL) (hrm : (rest.map fun v => v.category).sum ≤ 8) (hdg : decode cc pc = .ok (.invokevirtual index, 3)) (hf : cells + (aUse (cp 10) (Rw 10) + aUse (cp 11) (Rw 11) + aUse (cp 12) (Rw 12)) ≤ R.cells ∧ slots + (aUse (cp 10) (Rw 10) + aUse (cp 11) (Rw 11) + aUse (cp 12) (Rw 12)) ≤ R.slots)
    (kk : ∀ (q1 : Nat → Nat) (f1 : Nat → Nat → Int32) (H1 : Heap) (locs1 : List Loc), rowsT (va_up (va_up (va_up cp 10 (aCap (cp 10) (Rw 10))) 11 (aCap (cp 11) (Rw 11))) 12 (aCap (cp 12) (Rw 12))) f1 (va_up (va_up (va_up Rw 10 (rAdd (Rw 10) v0)) 11 (rAdd (Rw 11) v1)) 12 (rAdd (Rw 12) v2)) → va_P g.1 vwCl (TW g ad q1 (va_up (va_up (va_up cp 10 (aCap (cp 10) (Rw 10))) 11 (aCap (cp 11) (Rw 11))) 12 (aCap (cp 12) (Rw 12))) f1 (va_up (va_up (va_up Rw 10 (rAdd (Rw 10) v0)) 11 (rAdd (Rw 11) v1)) 12 (rAdd (Rw 12) v2)) sl cnt h st LW wv) H1 → va_D A0 (TW g ad q1 (va_up (va_up (va_up cp 10 (aCap (cp 10) (Rw 10))) 11 (aCap (cp 11) (Rw 11))) 12 (aCap (cp 12) (Rw 12))) f1 (va_up (va_up (va_up Rw 10 (rAdd (Rw 10) v0)) 11 (rAdd (Rw 11) v1)) 12 (rAdd (Rw 12) v2)) sl cnt h st LW wv) → va_S A0 H0 H1 locs1 → W p l e R s m args below meth c H1 locs1 (cells + (aUse (cp 10) (Rw 10) + aUse (cp 11) (Rw 11) + aUse (cp 12) (Rw 12))) (slots + (aUse (cp 10) (Rw 10) + aUse (cp 11) (Rw 11) + aUse (cp 12) (Rw 12))) Q (F0 m (pc + 3) ls rest)) :
    W p l e R s m args below meth c H locs cells slots Q (F0 m pc ls (.int v2 :: .int v1 :: .int v0 :: .ref (ad 4) :: rest)) := by
  have hPc : va_P g.1 vwCl (piW g (ad 4) (fun k => ad (16 + k)) (fun k => q (10 + k)) (fun k => cp (10 + k)) (fun k => f (10 + k)) (fun k => (Rw (10 + k)).length)) H := hP.sub [4, 26, 27, 28, 29, 30, 31] rfl
  have hDc : va_D A0 (piW g (ad 4) (fun k => ad (16 + k)) (fun k => q (10 + k)) (fun k => cp (10 + k)) (fun k => f (10 + k)) (fun k => (Rw (10 + k)).length)) := hD.sub [4, 26, 27, 28, 29, 30, 31] (by decide) rfl
  refine rw_vQ (X := treeX g ad q cp f Rw sl cnt h st) (pl := plW LW wv) (wr := ([0, 1, 2, 3, 5, 6, 7, 8, 9, 10, 11, 12, 13, 14, 15, 16, 17, 18, 19, 20, 21, 22, 23, 24, 25, 32, 33, 34, 35, 36, 37] : List Nat).filterMap (fun i => (treeX g ad q cp f Rw sl cnt h st)[i]?)) (va_runV (As := [.int v0, .int v1, .int v2]) (rest := rest) S (cP_add l g H.size (ad 4) (fun k => ad (16 + k)) (fun k => q (10 + k)) (fun k => cp (10 + k)) (fun k => f (10 + k)) (fun k => Rw (10 + k)) (rows_3 10 (by decide) hz) v0 v1 v2) (cwV 3 S.2.2.2.2 (g_V hl1 q_275 q_276 q_36 q_277) rfl rfl rfl hd_P_add hR) (rw_V hK hPc hDc (va_recv hK.1 hPc (ci := 1) (q0 := 0) rfl rfl)) rfl rfl hsz rfl (lv_room hrm) hdg hf) hP hD hS hA [4, 26, 27, 28, 29, 30, 31] [0, 1, 2, 3, 5, 6, 7, 8, 9, 10, 11, 12, 13, 14, 15, 16, 17, 18, 19, 20, 21, 22, 23, 24, 25, 32, 33, 34, 35, 36, 37] rfl rfl rfl (by decide) (by decide) (fun u H1 locs1 hw hP1 hD1 hS1 => ?_)
  exact kk ((va_up (va_up (va_up q 10 (u.1 0)) 11 (u.1 1)) 12 (u.1 2))) ((va_up (va_up (va_up f 10 (u.2 0)) 11 (u.2 1)) 12 (u.2 2))) H1 locs1 (rows_up 12 (rows_up 11 (rows_up 10 hz (hw 0 (by decide))) (hw 1 (by decide))) (hw 2 (by decide))) (pl_P (cx := treeX g ad (va_up (va_up (va_up q 10 (u.1 0)) 11 (u.1 1)) 12 (u.1 2)) (va_up (va_up (va_up cp 10 (aCap (cp 10) (Rw 10))) 11 (aCap (cp 11) (Rw 11))) 12 (aCap (cp 12) (Rw 12))) (va_up (va_up (va_up f 10 (u.2 0)) 11 (u.2 1)) 12 (u.2 2)) (va_up (va_up (va_up Rw 10 (rAdd (Rw 10) v0)) 11 (rAdd (Rw 11) v1)) 12 (rAdd (Rw 12) v2)) sl cnt h st) hP1 [0, 1, 2, 3, 31, 4, 5, 6, 7, 8, 9, 10, 11, 12, 13, 14, 15, 16, 17, 18, 19, 20, 21, 22, 23, 24, 32, 33, 34, 35, 36, 37, 25, 26, 27, 28, 29, 30] rfl) (pl_D (cx := treeX g ad (va_up (va_up (va_up q 10 (u.1 0)) 11 (u.1 1)) 12 (u.1 2)) (va_up (va_up (va_up cp 10 (aCap (cp 10) (Rw 10))) 11 (aCap (cp 11) (Rw 11))) 12 (aCap (cp 12) (Rw 12))) (va_up (va_up (va_up f 10 (u.2 0)) 11 (u.2 1)) 12 (u.2 2)) (va_up (va_up (va_up Rw 10 (rAdd (Rw 10) v0)) 11 (rAdd (Rw 11) v1)) 12 (rAdd (Rw 12) v2)) sl cnt h st) hD1 [0, 1, 2, 3, 31, 4, 5, 6, 7, 8, 9, 10, 11, 12, 13, 14, 15, 16, 17, 18, 19, 20, 21, 22, 23, 24, 32, 33, 34, 35, 36, 37, 25, 26, 27, 28, 29, 30] (by decide) rfl) hS1
set_option maxHeartbeats 4000000 in
set_option maxRecDepth 100000 in
theorem tp_cut_10 {i : Int32} (S : CallFix p m c cc nL s args wT "NodeMaker$Tree") (hl1 : Cond.methodLink "NodeMaker$Tree" index yP_shorten ∈ wT) (hR : 1 + 1 ≤ R.frames ∧ 8 + (2 + 11) + 21 ≤ R.locals) (hK : KK g s) (hz : rowsT cp f Rw) (hP : va_P g.1 vwCl (TW g ad q cp f Rw sl cnt h st LW wv) H) (hD : va_D A0 (TW g ad q cp f Rw sl cnt h st LW wv)) (hS : va_S A0 H0 H locs) (hA : ∀ q, H0.size ≤ q → A0 q)
    (hsz : ls.size = nL) (hrm : (rest.map fun v => v.category).sum ≤ 8) (hdg : decode cc pc = .ok (.invokevirtual index, 3)) (hf : cells + 0 ≤ R.cells ∧ slots + 0 ≤ R.slots)
    (kk : ∀ (q1 : Nat → Nat) (f1 : Nat → Nat → Int32) (H1 : Heap) (locs1 : List Loc), rowsT cp f1 (va_up (va_up (va_up Rw 10 (rCut (Rw 10) i)) 11 (rCut (Rw 11) i)) 12 (rCut (Rw 12) i)) → va_P g.1 vwCl (TW g ad q1 cp f1 (va_up (va_up (va_up Rw 10 (rCut (Rw 10) i)) 11 (rCut (Rw 11) i)) 12 (rCut (Rw 12) i)) sl cnt h st LW wv) H1 → va_D A0 (TW g ad q1 cp f1 (va_up (va_up (va_up Rw 10 (rCut (Rw 10) i)) 11 (rCut (Rw 11) i)) 12 (rCut (Rw 12) i)) sl cnt h st LW wv) → va_S A0 H0 H1 locs1 → W p l e R s m args below meth c H1 locs1 (cells + 0) (slots + 0) Q (F0 m (pc + 3) ls rest)) :
    W p l e R s m args below meth c H locs cells slots Q (F0 m pc ls (.int i :: .ref (ad 4) :: rest)) := by
  have hPc : va_P g.1 vwCl (piW g (ad 4) (fun k => ad (16 + k)) (fun k => q (10 + k)) (fun k => cp (10 + k)) (fun k => f (10 + k)) (fun k => (Rw (10 + k)).length)) H := hP.sub [4, 26, 27, 28, 29, 30, 31] rfl
  have hDc : va_D A0 (piW g (ad 4) (fun k => ad (16 + k)) (fun k => q (10 + k)) (fun k => cp (10 + k)) (fun k => f (10 + k)) (fun k => (Rw (10 + k)).length)) := hD.sub [4, 26, 27, 28, 29, 30, 31] (by decide) rfl
  refine rw_vQ (X := treeX g ad q cp f Rw sl cnt h st) (pl := plW LW wv) (wr := ([0, 1, 2, 3, 5, 6, 7, 8, 9, 10, 11, 12, 13, 14, 15, 16, 17, 18, 19, 20, 21, 22, 23, 24, 25, 32, 33, 34, 35, 36, 37] : List Nat).filterMap (fun i => (treeX g ad q cp f Rw sl cnt h st)[i]?)) (va_runV (As := [.int i]) (rest := rest) S (cP_shorten l g H.size (ad 4) (fun k => ad (16 + k)) (fun k => q (10 + k)) (fun k => cp (10 + k)) (fun k => f (10 + k)) (fun k => Rw (10 + k)) (rows_3 10 (by decide) hz) i) (cwV 1 S.2.2.2.2 (g_V hl1 q_269 q_270 q_36 q_271) rfl rfl rfl hd_P_shorten hR) (rw_V hK hPc hDc (va_recv hK.1 hPc (ci := 1) (q0 := 0) rfl rfl)) rfl rfl hsz rfl (lv_room hrm) hdg hf) hP hD hS hA [4, 26, 27, 28, 29, 30, 31] [0, 1, 2, 3, 5, 6, 7, 8, 9, 10, 11, 12, 13, 14, 15, 16, 17, 18, 19, 20, 21, 22, 23, 24, 25, 32, 33, 34, 35, 36, 37] rfl rfl rfl (by decide) (by decide) (fun u H1 locs1 hw hP1 hD1 hS1 => ?_)
  exact kk (q) (f) H1 locs1 (rows_upR 12 (rows_upR 11 (rows_upR 10 hz (hw 0 (by decide))) (hw 1 (by decide))) (hw 2 (by decide))) (pl_P (cx := treeX g ad q cp f (va_up (va_up (va_up Rw 10 (rCut (Rw 10) i)) 11 (rCut (Rw 11) i)) 12 (rCut (Rw 12) i)) sl cnt h st) hP1 [0, 1, 2, 3, 31, 4, 5, 6, 7, 8, 9, 10, 11, 12, 13, 14, 15, 16, 17, 18, 19, 20, 21, 22, 23, 24, 32, 33, 34, 35, 36, 37, 25, 26, 27, 28, 29, 30] rfl) (pl_D (cx := treeX g ad q cp f (va_up (va_up (va_up Rw 10 (rCut (Rw 10) i)) 11 (rCut (Rw 11) i)) 12 (rCut (Rw 12) i)) sl cnt h st) hD1 [0, 1, 2, 3, 31, 4, 5, 6, 7, 8, 9, 10, 11, 12, 13, 14, 15, 16, 17, 18, 19, 20, 21, 22, 23, 24, 32, 33, 34, 35, 36, 37, 25, 26, 27, 28, 29, 30] (by decide) rfl) hS1
set_option maxHeartbeats 4000000 in
set_option maxRecDepth 100000 in
theorem tp_set_10 {i : Int32} {v0 : Int32} {v1 : Int32} {v2 : Int32} (S : CallFix p m c cc nL s args wT "NodeMaker$Tree") (hl1 : Cond.methodLink "NodeMaker$Tree" index yP_set ∈ wT) (hR : 1 + 1 ≤ R.frames ∧ 8 + (5 + 11) + 22 ≤ R.locals) (hK : KK g s) (hz : rowsT cp f Rw) (hP : va_P g.1 vwCl (TW g ad q cp f Rw sl cnt h st LW wv) H) (hD : va_D A0 (TW g ad q cp f Rw sl cnt h st LW wv)) (hS : va_S A0 H0 H locs) (hA : ∀ q, H0.size ≤ q → A0 q)
    (hsz : ls.size = nL) (hrm : (rest.map fun v => v.category).sum ≤ 8) (hdg : decode cc pc = .ok (.invokevirtual index, 3)) (hf : cells + 0 ≤ R.cells ∧ slots + 0 ≤ R.slots)
    (kk : ∀ (q1 : Nat → Nat) (f1 : Nat → Nat → Int32) (H1 : Heap) (locs1 : List Loc), rowsT cp f1 (va_up (va_up (va_up Rw 10 (rSet (Rw 10) i v0)) 11 (rSet (Rw 11) i v1)) 12 (rSet (Rw 12) i v2)) → va_P g.1 vwCl (TW g ad q1 cp f1 (va_up (va_up (va_up Rw 10 (rSet (Rw 10) i v0)) 11 (rSet (Rw 11) i v1)) 12 (rSet (Rw 12) i v2)) sl cnt h st LW wv) H1 → va_D A0 (TW g ad q1 cp f1 (va_up (va_up (va_up Rw 10 (rSet (Rw 10) i v0)) 11 (rSet (Rw 11) i v1)) 12 (rSet (Rw 12) i v2)) sl cnt h st LW wv) → va_S A0 H0 H1 locs1 → W p l e R s m args below meth c H1 locs1 (cells + 0) (slots + 0) Q (F0 m (pc + 3) ls rest)) :
    W p l e R s m args below meth c H locs cells slots Q (F0 m pc ls (.int v2 :: .int v1 :: .int v0 :: .int i :: .ref (ad 4) :: rest)) := by
  have hPc : va_P g.1 vwCl (piW g (ad 4) (fun k => ad (16 + k)) (fun k => q (10 + k)) (fun k => cp (10 + k)) (fun k => f (10 + k)) (fun k => (Rw (10 + k)).length)) H := hP.sub [4, 26, 27, 28, 29, 30, 31] rfl
  have hDc : va_D A0 (piW g (ad 4) (fun k => ad (16 + k)) (fun k => q (10 + k)) (fun k => cp (10 + k)) (fun k => f (10 + k)) (fun k => (Rw (10 + k)).length)) := hD.sub [4, 26, 27, 28, 29, 30, 31] (by decide) rfl
  refine rw_vQ (X := treeX g ad q cp f Rw sl cnt h st) (pl := plW LW wv) (wr := ([0, 1, 2, 3, 5, 6, 7, 8, 9, 10, 11, 12, 13, 14, 15, 16, 17, 18, 19, 20, 21, 22, 23, 24, 25, 32, 33, 34, 35, 36, 37] : List Nat).filterMap (fun i => (treeX g ad q cp f Rw sl cnt h st)[i]?)) (va_runV (As := [.int i, .int v0, .int v1, .int v2]) (rest := rest) S (cP_set l g H.size (ad 4) (fun k => ad (16 + k)) (fun k => q (10 + k)) (fun k => cp (10 + k)) (fun k => f (10 + k)) (fun k => Rw (10 + k)) (rows_3 10 (by decide) hz) i v0 v1 v2) (cwV 4 S.2.2.2.2 (g_V hl1 q_358 q_359 q_36 q_360) rfl rfl rfl hd_P_set hR) (rw_V hK hPc hDc (va_recv hK.1 hPc (ci := 1) (q0 := 0) rfl rfl)) rfl rfl hsz rfl (lv_room hrm) hdg hf) hP hD hS hA [4, 26, 27, 28, 29, 30, 31] [0, 1, 2, 3, 5, 6, 7, 8, 9, 10, 11, 12, 13, 14, 15, 16, 17, 18, 19, 20, 21, 22, 23, 24, 25, 32, 33, 34, 35, 36, 37] rfl rfl rfl (by decide) (by decide) (fun u H1 locs1 hw hP1 hD1 hS1 => ?_)
  exact kk (q) ((va_up (va_up (va_up f 10 (u 0)) 11 (u 1)) 12 (u 2))) H1 locs1 (rows_upL 12 (rows_upL 11 (rows_upL 10 hz (hw 0 (by decide))) (hw 1 (by decide))) (hw 2 (by decide))) (pl_P (cx := treeX g ad q cp (va_up (va_up (va_up f 10 (u 0)) 11 (u 1)) 12 (u 2)) (va_up (va_up (va_up Rw 10 (rSet (Rw 10) i v0)) 11 (rSet (Rw 11) i v1)) 12 (rSet (Rw 12) i v2)) sl cnt h st) hP1 [0, 1, 2, 3, 31, 4, 5, 6, 7, 8, 9, 10, 11, 12, 13, 14, 15, 16, 17, 18, 19, 20, 21, 22, 23, 24, 32, 33, 34, 35, 36, 37, 25, 26, 27, 28, 29, 30] rfl) (pl_D (cx := treeX g ad q cp (va_up (va_up (va_up f 10 (u 0)) 11 (u 1)) 12 (u 2)) (va_up (va_up (va_up Rw 10 (rSet (Rw 10) i v0)) 11 (rSet (Rw 11) i v1)) 12 (rSet (Rw 12) i v2)) sl cnt h st) hD1 [0, 1, 2, 3, 31, 4, 5, 6, 7, 8, 9, 10, 11, 12, 13, 14, 15, 16, 17, 18, 19, 20, 21, 22, 23, 24, 32, 33, 34, 35, 36, 37, 25, 26, 27, 28, 29, 30] (by decide) rfl) hS1
set_option maxHeartbeats 4000000 in
set_option maxRecDepth 100000 in
theorem tp_add_13 {v0 : Int32} {v1 : Int32} {v2 : Int32} (S : CallFix p m c cc nL s args wT "NodeMaker$Tree") (hl1 : Cond.methodLink "NodeMaker$Tree" index yP_add ∈ wT) (hR : 3 + 1 ≤ R.frames ∧ 8 + (4 + 11) + 103 ≤ R.locals) (hK : KK g s) (hz : rowsT cp f Rw) (hP : va_P g.1 vwCl (TW g ad q cp f Rw sl cnt h st LW wv) H) (hD : va_D A0 (TW g ad q cp f Rw sl cnt h st LW wv)) (hS : va_S A0 H0 H locs) (hA : ∀ q, H0.size ≤ q → A0 q)
    (hsz : ls.size = nL) (hrm : (rest.map fun v => v.category).sum ≤ 8) (hdg : decode cc pc = .ok (.invokevirtual index, 3)) (hf : cells + (aUse (cp 13) (Rw 13) + aUse (cp 14) (Rw 14) + aUse (cp 15) (Rw 15)) ≤ R.cells ∧ slots + (aUse (cp 13) (Rw 13) + aUse (cp 14) (Rw 14) + aUse (cp 15) (Rw 15)) ≤ R.slots)
    (kk : ∀ (q1 : Nat → Nat) (f1 : Nat → Nat → Int32) (H1 : Heap) (locs1 : List Loc), rowsT (va_up (va_up (va_up cp 13 (aCap (cp 13) (Rw 13))) 14 (aCap (cp 14) (Rw 14))) 15 (aCap (cp 15) (Rw 15))) f1 (va_up (va_up (va_up Rw 13 (rAdd (Rw 13) v0)) 14 (rAdd (Rw 14) v1)) 15 (rAdd (Rw 15) v2)) → va_P g.1 vwCl (TW g ad q1 (va_up (va_up (va_up cp 13 (aCap (cp 13) (Rw 13))) 14 (aCap (cp 14) (Rw 14))) 15 (aCap (cp 15) (Rw 15))) f1 (va_up (va_up (va_up Rw 13 (rAdd (Rw 13) v0)) 14 (rAdd (Rw 14) v1)) 15 (rAdd (Rw 15) v2)) sl cnt h st LW wv) H1 → va_D A0 (TW g ad q1 (va_up (va_up (va_up cp 13 (aCap (cp 13) (Rw 13))) 14 (aCap (cp 14) (Rw 14))) 15 (aCap (cp 15) (Rw 15))) f1 (va_up (va_up (va_up Rw 13 (rAdd (Rw 13) v0)) 14 (rAdd (Rw 14) v1)) 15 (rAdd (Rw 15) v2)) sl cnt h st LW wv) → va_S A0 H0 H1 locs1 → W p l e R s m args below meth c H1 locs1 (cells + (aUse (cp 13) (Rw 13) + aUse (cp 14) (Rw 14) + aUse (cp 15) (Rw 15))) (slots + (aUse (cp 13) (Rw 13) + aUse (cp 14) (Rw 14) + aUse (cp 15) (Rw 15))) Q (F0 m (pc + 3) ls rest)) :
    W p l e R s m args below meth c H locs cells slots Q (F0 m pc ls (.int v2 :: .int v1 :: .int v0 :: .ref (ad 5) :: rest)) := by
  have hPc : va_P g.1 vwCl (piW g (ad 5) (fun k => ad (19 + k)) (fun k => q (13 + k)) (fun k => cp (13 + k)) (fun k => f (13 + k)) (fun k => (Rw (13 + k)).length)) H := hP.sub [5, 32, 33, 34, 35, 36, 37] rfl
  have hDc : va_D A0 (piW g (ad 5) (fun k => ad (19 + k)) (fun k => q (13 + k)) (fun k => cp (13 + k)) (fun k => f (13 + k)) (fun k => (Rw (13 + k)).length)) := hD.sub [5, 32, 33, 34, 35, 36, 37] (by decide) rfl
  refine rw_vQ (X := treeX g ad q cp f Rw sl cnt h st) (pl := plW LW wv) (wr := ([0, 1, 2, 3, 4, 6, 7, 8, 9, 10, 11, 12, 13, 14, 15, 16, 17, 18, 19, 20, 21, 22, 23, 24, 25, 26, 27, 28, 29, 30, 31] : List Nat).filterMap (fun i => (treeX g ad q cp f Rw sl cnt h st)[i]?)) (va_runV (As := [.int v0, .int v1, .int v2]) (rest := rest) S (cP_add l g H.size (ad 5) (fun k => ad (19 + k)) (fun k => q (13 + k)) (fun k => cp (13 + k)) (fun k => f (13 + k)) (fun k => Rw (13 + k)) (rows_3 13 (by decide) hz) v0 v1 v2) (cwV 3 S.2.2.2.2 (g_V hl1 q_275 q_276 q_36 q_277) rfl rfl rfl hd_P_add hR) (rw_V hK hPc hDc (va_recv hK.1 hPc (ci := 1) (q0 := 0) rfl rfl)) rfl rfl hsz rfl (lv_room hrm) hdg hf) hP hD hS hA [5, 32, 33, 34, 35, 36, 37] [0, 1, 2, 3, 4, 6, 7, 8, 9, 10, 11, 12, 13, 14, 15, 16, 17, 18, 19, 20, 21, 22, 23, 24, 25, 26, 27, 28, 29, 30, 31] rfl rfl rfl (by decide) (by decide) (fun u H1 locs1 hw hP1 hD1 hS1 => ?_)
  exact kk ((va_up (va_up (va_up q 13 (u.1 0)) 14 (u.1 1)) 15 (u.1 2))) ((va_up (va_up (va_up f 13 (u.2 0)) 14 (u.2 1)) 15 (u.2 2))) H1 locs1 (rows_up 15 (rows_up 14 (rows_up 13 hz (hw 0 (by decide))) (hw 1 (by decide))) (hw 2 (by decide))) (pl_P (cx := treeX g ad (va_up (va_up (va_up q 13 (u.1 0)) 14 (u.1 1)) 15 (u.1 2)) (va_up (va_up (va_up cp 13 (aCap (cp 13) (Rw 13))) 14 (aCap (cp 14) (Rw 14))) 15 (aCap (cp 15) (Rw 15))) (va_up (va_up (va_up f 13 (u.2 0)) 14 (u.2 1)) 15 (u.2 2)) (va_up (va_up (va_up Rw 13 (rAdd (Rw 13) v0)) 14 (rAdd (Rw 14) v1)) 15 (rAdd (Rw 15) v2)) sl cnt h st) hP1 [0, 1, 2, 3, 4, 31, 5, 6, 7, 8, 9, 10, 11, 12, 13, 14, 15, 16, 17, 18, 19, 20, 21, 22, 23, 24, 25, 26, 27, 28, 29, 30, 32, 33, 34, 35, 36, 37] rfl) (pl_D (cx := treeX g ad (va_up (va_up (va_up q 13 (u.1 0)) 14 (u.1 1)) 15 (u.1 2)) (va_up (va_up (va_up cp 13 (aCap (cp 13) (Rw 13))) 14 (aCap (cp 14) (Rw 14))) 15 (aCap (cp 15) (Rw 15))) (va_up (va_up (va_up f 13 (u.2 0)) 14 (u.2 1)) 15 (u.2 2)) (va_up (va_up (va_up Rw 13 (rAdd (Rw 13) v0)) 14 (rAdd (Rw 14) v1)) 15 (rAdd (Rw 15) v2)) sl cnt h st) hD1 [0, 1, 2, 3, 4, 31, 5, 6, 7, 8, 9, 10, 11, 12, 13, 14, 15, 16, 17, 18, 19, 20, 21, 22, 23, 24, 25, 26, 27, 28, 29, 30, 32, 33, 34, 35, 36, 37] (by decide) rfl) hS1
set_option maxHeartbeats 4000000 in
set_option maxRecDepth 100000 in
theorem tp_cut_13 {i : Int32} (S : CallFix p m c cc nL s args wT "NodeMaker$Tree") (hl1 : Cond.methodLink "NodeMaker$Tree" index yP_shorten ∈ wT) (hR : 1 + 1 ≤ R.frames ∧ 8 + (2 + 11) + 21 ≤ R.locals) (hK : KK g s) (hz : rowsT cp f Rw) (hP : va_P g.1 vwCl (TW g ad q cp f Rw sl cnt h st LW wv) H) (hD : va_D A0 (TW g ad q cp f Rw sl cnt h st LW wv)) (hS : va_S A0 H0 H locs) (hA : ∀ q, H0.size ≤ q → A0 q)
    (hsz : ls.size = nL) (hrm : (rest.map fun v => v.category).sum ≤ 8) (hdg : decode cc pc = .ok (.invokevirtual index, 3)) (hf : cells + 0 ≤ R.cells ∧ slots + 0 ≤ R.slots)
    (kk : ∀ (q1 : Nat → Nat) (f1 : Nat → Nat → Int32) (H1 : Heap) (locs1 : List Loc), rowsT cp f1 (va_up (va_up (va_up Rw 13 (rCut (Rw 13) i)) 14 (rCut (Rw 14) i)) 15 (rCut (Rw 15) i)) → va_P g.1 vwCl (TW g ad q1 cp f1 (va_up (va_up (va_up Rw 13 (rCut (Rw 13) i)) 14 (rCut (Rw 14) i)) 15 (rCut (Rw 15) i)) sl cnt h st LW wv) H1 → va_D A0 (TW g ad q1 cp f1 (va_up (va_up (va_up Rw 13 (rCut (Rw 13) i)) 14 (rCut (Rw 14) i)) 15 (rCut (Rw 15) i)) sl cnt h st LW wv) → va_S A0 H0 H1 locs1 → W p l e R s m args below meth c H1 locs1 (cells + 0) (slots + 0) Q (F0 m (pc + 3) ls rest)) :
    W p l e R s m args below meth c H locs cells slots Q (F0 m pc ls (.int i :: .ref (ad 5) :: rest)) := by
  have hPc : va_P g.1 vwCl (piW g (ad 5) (fun k => ad (19 + k)) (fun k => q (13 + k)) (fun k => cp (13 + k)) (fun k => f (13 + k)) (fun k => (Rw (13 + k)).length)) H := hP.sub [5, 32, 33, 34, 35, 36, 37] rfl
  have hDc : va_D A0 (piW g (ad 5) (fun k => ad (19 + k)) (fun k => q (13 + k)) (fun k => cp (13 + k)) (fun k => f (13 + k)) (fun k => (Rw (13 + k)).length)) := hD.sub [5, 32, 33, 34, 35, 36, 37] (by decide) rfl
  refine rw_vQ (X := treeX g ad q cp f Rw sl cnt h st) (pl := plW LW wv) (wr := ([0, 1, 2, 3, 4, 6, 7, 8, 9, 10, 11, 12, 13, 14, 15, 16, 17, 18, 19, 20, 21, 22, 23, 24, 25, 26, 27, 28, 29, 30, 31] : List Nat).filterMap (fun i => (treeX g ad q cp f Rw sl cnt h st)[i]?)) (va_runV (As := [.int i]) (rest := rest) S (cP_shorten l g H.size (ad 5) (fun k => ad (19 + k)) (fun k => q (13 + k)) (fun k => cp (13 + k)) (fun k => f (13 + k)) (fun k => Rw (13 + k)) (rows_3 13 (by decide) hz) i) (cwV 1 S.2.2.2.2 (g_V hl1 q_269 q_270 q_36 q_271) rfl rfl rfl hd_P_shorten hR) (rw_V hK hPc hDc (va_recv hK.1 hPc (ci := 1) (q0 := 0) rfl rfl)) rfl rfl hsz rfl (lv_room hrm) hdg hf) hP hD hS hA [5, 32, 33, 34, 35, 36, 37] [0, 1, 2, 3, 4, 6, 7, 8, 9, 10, 11, 12, 13, 14, 15, 16, 17, 18, 19, 20, 21, 22, 23, 24, 25, 26, 27, 28, 29, 30, 31] rfl rfl rfl (by decide) (by decide) (fun u H1 locs1 hw hP1 hD1 hS1 => ?_)
  exact kk (q) (f) H1 locs1 (rows_upR 15 (rows_upR 14 (rows_upR 13 hz (hw 0 (by decide))) (hw 1 (by decide))) (hw 2 (by decide))) (pl_P (cx := treeX g ad q cp f (va_up (va_up (va_up Rw 13 (rCut (Rw 13) i)) 14 (rCut (Rw 14) i)) 15 (rCut (Rw 15) i)) sl cnt h st) hP1 [0, 1, 2, 3, 4, 31, 5, 6, 7, 8, 9, 10, 11, 12, 13, 14, 15, 16, 17, 18, 19, 20, 21, 22, 23, 24, 25, 26, 27, 28, 29, 30, 32, 33, 34, 35, 36, 37] rfl) (pl_D (cx := treeX g ad q cp f (va_up (va_up (va_up Rw 13 (rCut (Rw 13) i)) 14 (rCut (Rw 14) i)) 15 (rCut (Rw 15) i)) sl cnt h st) hD1 [0, 1, 2, 3, 4, 31, 5, 6, 7, 8, 9, 10, 11, 12, 13, 14, 15, 16, 17, 18, 19, 20, 21, 22, 23, 24, 25, 26, 27, 28, 29, 30, 32, 33, 34, 35, 36, 37] (by decide) rfl) hS1
end TR
end
section
theorem hd_T_addWall : yT_addWall.cls = "NodeMaker$Tree" ∧ yT_addWall.cls ≠ "java/lang/invoke/MethodHandle" ∧ yT_addWall.cls ≠ "java/lang/invoke/VarHandle" ∧ (parseMethodDescriptor yT_addWall.desc).map (fun d => d.parameters.length) = some 1 := by decide +kernel
theorem hd_T_dropWall : yT_dropWall.cls = "NodeMaker$Tree" ∧ yT_dropWall.cls ≠ "java/lang/invoke/MethodHandle" ∧ yT_dropWall.cls ≠ "java/lang/invoke/VarHandle" ∧ (parseMethodDescriptor yT_dropWall.desc).map (fun d => d.parameters.length) = some 1 := by decide +kernel
theorem hd_T_dropAllWalls : yT_dropAllWalls.cls = "NodeMaker$Tree" ∧ yT_dropAllWalls.cls ≠ "java/lang/invoke/MethodHandle" ∧ yT_dropAllWalls.cls ≠ "java/lang/invoke/VarHandle" ∧ (parseMethodDescriptor yT_dropAllWalls.desc).map (fun d => d.parameters.length) = some 0 := by decide +kernel
theorem hd_T_grow : yT_grow.cls = "NodeMaker$Tree" ∧ yT_grow.cls ≠ "java/lang/invoke/MethodHandle" ∧ yT_grow.cls ≠ "java/lang/invoke/VarHandle" ∧ (parseMethodDescriptor yT_grow.desc).map (fun d => d.parameters.length) = some 0 := by decide +kernel
theorem hd_T_fell : yT_fell.cls = "NodeMaker$Tree" ∧ yT_fell.cls ≠ "java/lang/invoke/MethodHandle" ∧ yT_fell.cls ≠ "java/lang/invoke/VarHandle" ∧ (parseMethodDescriptor yT_fell.desc).map (fun d => d.parameters.length) = some 0 := by decide +kernel
theorem hd_T_plant : yT_plant.cls = "NodeMaker$Tree" ∧ yT_plant.cls ≠ "java/lang/invoke/MethodHandle" ∧ yT_plant.cls ≠ "java/lang/invoke/VarHandle" ∧ (parseMethodDescriptor yT_plant.desc).map (fun d => d.parameters.length) = some 2 := by decide +kernel
theorem hd_T_bestLine : yT_bestLine.cls = "NodeMaker$Tree" ∧ yT_bestLine.cls ≠ "java/lang/invoke/MethodHandle" ∧ yT_bestLine.cls ≠ "java/lang/invoke/VarHandle" ∧ (parseMethodDescriptor yT_bestLine.desc).map (fun d => d.parameters.length) = some 1 := by decide +kernel
theorem hd_T_whereLies : yT_whereLies.cls = "NodeMaker$Tree" ∧ yT_whereLies.cls ≠ "java/lang/invoke/MethodHandle" ∧ yT_whereLies.cls ≠ "java/lang/invoke/VarHandle" ∧ (parseMethodDescriptor yT_whereLies.desc).map (fun d => d.parameters.length) = some 2 := by decide +kernel
theorem hd_T_sideOfEnd : yT_sideOfEnd.cls = "NodeMaker$Tree" ∧ yT_sideOfEnd.cls ≠ "java/lang/invoke/MethodHandle" ∧ yT_sideOfEnd.cls ≠ "java/lang/invoke/VarHandle" ∧ (parseMethodDescriptor yT_sideOfEnd.desc).map (fun d => d.parameters.length) = some 4 := by decide +kernel
theorem hd_T_sideOf : yT_sideOf.cls = "NodeMaker$Tree" ∧ yT_sideOf.cls ≠ "java/lang/invoke/MethodHandle" ∧ yT_sideOf.cls ≠ "java/lang/invoke/VarHandle" ∧ (parseMethodDescriptor yT_sideOf.desc).map (fun d => d.parameters.length) = some 1 := by decide +kernel
theorem hd_T_sideBetween : yT_sideBetween.cls = "NodeMaker$Tree" ∧ yT_sideBetween.cls ≠ "java/lang/invoke/MethodHandle" ∧ yT_sideBetween.cls ≠ "java/lang/invoke/VarHandle" ∧ (parseMethodDescriptor yT_sideBetween.desc).map (fun d => d.parameters.length) = some 4 := by decide +kernel
theorem hd_T_divide : yT_divide.cls = "NodeMaker$Tree" ∧ yT_divide.cls ≠ "java/lang/invoke/MethodHandle" ∧ yT_divide.cls ≠ "java/lang/invoke/VarHandle" ∧ (parseMethodDescriptor yT_divide.desc).map (fun d => d.parameters.length) = some 3 := by decide +kernel
theorem hd_T_hasNode : yT_hasNode.cls = "NodeMaker$Tree" ∧ yT_hasNode.cls ≠ "java/lang/invoke/MethodHandle" ∧ yT_hasNode.cls ≠ "java/lang/invoke/VarHandle" ∧ (parseMethodDescriptor yT_hasNode.desc).map (fun d => d.parameters.length) = some 1 := by decide +kernel
theorem hd_T_lineOf : yT_lineOf.cls = "NodeMaker$Tree" ∧ yT_lineOf.cls ≠ "java/lang/invoke/MethodHandle" ∧ yT_lineOf.cls ≠ "java/lang/invoke/VarHandle" ∧ (parseMethodDescriptor yT_lineOf.desc).map (fun d => d.parameters.length) = some 1 := by decide +kernel
theorem hd_T_leftOf : yT_leftOf.cls = "NodeMaker$Tree" ∧ yT_leftOf.cls ≠ "java/lang/invoke/MethodHandle" ∧ yT_leftOf.cls ≠ "java/lang/invoke/VarHandle" ∧ (parseMethodDescriptor yT_leftOf.desc).map (fun d => d.parameters.length) = some 1 := by decide +kernel
theorem hd_T_rightOf : yT_rightOf.cls = "NodeMaker$Tree" ∧ yT_rightOf.cls ≠ "java/lang/invoke/MethodHandle" ∧ yT_rightOf.cls ≠ "java/lang/invoke/VarHandle" ∧ (parseMethodDescriptor yT_rightOf.desc).map (fun d => d.parameters.length) = some 1 := by decide +kernel
theorem hd_T_ownPieces : yT_ownPieces.cls = "NodeMaker$Tree" ∧ yT_ownPieces.cls ≠ "java/lang/invoke/MethodHandle" ∧ yT_ownPieces.cls ≠ "java/lang/invoke/VarHandle" ∧ (parseMethodDescriptor yT_ownPieces.desc).map (fun d => d.parameters.length) = some 1 := by decide +kernel
theorem hd_T_firstPieceFrom : yT_firstPieceFrom.cls = "NodeMaker$Tree" ∧ yT_firstPieceFrom.cls ≠ "java/lang/invoke/MethodHandle" ∧ yT_firstPieceFrom.cls ≠ "java/lang/invoke/VarHandle" ∧ (parseMethodDescriptor yT_firstPieceFrom.desc).map (fun d => d.parameters.length) = some 1 := by decide +kernel
theorem hd_T_nodesIn : yT_nodesIn.cls = "NodeMaker$Tree" ∧ yT_nodesIn.cls ≠ "java/lang/invoke/MethodHandle" ∧ yT_nodesIn.cls ≠ "java/lang/invoke/VarHandle" ∧ (parseMethodDescriptor yT_nodesIn.desc).map (fun d => d.parameters.length) = some 1 := by decide +kernel
theorem hd_T_depthOf : yT_depthOf.cls = "NodeMaker$Tree" ∧ yT_depthOf.cls ≠ "java/lang/invoke/MethodHandle" ∧ yT_depthOf.cls ≠ "java/lang/invoke/VarHandle" ∧ (parseMethodDescriptor yT_depthOf.desc).map (fun d => d.parameters.length) = some 1 := by decide +kernel
theorem hd_T_pieceAt : yT_pieceAt.cls = "NodeMaker$Tree" ∧ yT_pieceAt.cls ≠ "java/lang/invoke/MethodHandle" ∧ yT_pieceAt.cls ≠ "java/lang/invoke/VarHandle" ∧ (parseMethodDescriptor yT_pieceAt.desc).map (fun d => d.parameters.length) = some 2 := by decide +kernel
theorem hd_T_wallOfPiece : yT_wallOfPiece.cls = "NodeMaker$Tree" ∧ yT_wallOfPiece.cls ≠ "java/lang/invoke/MethodHandle" ∧ yT_wallOfPiece.cls ≠ "java/lang/invoke/VarHandle" ∧ (parseMethodDescriptor yT_wallOfPiece.desc).map (fun d => d.parameters.length) = some 1 := by decide +kernel
theorem hd_T_quotientOf : yT_quotientOf.cls = "NodeMaker$Tree" ∧ yT_quotientOf.cls ≠ "java/lang/invoke/MethodHandle" ∧ yT_quotientOf.cls ≠ "java/lang/invoke/VarHandle" ∧ (parseMethodDescriptor yT_quotientOf.desc).map (fun d => d.parameters.length) = some 3 := by decide +kernel
theorem hd_T_commonDivisor : yT_commonDivisor.cls = "NodeMaker$Tree" ∧ yT_commonDivisor.cls ≠ "java/lang/invoke/MethodHandle" ∧ yT_commonDivisor.cls ≠ "java/lang/invoke/VarHandle" ∧ (parseMethodDescriptor yT_commonDivisor.desc).map (fun d => d.parameters.length) = some 2 := by decide +kernel
theorem hd_T_leafAround : yT_leafAround.cls = "NodeMaker$Tree" ∧ yT_leafAround.cls ≠ "java/lang/invoke/MethodHandle" ∧ yT_leafAround.cls ≠ "java/lang/invoke/VarHandle" ∧ (parseMethodDescriptor yT_leafAround.desc).map (fun d => d.parameters.length) = some 2 := by decide +kernel
theorem hd_T_liesLeft : yT_liesLeft.cls = "NodeMaker$Tree" ∧ yT_liesLeft.cls ≠ "java/lang/invoke/MethodHandle" ∧ yT_liesLeft.cls ≠ "java/lang/invoke/VarHandle" ∧ (parseMethodDescriptor yT_liesLeft.desc).map (fun d => d.parameters.length) = some 3 := by decide +kernel
theorem hd_T_pieceCount : yT_pieceCount.cls = "NodeMaker$Tree" ∧ yT_pieceCount.cls ≠ "java/lang/invoke/MethodHandle" ∧ yT_pieceCount.cls ≠ "java/lang/invoke/VarHandle" ∧ (parseMethodDescriptor yT_pieceCount.desc).map (fun d => d.parameters.length) = some 0 := by decide +kernel
theorem hd_T_pieceOnWay : yT_pieceOnWay.cls = "NodeMaker$Tree" ∧ yT_pieceOnWay.cls ≠ "java/lang/invoke/MethodHandle" ∧ yT_pieceOnWay.cls ≠ "java/lang/invoke/VarHandle" ∧ (parseMethodDescriptor yT_pieceOnWay.desc).map (fun d => d.parameters.length) = some 3 := by decide +kernel
theorem hd_T_piecesIn : yT_piecesIn.cls = "NodeMaker$Tree" ∧ yT_piecesIn.cls ≠ "java/lang/invoke/MethodHandle" ∧ yT_piecesIn.cls ≠ "java/lang/invoke/VarHandle" ∧ (parseMethodDescriptor yT_piecesIn.desc).map (fun d => d.parameters.length) = some 1 := by decide +kernel
theorem hd_T_nodeOfPiece : yT_nodeOfPiece.cls = "NodeMaker$Tree" ∧ yT_nodeOfPiece.cls ≠ "java/lang/invoke/MethodHandle" ∧ yT_nodeOfPiece.cls ≠ "java/lang/invoke/VarHandle" ∧ (parseMethodDescriptor yT_nodeOfPiece.desc).map (fun d => d.parameters.length) = some 1 := by decide +kernel
theorem hd_T_placeInNode : yT_placeInNode.cls = "NodeMaker$Tree" ∧ yT_placeInNode.cls ≠ "java/lang/invoke/MethodHandle" ∧ yT_placeInNode.cls ≠ "java/lang/invoke/VarHandle" ∧ (parseMethodDescriptor yT_placeInNode.desc).map (fun d => d.parameters.length) = some 1 := by decide +kernel
theorem hd_T_wallAt : yT_wallAt.cls = "NodeMaker$Tree" ∧ yT_wallAt.cls ≠ "java/lang/invoke/MethodHandle" ∧ yT_wallAt.cls ≠ "java/lang/invoke/VarHandle" ∧ (parseMethodDescriptor yT_wallAt.desc).map (fun d => d.parameters.length) = some 1 := by decide +kernel
theorem hd_T_piecesOfWall : yT_piecesOfWall.cls = "NodeMaker$Tree" ∧ yT_piecesOfWall.cls ≠ "java/lang/invoke/MethodHandle" ∧ yT_piecesOfWall.cls ≠ "java/lang/invoke/VarHandle" ∧ (parseMethodDescriptor yT_piecesOfWall.desc).map (fun d => d.parameters.length) = some 1 := by decide +kernel
theorem hd_T_wallCount : yT_wallCount.cls = "NodeMaker$Tree" ∧ yT_wallCount.cls ≠ "java/lang/invoke/MethodHandle" ∧ yT_wallCount.cls ≠ "java/lang/invoke/VarHandle" ∧ (parseMethodDescriptor yT_wallCount.desc).map (fun d => d.parameters.length) = some 0 := by decide +kernel
theorem hd_T_nodeCount : yT_nodeCount.cls = "NodeMaker$Tree" ∧ yT_nodeCount.cls ≠ "java/lang/invoke/MethodHandle" ∧ yT_nodeCount.cls ≠ "java/lang/invoke/VarHandle" ∧ (parseMethodDescriptor yT_nodeCount.desc).map (fun d => d.parameters.length) = some 0 := by decide +kernel
theorem hd_T_height : yT_height.cls = "NodeMaker$Tree" ∧ yT_height.cls ≠ "java/lang/invoke/MethodHandle" ∧ yT_height.cls ≠ "java/lang/invoke/VarHandle" ∧ (parseMethodDescriptor yT_height.desc).map (fun d => d.parameters.length) = some 0 := by decide +kernel
theorem hd_T_init : yT_init.cls ≠ "java/lang/invoke/MethodHandle" ∧ yT_init.cls ≠ "java/lang/invoke/VarHandle" ∧ (parseMethodDescriptor yT_init.desc).map (fun d => d.parameters.length) = some 0 := by decide +kernel
def sT_nodeCount (Rw : Nat → List Int32) (Wl : Nat → Option WV)  : Int32 :=
  (nI (Rw 0).length)
set_option maxHeartbeats 4000000 in
set_option maxRecDepth 100000 in
theorem cT_nodeCount (l : Launch) (g : CX) (ad q cp : Nat → Nat) (f : Nat → Nat → Int32) (Rw : Nat → List Int32) (sl : Nat → Option Nat) (cnt h st : Int32) (LW : List Nat) (wv : Nat → WV) (hz : rowsT cp f Rw) (hsl : slOK sl LW)  : Met l yT_nodeCount (wm yT_nodeCount kT_nodeCount 1 (some .int)) ({ frames := 1, cells := 0, slots := 0, locals := 20 }) (ro g [.ref (ad 0)] (va_P g.1 vwCl (TW g ad q cp f Rw sl cnt h st LW wv))) (vp_Si (fun r => r = sT_nodeCount Rw (wOf sl wv) )) 0 0 (fun _ => False) := by
  refine Met.ofW (cc := kT_nodeCount) (maxL := 1) (ret := (some .int)) (by decide) rfl ?_
  intro p e s m args below meth c s₁ B hml hv
  obtain ⟨rfl, hK, hP⟩ := hv
  have hx := B.exec
  have hb := B.bytes
  have hr := B.returns
  have ht : ∀ w ∈ wT, w.before _ s = true := fun w h => atoms_spec (ws := wm yT_nodeCount kT_nodeCount 1 (some .int)) B.pre w (List.mem_cons_of_mem _ h)
  have hown : s.vm.findClass "NodeMaker$Tree" = some m.cls := findClass_of_methodNamed B.named
  have hlocks := B.notSynchronized
  have hl := lv_entry ([.ref (ad 0)]) (n := 1) (Nat.le_of_ble_eq_true rfl)
  rw [lg_entry_eq]
  generalize (lg_sl ([.ref (ad 0)]) ++ List.replicate (1 - (lg_sl ([.ref (ad 0)])).length) Slot.unset).toArray = ls at hl ⊢
  have hl : lv_has ls 1 [(0, .ref (ad 0))] := hl
  refine lv_aload_n hx hb dT_nodeCount_0 rfl (lv_at hl 0 rfl) ?_
  refine va_get (D := g.1) (ci := 4) (v := .ref (ad 6)) (C := "NodeMaker$Tree") (T := Fd_T) (N := 13) hx hb ht i_T hown hK.1 hP 0 rfl rfl 1 (by decide) (ht _ q_104) (fun _ h9 => h9) rfl dT_nodeCount_1 ?_
  have hPc := hP.sub (ws' := rowW g (ad 6) (q 0) (cp 0) (f 0) (Rw 0).length) [6, 7] rfl
  refine ro_Vi (v := nI (Rw 0).length) (As := []) (rest := []) ⟨hx, hb, hml, hown, ht⟩ (cR_count l g (ad 6) (q 0) (cp 0) (f 0) (Rw 0)) (cwV 0 ht (g_V q_308 q_305 q_306 q_35 q_307) rfl rfl rfl hd_R_count ⟨Nat.le_of_ble_eq_true rfl, Nat.le_of_ble_eq_true rfl⟩) hK (hPc) (va_recv hK.1 hPc (ci := 0) (q0 := 0) rfl rfl) rfl hl.1 rfl (Nat.le_of_ble_eq_true rfl) dT_nodeCount_4 ⟨by show 0 ≤ 0; omega, by show 0 ≤ 0; omega⟩ ?_
  exact W.iret hx hb hr (fun t ht9 hW => ⟨_, rfl, rfl, ht9⟩) (fun q h => by cases h) dT_nodeCount_7
def sT_pieceCount (Rw : Nat → List Int32) (Wl : Nat → Option WV)  : Int32 :=
  (nI (Rw 6).length)
set_option maxHeartbeats 4000000 in
set_option maxRecDepth 100000 in
theorem cT_pieceCount (l : Launch) (g : CX) (ad q cp : Nat → Nat) (f : Nat → Nat → Int32) (Rw : Nat → List Int32) (sl : Nat → Option Nat) (cnt h st : Int32) (LW : List Nat) (wv : Nat → WV) (hz : rowsT cp f Rw) (hsl : slOK sl LW)  : Met l yT_pieceCount (wm yT_pieceCount kT_pieceCount 1 (some .int)) ({ frames := 2, cells := 0, slots := 0, locals := 40 }) (ro g [.ref (ad 0)] (va_P g.1 vwCl (TW g ad q cp f Rw sl cnt h st LW wv))) (vp_Si (fun r => r = sT_pieceCount Rw (wOf sl wv) )) 0 0 (fun _ => False) := by
  refine Met.ofW (cc := kT_pieceCount) (maxL := 1) (ret := (some .int)) (by decide) rfl ?_
  intro p e s m args below meth c s₁ B hml hv
  obtain ⟨rfl, hK, hP⟩ := hv
  have hx := B.exec
  have hb := B.bytes
  have hr := B.returns
  have ht : ∀ w ∈ wT, w.before _ s = true := fun w h => atoms_spec (ws := wm yT_pieceCount kT_pieceCount 1 (some .int)) B.pre w (List.mem_cons_of_mem _ h)
  have hown : s.vm.findClass "NodeMaker$Tree" = some m.cls := findClass_of_methodNamed B.named
  have hlocks := B.notSynchronized
  have hl := lv_entry ([.ref (ad 0)]) (n := 1) (Nat.le_of_ble_eq_true rfl)
  rw [lg_entry_eq]
  generalize (lg_sl ([.ref (ad 0)]) ++ List.replicate (1 - (lg_sl ([.ref (ad 0)])).length) Slot.unset).toArray = ls at hl ⊢
  have hl : lv_has ls 1 [(0, .ref (ad 0))] := hl
  refine lv_aload_n hx hb dT_pieceCount_0 rfl (lv_at hl 0 rfl) ?_
  refine va_get (D := g.1) (ci := 4) (v := .ref (ad 3)) (C := "NodeMaker$Tree") (T := Fd_T) (N := 13) hx hb ht i_T hown hK.1 hP 0 rfl rfl 7 (by decide) (ht _ q_110) (fun _ h9 => h9) rfl dT_pieceCount_1 ?_
  have hPc := hP.sub (ws' := (piW g (ad 3) (fun k => ad (12 + k)) (fun k => q (6 + k)) (fun k => cp (6 + k)) (fun k => f (6 + k)) (fun k => (Rw (6 + k)).length))) [3, 18, 19, 20, 21, 22, 23] rfl
  refine ro_Vi (v := nI (Rw 6).length) (As := []) (rest := []) ⟨hx, hb, hml, hown, ht⟩ (cP_count l g (ad 3) (fun k => ad (12 + k)) (fun k => q (6 + k)) (fun k => cp (6 + k)) (fun k => f (6 + k)) (fun k => Rw (6 + k)) (rows_3 6 (by decide) hz) ) (cwV 0 ht (g_V q_300 q_301 q_302 q_36 q_303) rfl rfl rfl hd_P_count ⟨Nat.le_of_ble_eq_true rfl, Nat.le_of_ble_eq_true rfl⟩) hK (hPc) (va_recv hK.1 hPc (ci := 1) (q0 := 0) rfl rfl) rfl hl.1 rfl (Nat.le_of_ble_eq_true rfl) dT_pieceCount_4 ⟨by show 0 ≤ 0; omega, by show 0 ≤ 0; omega⟩ ?_
  exact W.iret hx hb hr (fun t ht9 hW => ⟨_, rfl, rfl, ht9⟩) (fun q h => by cases h) dT_pieceCount_7
def sT_hasNode (Rw : Nat → List Int32) (Wl : Nat → Option WV) (k : Int32) : Int32 :=
  if k < 0 then
    0
  else
    if (nI (Rw 0).length) ≤ k then
      0
    else
      1
set_option maxHeartbeats 4000000 in
set_option maxRecDepth 100000 in
theorem cT_hasNode (l : Launch) (g : CX) (ad q cp : Nat → Nat) (f : Nat → Nat → Int32) (Rw : Nat → List Int32) (sl : Nat → Option Nat) (cnt h st : Int32) (LW : List Nat) (wv : Nat → WV) (hz : rowsT cp f Rw) (hsl : slOK sl LW) (k : Int32) : Met l yT_hasNode (wm yT_hasNode kT_hasNode 2 (some .boolean)) ({ frames := 1, cells := 0, slots := 0, locals := 20 }) (ro g [.ref (ad 0), .int k] (va_P g.1 vwCl (TW g ad q cp f Rw sl cnt h st LW wv))) (vp_Si (fun r => r = sT_hasNode Rw (wOf sl wv) k)) 0 0 (fun _ => False) := by
  refine Met.ofW (cc := kT_hasNode) (maxL := 2) (ret := (some .boolean)) (by decide) rfl ?_
  intro p e s m args below meth c s₁ B hml hv
  obtain ⟨rfl, hK, hP⟩ := hv
  have hx := B.exec
  have hb := B.bytes
  have hr := B.returns
  have ht : ∀ w ∈ wT, w.before _ s = true := fun w h => atoms_spec (ws := wm yT_hasNode kT_hasNode 2 (some .boolean)) B.pre w (List.mem_cons_of_mem _ h)
  have hown : s.vm.findClass "NodeMaker$Tree" = some m.cls := findClass_of_methodNamed B.named
  have hlocks := B.notSynchronized
  have hl := lv_entry ([.ref (ad 0), .int k]) (n := 2) (Nat.le_of_ble_eq_true rfl)
  rw [lg_entry_eq]
  generalize (lg_sl ([.ref (ad 0), .int k]) ++ List.replicate (2 - (lg_sl ([.ref (ad 0), .int k])).length) Slot.unset).toArray = ls at hl ⊢
  have hl : lv_has ls 2 [(0, .ref (ad 0)), (1, .int k)] := hl
  refine lv_iload_n hx hb dT_hasNode_0 rfl (lv_at hl 1 rfl) ?_
  refine lv_if_lt (tgt := 19) hx hb dT_hasNode_1 (by decide) (fun c_1 => ?_) (fun c_1 => ?_)
  · skip
    refine lv_iconst (v := 0) hx hb dT_hasNode_19 (by decide) ?_
    exact W.zret hx hb hr rfl (fun t ht9 hW => ⟨_, rfl, by rw [sT_hasNode, if_pos c_1], ht9⟩) (fun q h => by cases h) dT_hasNode_20
  · skip
    refine lv_iload_n hx hb dT_hasNode_4 rfl (lv_at hl 1 rfl) ?_
    refine lv_aload_n hx hb dT_hasNode_5 rfl (lv_at hl 0 rfl) ?_
    refine va_get (D := g.1) (ci := 4) (v := .ref (ad 6)) (C := "NodeMaker$Tree") (T := Fd_T) (N := 13) hx hb ht i_T hown hK.1 hP 0 rfl rfl 1 (by decide) (ht _ q_104) (fun _ h9 => h9) rfl dT_hasNode_6 ?_
    have hPc := hP.sub (ws' := rowW g (ad 6) (q 0) (cp 0) (f 0) (Rw 0).length) [6, 7] rfl
    refine ro_Vi (v := nI (Rw 0).length) (As := []) (rest := [.int k]) ⟨hx, hb, hml, hown, ht⟩ (cR_count l g (ad 6) (q 0) (cp 0) (f 0) (Rw 0)) (cwV 0 ht (g_V q_308 q_305 q_306 q_35 q_307) rfl rfl rfl hd_R_count ⟨Nat.le_of_ble_eq_true rfl, Nat.le_of_ble_eq_true rfl⟩) hK (hPc) (va_recv hK.1 hPc (ci := 0) (q0 := 0) rfl rfl) rfl hl.1 rfl (Nat.le_of_ble_eq_true rfl) dT_hasNode_9 ⟨by show 0 ≤ 0; omega, by show 0 ≤ 0; omega⟩ ?_
    refine lv_icmp_ge (tgt := 19) hx hb dT_hasNode_12 (by decide) (fun c_2 => ?_) (fun c_2 => ?_)
    · skip
      refine lv_iconst (v := 0) hx hb dT_hasNode_19 (by decide) ?_
      exact W.zret hx hb hr rfl (fun t ht9 hW => ⟨_, rfl, by rw [sT_hasNode, if_neg c_1, if_pos c_2], ht9⟩) (fun q h => by cases h) dT_hasNode_20
    · skip
      refine lv_iconst (v := 1) hx hb dT_hasNode_15 (by decide) ?_
      refine lv_goto (tgt := 20) hx hb dT_hasNode_16 (by decide) ?_
      exact W.zret hx hb hr rfl (fun t ht9 hW => ⟨_, rfl, by rw [sT_hasNode, if_neg c_1, if_neg c_2], ht9⟩) (fun q h => by cases h) dT_hasNode_20
def sT_lineOf (Rw : Nat → List Int32) (Wl : Nat → Option WV) (k : Int32) : Int32 :=
  (rAt (Rw 0) k)
set_option maxHeartbeats 4000000 in
set_option maxRecDepth 100000 in
theorem cT_lineOf (l : Launch) (g : CX) (ad q cp : Nat → Nat) (f : Nat → Nat → Int32) (Rw : Nat → List Int32) (sl : Nat → Option Nat) (cnt h st : Int32) (LW : List Nat) (wv : Nat → WV) (hz : rowsT cp f Rw) (hsl : slOK sl LW) (k : Int32) : Met l yT_lineOf (wm yT_lineOf kT_lineOf 2 (some .int)) ({ frames := 1, cells := 0, slots := 0, locals := 21 }) (ro g [.ref (ad 0), .int k] (va_P g.1 vwCl (TW g ad q cp f Rw sl cnt h st LW wv))) (vp_Si (fun r => r = sT_lineOf Rw (wOf sl wv) k)) 0 0 (fun _ => False) := by
  refine Met.ofW (cc := kT_lineOf) (maxL := 2) (ret := (some .int)) (by decide) rfl ?_
  intro p e s m args below meth c s₁ B hml hv
  obtain ⟨rfl, hK, hP⟩ := hv
  have hx := B.exec
  have hb := B.bytes
  have hr := B.returns
  have ht : ∀ w ∈ wT, w.before _ s = true := fun w h => atoms_spec (ws := wm yT_lineOf kT_lineOf 2 (some .int)) B.pre w (List.mem_cons_of_mem _ h)
  have hown : s.vm.findClass "NodeMaker$Tree" = some m.cls := findClass_of_methodNamed B.named
  have hlocks := B.notSynchronized
  have hl := lv_entry ([.ref (ad 0), .int k]) (n := 2) (Nat.le_of_ble_eq_true rfl)
  rw [lg_entry_eq]
  generalize (lg_sl ([.ref (ad 0), .int k]) ++ List.replicate (2 - (lg_sl ([.ref (ad 0), .int k])).length) Slot.unset).toArray = ls at hl ⊢
  have hl : lv_has ls 2 [(0, .ref (ad 0)), (1, .int k)] := hl
  refine lv_aload_n hx hb dT_lineOf_0 rfl (lv_at hl 0 rfl) ?_
  refine va_get (D := g.1) (ci := 4) (v := .ref (ad 6)) (C := "NodeMaker$Tree") (T := Fd_T) (N := 13) hx hb ht i_T hown hK.1 hP 0 rfl rfl 1 (by decide) (ht _ q_104) (fun _ h9 => h9) rfl dT_lineOf_1 ?_
  refine lv_iload_n hx hb dT_lineOf_4 rfl (lv_at hl 1 rfl) ?_
  have hPc := hP.sub (ws' := rowW g (ad 6) (q 0) (cp 0) (f 0) (Rw 0).length) [6, 7] rfl
  refine ro_Vi (v := rAt (Rw 0) k) (As := [.int k]) (rest := []) ⟨hx, hb, hml, hown, ht⟩ (cR_at l g (ad 6) (q 0) (cp 0) (f 0) (Rw 0) (hz 0 (by decide)) k) (cwV 1 ht (g_V q_374 q_318 q_319 q_35 q_320) rfl rfl rfl hd_R_at ⟨Nat.le_of_ble_eq_true rfl, Nat.le_of_ble_eq_true rfl⟩) hK (hPc) (va_recv hK.1 hPc (ci := 0) (q0 := 0) rfl rfl) rfl hl.1 rfl (Nat.le_of_ble_eq_true rfl) dT_lineOf_5 ⟨by show 0 ≤ 0; omega, by show 0 ≤ 0; omega⟩ ?_
  exact W.iret hx hb hr (fun t ht9 hW => ⟨_, rfl, rfl, ht9⟩) (fun q h => by cases h) dT_lineOf_8
def sT_leftOf (Rw : Nat → List Int32) (Wl : Nat → Option WV) (k : Int32) : Int32 :=
  (rAt (Rw 1) k)
set_option maxHeartbeats 4000000 in
set_option maxRecDepth 100000 in
theorem cT_leftOf (l : Launch) (g : CX) (ad q cp : Nat → Nat) (f : Nat → Nat → Int32) (Rw : Nat → List Int32) (sl : Nat → Option Nat) (cnt h st : Int32) (LW : List Nat) (wv : Nat → WV) (hz : rowsT cp f Rw) (hsl : slOK sl LW) (k : Int32) : Met l yT_leftOf (wm yT_leftOf kT_leftOf 2 (some .int)) ({ frames := 1, cells := 0, slots := 0, locals := 21 }) (ro g [.ref (ad 0), .int k] (va_P g.1 vwCl (TW g ad q cp f Rw sl cnt h st LW wv))) (vp_Si (fun r => r = sT_leftOf Rw (wOf sl wv) k)) 0 0 (fun _ => False) := by
  refine Met.ofW (cc := kT_leftOf) (maxL := 2) (ret := (some .int)) (by decide) rfl ?_
  intro p e s m args below meth c s₁ B hml hv
  obtain ⟨rfl, hK, hP⟩ := hv
  have hx := B.exec
  have hb := B.bytes
  have hr := B.returns
  have ht : ∀ w ∈ wT, w.before _ s = true := fun w h => atoms_spec (ws := wm yT_leftOf kT_leftOf 2 (some .int)) B.pre w (List.mem_cons_of_mem _ h)
  have hown : s.vm.findClass "NodeMaker$Tree" = some m.cls := findClass_of_methodNamed B.named
  have hlocks := B.notSynchronized
  have hl := lv_entry ([.ref (ad 0), .int k]) (n := 2) (Nat.le_of_ble_eq_true rfl)
  rw [lg_entry_eq]
  generalize (lg_sl ([.ref (ad 0), .int k]) ++ List.replicate (2 - (lg_sl ([.ref (ad 0), .int k])).length) Slot.unset).toArray = ls at hl ⊢
  have hl : lv_has ls 2 [(0, .ref (ad 0)), (1, .int k)] := hl
  refine lv_aload_n hx hb dT_leftOf_0 rfl (lv_at hl 0 rfl) ?_
  refine va_get (D := g.1) (ci := 4) (v := .ref (ad 7)) (C := "NodeMaker$Tree") (T := Fd_T) (N := 13) hx hb ht i_T hown hK.1 hP 0 rfl rfl 2 (by decide) (ht _ q_105) (fun _ h9 => h9) rfl dT_leftOf_1 ?_
  refine lv_iload_n hx hb dT_leftOf_4 rfl (lv_at hl 1 rfl) ?_
  have hPc := hP.sub (ws' := rowW g (ad 7) (q 1) (cp 1) (f 1) (Rw 1).length) [8, 9] rfl
  refine ro_Vi (v := rAt (Rw 1) k) (As := [.int k]) (rest := []) ⟨hx, hb, hml, hown, ht⟩ (cR_at l g (ad 7) (q 1) (cp 1) (f 1) (Rw 1) (hz 1 (by decide)) k) (cwV 1 ht (g_V q_374 q_318 q_319 q_35 q_320) rfl rfl rfl hd_R_at ⟨Nat.le_of_ble_eq_true rfl, Nat.le_of_ble_eq_true rfl⟩) hK (hPc) (va_recv hK.1 hPc (ci := 0) (q0 := 0) rfl rfl) rfl hl.1 rfl (Nat.le_of_ble_eq_true rfl) dT_leftOf_5 ⟨by show 0 ≤ 0; omega, by show 0 ≤ 0; omega⟩ ?_
  exact W.iret hx hb hr (fun t ht9 hW => ⟨_, rfl, rfl, ht9⟩) (fun q h => by cases h) dT_leftOf_8
def sT_rightOf (Rw : Nat → List Int32) (Wl : Nat → Option WV) (k : Int32) : Int32 :=
  (rAt (Rw 2) k)
set_option maxHeartbeats 4000000 in
set_option maxRecDepth 100000 in
theorem cT_rightOf (l : Launch) (g : CX) (ad q cp : Nat → Nat) (f : Nat → Nat → Int32) (Rw : Nat → List Int32) (sl : Nat → Option Nat) (cnt h st : Int32) (LW : List Nat) (wv : Nat → WV) (hz : rowsT cp f Rw) (hsl : slOK sl LW) (k : Int32) : Met l yT_rightOf (wm yT_rightOf kT_rightOf 2 (some .int)) ({ frames := 1, cells := 0, slots := 0, locals := 21 }) (ro g [.ref (ad 0), .int k] (va_P g.1 vwCl (TW g ad q cp f Rw sl cnt h st LW wv))) (vp_Si (fun r => r = sT_rightOf Rw (wOf sl wv) k)) 0 0 (fun _ => False) := by
  refine Met.ofW (cc := kT_rightOf) (maxL := 2) (ret := (some .int)) (by decide) rfl ?_
  intro p e s m args below meth c s₁ B hml hv
  obtain ⟨rfl, hK, hP⟩ := hv
  have hx := B.exec
  have hb := B.bytes
  have hr := B.returns
  have ht : ∀ w ∈ wT, w.before _ s = true := fun w h => atoms_spec (ws := wm yT_rightOf kT_rightOf 2 (some .int)) B.pre w (List.mem_cons_of_mem _ h)
  have hown : s.vm.findClass "NodeMaker$Tree" = some m.cls := findClass_of_methodNamed B.named
  have hlocks := B.notSynchronized
  have hl := lv_entry ([.ref (ad 0), .int k]) (n := 2) (Nat.le_of_ble_eq_true rfl)
  rw [lg_entry_eq]
  generalize (lg_sl ([.ref (ad 0), .int k]) ++ List.replicate (2 - (lg_sl ([.ref (ad 0), .int k])).length) Slot.unset).toArray = ls at hl ⊢
  have hl : lv_has ls 2 [(0, .ref (ad 0)), (1, .int k)] := hl
  refine lv_aload_n hx hb dT_rightOf_0 rfl (lv_at hl 0 rfl) ?_
  refine va_get (D := g.1) (ci := 4) (v := .ref (ad 8)) (C := "NodeMaker$Tree") (T := Fd_T) (N := 13) hx hb ht i_T hown hK.1 hP 0 rfl rfl 3 (by decide) (ht _ q_106) (fun _ h9 => h9) rfl dT_rightOf_1 ?_
  refine lv_iload_n hx hb dT_rightOf_4 rfl (lv_at hl 1 rfl) ?_
  have hPc := hP.sub (ws' := rowW g (ad 8) (q 2) (cp 2) (f 2) (Rw 2).length) [10, 11] rfl
  refine ro_Vi (v := rAt (Rw 2) k) (As := [.int k]) (rest := []) ⟨hx, hb, hml, hown, ht⟩ (cR_at l g (ad 8) (q 2) (cp 2) (f 2) (Rw 2) (hz 2 (by decide)) k) (cwV 1 ht (g_V q_374 q_318 q_319 q_35 q_320) rfl rfl rfl hd_R_at ⟨Nat.le_of_ble_eq_true rfl, Nat.le_of_ble_eq_true rfl⟩) hK (hPc) (va_recv hK.1 hPc (ci := 0) (q0 := 0) rfl rfl) rfl hl.1 rfl (Nat.le_of_ble_eq_true rfl) dT_rightOf_5 ⟨by show 0 ≤ 0; omega, by show 0 ≤ 0; omega⟩ ?_
  exact W.iret hx hb hr (fun t ht9 hW => ⟨_, rfl, rfl, ht9⟩) (fun q h => by cases h) dT_rightOf_8
def sT_depthOf (Rw : Nat → List Int32) (Wl : Nat → Option WV) (k : Int32) : Int32 :=
  (rAt (Rw 4) k)
set_option maxHeartbeats 4000000 in
set_option maxRecDepth 100000 in
theorem cT_depthOf (l : Launch) (g : CX) (ad q cp : Nat → Nat) (f : Nat → Nat → Int32) (Rw : Nat → List Int32) (sl : Nat → Option Nat) (cnt h st : Int32) (LW : List Nat) (wv : Nat → WV) (hz : rowsT cp f Rw) (hsl : slOK sl LW) (k : Int32) : Met l yT_depthOf (wm yT_depthOf kT_depthOf 2 (some .int)) ({ frames := 1, cells := 0, slots := 0, locals := 21 }) (ro g [.ref (ad 0), .int k] (va_P g.1 vwCl (TW g ad q cp f Rw sl cnt h st LW wv))) (vp_Si (fun r => r = sT_depthOf Rw (wOf sl wv) k)) 0 0 (fun _ => False) := by
  refine Met.ofW (cc := kT_depthOf) (maxL := 2) (ret := (some .int)) (by decide) rfl ?_
  intro p e s m args below meth c s₁ B hml hv
  obtain ⟨rfl, hK, hP⟩ := hv
  have hx := B.exec
  have hb := B.bytes
  have hr := B.returns
  have ht : ∀ w ∈ wT, w.before _ s = true := fun w h => atoms_spec (ws := wm yT_depthOf kT_depthOf 2 (some .int)) B.pre w (List.mem_cons_of_mem _ h)
  have hown : s.vm.findClass "NodeMaker$Tree" = some m.cls := findClass_of_methodNamed B.named
  have hlocks := B.notSynchronized
  have hl := lv_entry ([.ref (ad 0), .int k]) (n := 2) (Nat.le_of_ble_eq_true rfl)
  rw [lg_entry_eq]
  generalize (lg_sl ([.ref (ad 0), .int k]) ++ List.replicate (2 - (lg_sl ([.ref (ad 0), .int k])).length) Slot.unset).toArray = ls at hl ⊢
  have hl : lv_has ls 2 [(0, .ref (ad 0)), (1, .int k)] := hl
  refine lv_aload_n hx hb dT_depthOf_0 rfl (lv_at hl 0 rfl) ?_
  refine va_get (D := g.1) (ci := 4) (v := .ref (ad 10)) (C := "NodeMaker$Tree") (T := Fd_T) (N := 13) hx hb ht i_T hown hK.1 hP 0 rfl rfl 5 (by decide) (ht _ q_108) (fun _ h9 => h9) rfl dT_depthOf_1 ?_
  refine lv_iload_n hx hb dT_depthOf_4 rfl (lv_at hl 1 rfl) ?_
  have hPc := hP.sub (ws' := rowW g (ad 10) (q 4) (cp 4) (f 4) (Rw 4).length) [14, 15] rfl
  refine ro_Vi (v := rAt (Rw 4) k) (As := [.int k]) (rest := []) ⟨hx, hb, hml, hown, ht⟩ (cR_at l g (ad 10) (q 4) (cp 4) (f 4) (Rw 4) (hz 4 (by decide)) k) (cwV 1 ht (g_V q_374 q_318 q_319 q_35 q_320) rfl rfl rfl hd_R_at ⟨Nat.le_of_ble_eq_true rfl, Nat.le_of_ble_eq_true rfl⟩) hK (hPc) (va_recv hK.1 hPc (ci := 0) (q0 := 0) rfl rfl) rfl hl.1 rfl (Nat.le_of_ble_eq_true rfl) dT_depthOf_5 ⟨by show 0 ≤ 0; omega, by show 0 ≤ 0; omega⟩ ?_
  exact W.iret hx hb hr (fun t ht9 hW => ⟨_, rfl, rfl, ht9⟩) (fun q h => by cases h) dT_depthOf_8
def sT_nodesIn (Rw : Nat → List Int32) (Wl : Nat → Option WV) (k : Int32) : Int32 :=
  if (sT_hasNode Rw Wl k) = 0 then
    0
  else
    (rAt (Rw 3) k)
set_option maxHeartbeats 4000000 in
set_option maxRecDepth 100000 in
theorem cT_nodesIn (l : Launch) (g : CX) (ad q cp : Nat → Nat) (f : Nat → Nat → Int32) (Rw : Nat → List Int32) (sl : Nat → Option Nat) (cnt h st : Int32) (LW : List Nat) (wv : Nat → WV) (hz : rowsT cp f Rw) (hsl : slOK sl LW) (k : Int32) : Met l yT_nodesIn (wm yT_nodesIn kT_nodesIn 2 (some .int)) ({ frames := 2, cells := 0, slots := 0, locals := 41 }) (ro g [.ref (ad 0), .int k] (va_P g.1 vwCl (TW g ad q cp f Rw sl cnt h st LW wv))) (vp_Si (fun r => r = sT_nodesIn Rw (wOf sl wv) k)) 0 0 (fun _ => False) := by
  refine Met.ofW (cc := kT_nodesIn) (maxL := 2) (ret := (some .int)) (by decide) rfl ?_
  intro p e s m args below meth c s₁ B hml hv
  obtain ⟨rfl, hK, hP⟩ := hv
  have hx := B.exec
  have hb := B.bytes
  have hr := B.returns
  have ht : ∀ w ∈ wT, w.before _ s = true := fun w h => atoms_spec (ws := wm yT_nodesIn kT_nodesIn 2 (some .int)) B.pre w (List.mem_cons_of_mem _ h)
  have hown : s.vm.findClass "NodeMaker$Tree" = some m.cls := findClass_of_methodNamed B.named
  have hlocks := B.notSynchronized
  have hl := lv_entry ([.ref (ad 0), .int k]) (n := 2) (Nat.le_of_ble_eq_true rfl)
  rw [lg_entry_eq]
  generalize (lg_sl ([.ref (ad 0), .int k]) ++ List.replicate (2 - (lg_sl ([.ref (ad 0), .int k])).length) Slot.unset).toArray = ls at hl ⊢
  have hl : lv_has ls 2 [(0, .ref (ad 0)), (1, .int k)] := hl
  refine lv_aload_n hx hb dT_nodesIn_0 rfl (lv_at hl 0 rfl) ?_
  refine lv_iload_n hx hb dT_nodesIn_1 rfl (lv_at hl 1 rfl) ?_
  refine ro_Vi (v := sT_hasNode Rw (wOf sl wv) k) (As := [.int k]) (rest := []) ⟨hx, hb, hml, hown, ht⟩ (cT_hasNode l g ad q cp f Rw sl cnt h st LW wv hz hsl k) (cwV 1 ht (g_V q_387 q_367 q_368 q_33 q_369) rfl rfl rfl hd_T_hasNode ⟨Nat.le_of_ble_eq_true rfl, Nat.le_of_ble_eq_true rfl⟩) hK (hP) (va_recv hK.1 hP (ci := 4) (q0 := 0) rfl rfl) rfl hl.1 rfl (Nat.le_of_ble_eq_true rfl) dT_nodesIn_2 ⟨by show 0 ≤ 0; omega, by show 0 ≤ 0; omega⟩ ?_
  refine lv_if_eq (tgt := 19) hx hb dT_nodesIn_5 (by decide) (fun c_3 => ?_) (fun c_3 => ?_)
  · skip
    refine lv_iconst (v := 0) hx hb dT_nodesIn_19 (by decide) ?_
    exact W.iret hx hb hr (fun t ht9 hW => ⟨_, rfl, by rw [sT_nodesIn, if_pos c_3], ht9⟩) (fun q h => by cases h) dT_nodesIn_20
  · skip
    refine lv_aload_n hx hb dT_nodesIn_8 rfl (lv_at hl 0 rfl) ?_
    refine va_get (D := g.1) (ci := 4) (v := .ref (ad 9)) (C := "NodeMaker$Tree") (T := Fd_T) (N := 13) hx hb ht i_T hown hK.1 hP 0 rfl rfl 4 (by decide) (ht _ q_107) (fun _ h9 => h9) rfl dT_nodesIn_9 ?_
    refine lv_iload_n hx hb dT_nodesIn_12 rfl (lv_at hl 1 rfl) ?_
    have hPc := hP.sub (ws' := rowW g (ad 9) (q 3) (cp 3) (f 3) (Rw 3).length) [12, 13] rfl
    refine ro_Vi (v := rAt (Rw 3) k) (As := [.int k]) (rest := []) ⟨hx, hb, hml, hown, ht⟩ (cR_at l g (ad 9) (q 3) (cp 3) (f 3) (Rw 3) (hz 3 (by decide)) k) (cwV 1 ht (g_V q_374 q_318 q_319 q_35 q_320) rfl rfl rfl hd_R_at ⟨Nat.le_of_ble_eq_true rfl, Nat.le_of_ble_eq_true rfl⟩) hK (hPc) (va_recv hK.1 hPc (ci := 0) (q0 := 0) rfl rfl) rfl hl.1 rfl (Nat.le_of_ble_eq_true rfl) dT_nodesIn_13 ⟨by show 0 ≤ 0; omega, by show 0 ≤ 0; omega⟩ ?_
    refine lv_goto (tgt := 20) hx hb dT_nodesIn_16 (by decide) ?_
    exact W.iret hx hb hr (fun t ht9 hW => ⟨_, rfl, by rw [sT_nodesIn, if_neg c_3], ht9⟩) (fun q h => by cases h) dT_nodesIn_20
def sT_firstPieceFrom (Rw : Nat → List Int32) (Wl : Nat → Option WV) (k : Int32) : Int32 :=
  if (sT_hasNode Rw Wl k) = 0 then
    (nI (Rw 6).length)
  else
    (rAt (Rw 5) k)
set_option maxHeartbeats 4000000 in
set_option maxRecDepth 100000 in
theorem cT_firstPieceFrom (l : Launch) (g : CX) (ad q cp : Nat → Nat) (f : Nat → Nat → Int32) (Rw : Nat → List Int32) (sl : Nat → Option Nat) (cnt h st : Int32) (LW : List Nat) (wv : Nat → WV) (hz : rowsT cp f Rw) (hsl : slOK sl LW) (k : Int32) : Met l yT_firstPieceFrom (wm yT_firstPieceFrom kT_firstPieceFrom 2 (some .int)) ({ frames := 2, cells := 0, slots := 0, locals := 41 }) (ro g [.ref (ad 0), .int k] (va_P g.1 vwCl (TW g ad q cp f Rw sl cnt h st LW wv))) (vp_Si (fun r => r = sT_firstPieceFrom Rw (wOf sl wv) k)) 0 0 (fun _ => False) := by
  refine Met.ofW (cc := kT_firstPieceFrom) (maxL := 2) (ret := (some .int)) (by decide) rfl ?_
  intro p e s m args below meth c s₁ B hml hv
  obtain ⟨rfl, hK, hP⟩ := hv
  have hx := B.exec
  have hb := B.bytes
  have hr := B.returns
  have ht : ∀ w ∈ wT, w.before _ s = true := fun w h => atoms_spec (ws := wm yT_firstPieceFrom kT_firstPieceFrom 2 (some .int)) B.pre w (List.mem_cons_of_mem _ h)
  have hown : s.vm.findClass "NodeMaker$Tree" = some m.cls := findClass_of_methodNamed B.named
  have hlocks := B.notSynchronized
  have hl := lv_entry ([.ref (ad 0), .int k]) (n := 2) (Nat.le_of_ble_eq_true rfl)
  rw [lg_entry_eq]
  generalize (lg_sl ([.ref (ad 0), .int k]) ++ List.replicate (2 - (lg_sl ([.ref (ad 0), .int k])).length) Slot.unset).toArray = ls at hl ⊢
  have hl : lv_has ls 2 [(0, .ref (ad 0)), (1, .int k)] := hl
  refine lv_aload_n hx hb dT_firstPieceFrom_0 rfl (lv_at hl 0 rfl) ?_
  refine lv_iload_n hx hb dT_firstPieceFrom_1 rfl (lv_at hl 1 rfl) ?_
  refine ro_Vi (v := sT_hasNode Rw (wOf sl wv) k) (As := [.int k]) (rest := []) ⟨hx, hb, hml, hown, ht⟩ (cT_hasNode l g ad q cp f Rw sl cnt h st LW wv hz hsl k) (cwV 1 ht (g_V q_387 q_367 q_368 q_33 q_369) rfl rfl rfl hd_T_hasNode ⟨Nat.le_of_ble_eq_true rfl, Nat.le_of_ble_eq_true rfl⟩) hK (hP) (va_recv hK.1 hP (ci := 4) (q0 := 0) rfl rfl) rfl hl.1 rfl (Nat.le_of_ble_eq_true rfl) dT_firstPieceFrom_2 ⟨by show 0 ≤ 0; omega, by show 0 ≤ 0; omega⟩ ?_
  refine lv_if_eq (tgt := 19) hx hb dT_firstPieceFrom_5 (by decide) (fun c_4 => ?_) (fun c_4 => ?_)
  · skip
    refine lv_aload_n hx hb dT_firstPieceFrom_19 rfl (lv_at hl 0 rfl) ?_
    refine va_get (D := g.1) (ci := 4) (v := .ref (ad 3)) (C := "NodeMaker$Tree") (T := Fd_T) (N := 13) hx hb ht i_T hown hK.1 hP 0 rfl rfl 7 (by decide) (ht _ q_110) (fun _ h9 => h9) rfl dT_firstPieceFrom_20 ?_
    have hPc := hP.sub (ws' := (piW g (ad 3) (fun k => ad (12 + k)) (fun k => q (6 + k)) (fun k => cp (6 + k)) (fun k => f (6 + k)) (fun k => (Rw (6 + k)).length))) [3, 18, 19, 20, 21, 22, 23] rfl
    refine ro_Vi (v := nI (Rw 6).length) (As := []) (rest := []) ⟨hx, hb, hml, hown, ht⟩ (cP_count l g (ad 3) (fun k => ad (12 + k)) (fun k => q (6 + k)) (fun k => cp (6 + k)) (fun k => f (6 + k)) (fun k => Rw (6 + k)) (rows_3 6 (by decide) hz) ) (cwV 0 ht (g_V q_300 q_301 q_302 q_36 q_303) rfl rfl rfl hd_P_count ⟨Nat.le_of_ble_eq_true rfl, Nat.le_of_ble_eq_true rfl⟩) hK (hPc) (va_recv hK.1 hPc (ci := 1) (q0 := 0) rfl rfl) rfl hl.1 rfl (Nat.le_of_ble_eq_true rfl) dT_firstPieceFrom_23 ⟨by show 0 ≤ 0; omega, by show 0 ≤ 0; omega⟩ ?_
    exact W.iret hx hb hr (fun t ht9 hW => ⟨_, rfl, by rw [sT_firstPieceFrom, if_pos c_4], ht9⟩) (fun q h => by cases h) dT_firstPieceFrom_26
  · skip
    refine lv_aload_n hx hb dT_firstPieceFrom_8 rfl (lv_at hl 0 rfl) ?_
    refine va_get (D := g.1) (ci := 4) (v := .ref (ad 11)) (C := "NodeMaker$Tree") (T := Fd_T) (N := 13) hx hb ht i_T hown hK.1 hP 0 rfl rfl 6 (by decide) (ht _ q_109) (fun _ h9 => h9) rfl dT_firstPieceFrom_9 ?_
    refine lv_iload_n hx hb dT_firstPieceFrom_12 rfl (lv_at hl 1 rfl) ?_
    have hPc := hP.sub (ws' := rowW g (ad 11) (q 5) (cp 5) (f 5) (Rw 5).length) [16, 17] rfl
    refine ro_Vi (v := rAt (Rw 5) k) (As := [.int k]) (rest := []) ⟨hx, hb, hml, hown, ht⟩ (cR_at l g (ad 11) (q 5) (cp 5) (f 5) (Rw 5) (hz 5 (by decide)) k) (cwV 1 ht (g_V q_374 q_318 q_319 q_35 q_320) rfl rfl rfl hd_R_at ⟨Nat.le_of_ble_eq_true rfl, Nat.le_of_ble_eq_true rfl⟩) hK (hPc) (va_recv hK.1 hPc (ci := 0) (q0 := 0) rfl rfl) rfl hl.1 rfl (Nat.le_of_ble_eq_true rfl) dT_firstPieceFrom_13 ⟨by show 0 ≤ 0; omega, by show 0 ≤ 0; omega⟩ ?_
    refine lv_goto (tgt := 26) hx hb dT_firstPieceFrom_16 (by decide) ?_
    exact W.iret hx hb hr (fun t ht9 hW => ⟨_, rfl, by rw [sT_firstPieceFrom, if_neg c_4], ht9⟩) (fun q h => by cases h) dT_firstPieceFrom_26
def sT_ownPieces (Rw : Nat → List Int32) (Wl : Nat → Option WV) (k : Int32) : Int32 :=
  if (sT_hasNode Rw Wl k) = 0 then
    0
  else
    ((sT_firstPieceFrom Rw Wl (k + 1)) - (sT_firstPieceFrom Rw Wl k))
set_option maxHeartbeats 4000000 in
set_option maxRecDepth 100000 in
theorem cT_ownPieces (l : Launch) (g : CX) (ad q cp : Nat → Nat) (f : Nat → Nat → Int32) (Rw : Nat → List Int32) (sl : Nat → Option Nat) (cnt h st : Int32) (LW : List Nat) (wv : Nat → WV) (hz : rowsT cp f Rw) (hsl : slOK sl LW) (k : Int32) : Met l yT_ownPieces (wm yT_ownPieces kT_ownPieces 2 (some .int)) ({ frames := 3, cells := 0, slots := 0, locals := 62 }) (ro g [.ref (ad 0), .int k] (va_P g.1 vwCl (TW g ad q cp f Rw sl cnt h st LW wv))) (vp_Si (fun r => r = sT_ownPieces Rw (wOf sl wv) k)) 0 0 (fun _ => False) := by
  refine Met.ofW (cc := kT_ownPieces) (maxL := 2) (ret := (some .int)) (by decide) rfl ?_
  intro p e s m args below meth c s₁ B hml hv
  obtain ⟨rfl, hK, hP⟩ := hv
  have hx := B.exec
  have hb := B.bytes
  have hr := B.returns
  have ht : ∀ w ∈ wT, w.before _ s = true := fun w h => atoms_spec (ws := wm yT_ownPieces kT_ownPieces 2 (some .int)) B.pre w (List.mem_cons_of_mem _ h)
  have hown : s.vm.findClass "NodeMaker$Tree" = some m.cls := findClass_of_methodNamed B.named
  have hlocks := B.notSynchronized
  have hl := lv_entry ([.ref (ad 0), .int k]) (n := 2) (Nat.le_of_ble_eq_true rfl)
  rw [lg_entry_eq]
  generalize (lg_sl ([.ref (ad 0), .int k]) ++ List.replicate (2 - (lg_sl ([.ref (ad 0), .int k])).length) Slot.unset).toArray = ls at hl ⊢
  have hl : lv_has ls 2 [(0, .ref (ad 0)), (1, .int k)] := hl
  refine lv_aload_n hx hb dT_ownPieces_0 rfl (lv_at hl 0 rfl) ?_
  refine lv_iload_n hx hb dT_ownPieces_1 rfl (lv_at hl 1 rfl) ?_
  refine ro_Vi (v := sT_hasNode Rw (wOf sl wv) k) (As := [.int k]) (rest := []) ⟨hx, hb, hml, hown, ht⟩ (cT_hasNode l g ad q cp f Rw sl cnt h st LW wv hz hsl k) (cwV 1 ht (g_V q_387 q_367 q_368 q_33 q_369) rfl rfl rfl hd_T_hasNode ⟨Nat.le_of_ble_eq_true rfl, Nat.le_of_ble_eq_true rfl⟩) hK (hP) (va_recv hK.1 hP (ci := 4) (q0 := 0) rfl rfl) rfl hl.1 rfl (Nat.le_of_ble_eq_true rfl) dT_ownPieces_2 ⟨by show 0 ≤ 0; omega, by show 0 ≤ 0; omega⟩ ?_
  refine lv_if_eq (tgt := 24) hx hb dT_ownPieces_5 (by decide) (fun c_5 => ?_) (fun c_5 => ?_)
  · skip
    refine lv_iconst (v := 0) hx hb dT_ownPieces_24 (by decide) ?_
    exact W.iret hx hb hr (fun t ht9 hW => ⟨_, rfl, by rw [sT_ownPieces, if_pos c_5], ht9⟩) (fun q h => by cases h) dT_ownPieces_25
  · skip
    refine lv_aload_n hx hb dT_ownPieces_8 rfl (lv_at hl 0 rfl) ?_
    refine lv_iload_n hx hb dT_ownPieces_9 rfl (lv_at hl 1 rfl) ?_
    refine lv_iconst (v := 1) hx hb dT_ownPieces_10 (by decide) ?_
    refine lv_iadd hx hb dT_ownPieces_11 ?_
    refine ro_Vi (v := sT_firstPieceFrom Rw (wOf sl wv) (k + 1)) (As := [.int (k + 1)]) (rest := []) ⟨hx, hb, hml, hown, ht⟩ (cT_firstPieceFrom l g ad q cp f Rw sl cnt h st LW wv hz hsl (k + 1)) (cwV 1 ht (g_V q_388 q_390 q_6 q_33 q_391) rfl rfl rfl hd_T_firstPieceFrom ⟨Nat.le_of_ble_eq_true rfl, Nat.le_of_ble_eq_true rfl⟩) hK (hP) (va_recv hK.1 hP (ci := 4) (q0 := 0) rfl rfl) rfl hl.1 rfl (Nat.le_of_ble_eq_true rfl) dT_ownPieces_12 ⟨by show 0 ≤ 0; omega, by show 0 ≤ 0; omega⟩ ?_
    refine lv_aload_n hx hb dT_ownPieces_15 rfl (lv_at hl 0 rfl) ?_
    refine lv_iload_n hx hb dT_ownPieces_16 rfl (lv_at hl 1 rfl) ?_
    refine ro_Vi (v := sT_firstPieceFrom Rw (wOf sl wv) k) (As := [.int k]) (rest := [.int (sT_firstPieceFrom Rw (wOf sl wv) (k + 1))]) ⟨hx, hb, hml, hown, ht⟩ (cT_firstPieceFrom l g ad q cp f Rw sl cnt h st LW wv hz hsl k) (cwV 1 ht (g_V q_388 q_390 q_6 q_33 q_391) rfl rfl rfl hd_T_firstPieceFrom ⟨Nat.le_of_ble_eq_true rfl, Nat.le_of_ble_eq_true rfl⟩) hK (hP) (va_recv hK.1 hP (ci := 4) (q0 := 0) rfl rfl) rfl hl.1 rfl (Nat.le_of_ble_eq_true rfl) dT_ownPieces_17 ⟨by show 0 ≤ 0; omega, by show 0 ≤ 0; omega⟩ ?_
    refine lv_isub hx hb dT_ownPieces_20 ?_
    refine lv_goto (tgt := 25) hx hb dT_ownPieces_21 (by decide) ?_
    exact W.iret hx hb hr (fun t ht9 hW => ⟨_, rfl, by rw [sT_ownPieces, if_neg c_5], ht9⟩) (fun q h => by cases h) dT_ownPieces_25
def sT_piecesIn (Rw : Nat → List Int32) (Wl : Nat → Option WV) (k : Int32) : Int32 :=
  if (sT_hasNode Rw Wl k) = 0 then
    0
  else
    ((sT_firstPieceFrom Rw Wl (k + (rAt (Rw 3) k))) - (sT_firstPieceFrom Rw Wl k))
set_option maxHeartbeats 4000000 in
set_option maxRecDepth 100000 in
theorem cT_piecesIn (l : Launch) (g : CX) (ad q cp : Nat → Nat) (f : Nat → Nat → Int32) (Rw : Nat → List Int32) (sl : Nat → Option Nat) (cnt h st : Int32) (LW : List Nat) (wv : Nat → WV) (hz : rowsT cp f Rw) (hsl : slOK sl LW) (k : Int32) : Met l yT_piecesIn (wm yT_piecesIn kT_piecesIn 2 (some .int)) ({ frames := 3, cells := 0, slots := 0, locals := 62 }) (ro g [.ref (ad 0), .int k] (va_P g.1 vwCl (TW g ad q cp f Rw sl cnt h st LW wv))) (vp_Si (fun r => r = sT_piecesIn Rw (wOf sl wv) k)) 0 0 (fun _ => False) := by
  refine Met.ofW (cc := kT_piecesIn) (maxL := 2) (ret := (some .int)) (by decide) rfl ?_
  intro p e s m args below meth c s₁ B hml hv
  obtain ⟨rfl, hK, hP⟩ := hv
  have hx := B.exec
  have hb := B.bytes
  have hr := B.returns
  have ht : ∀ w ∈ wT, w.before _ s = true := fun w h => atoms_spec (ws := wm yT_piecesIn kT_piecesIn 2 (some .int)) B.pre w (List.mem_cons_of_mem _ h)
  have hown : s.vm.findClass "NodeMaker$Tree" = some m.cls := findClass_of_methodNamed B.named
  have hlocks := B.notSynchronized
  have hl := lv_entry ([.ref (ad 0), .int k]) (n := 2) (Nat.le_of_ble_eq_true rfl)
  rw [lg_entry_eq]
  generalize (lg_sl ([.ref (ad 0), .int k]) ++ List.replicate (2 - (lg_sl ([.ref (ad 0), .int k])).length) Slot.unset).toArray = ls at hl ⊢
  have hl : lv_has ls 2 [(0, .ref (ad 0)), (1, .int k)] := hl
  refine lv_aload_n hx hb dT_piecesIn_0 rfl (lv_at hl 0 rfl) ?_
  refine lv_iload_n hx hb dT_piecesIn_1 rfl (lv_at hl 1 rfl) ?_
  refine ro_Vi (v := sT_hasNode Rw (wOf sl wv) k) (As := [.int k]) (rest := []) ⟨hx, hb, hml, hown, ht⟩ (cT_hasNode l g ad q cp f Rw sl cnt h st LW wv hz hsl k) (cwV 1 ht (g_V q_387 q_367 q_368 q_33 q_369) rfl rfl rfl hd_T_hasNode ⟨Nat.le_of_ble_eq_true rfl, Nat.le_of_ble_eq_true rfl⟩) hK (hP) (va_recv hK.1 hP (ci := 4) (q0 := 0) rfl rfl) rfl hl.1 rfl (Nat.le_of_ble_eq_true rfl) dT_piecesIn_2 ⟨by show 0 ≤ 0; omega, by show 0 ≤ 0; omega⟩ ?_
  refine lv_if_eq (tgt := 31) hx hb dT_piecesIn_5 (by decide) (fun c_6 => ?_) (fun c_6 => ?_)
  · skip
    refine lv_iconst (v := 0) hx hb dT_piecesIn_31 (by decide) ?_
    exact W.iret hx hb hr (fun t ht9 hW => ⟨_, rfl, by rw [sT_piecesIn, if_pos c_6], ht9⟩) (fun q h => by cases h) dT_piecesIn_32
  · skip
    refine lv_aload_n hx hb dT_piecesIn_8 rfl (lv_at hl 0 rfl) ?_
    refine lv_iload_n hx hb dT_piecesIn_9 rfl (lv_at hl 1 rfl) ?_
    refine lv_aload_n hx hb dT_piecesIn_10 rfl (lv_at hl 0 rfl) ?_
    refine va_get (D := g.1) (ci := 4) (v := .ref (ad 9)) (C := "NodeMaker$Tree") (T := Fd_T) (N := 13) hx hb ht i_T hown hK.1 hP 0 rfl rfl 4 (by decide) (ht _ q_107) (fun _ h9 => h9) rfl dT_piecesIn_11 ?_
    refine lv_iload_n hx hb dT_piecesIn_14 rfl (lv_at hl 1 rfl) ?_
    have hPc := hP.sub (ws' := rowW g (ad 9) (q 3) (cp 3) (f 3) (Rw 3).length) [12, 13] rfl
    refine ro_Vi (v := rAt (Rw 3) k) (As := [.int k]) (rest := [.int k, .ref (ad 0)]) ⟨hx, hb, hml, hown, ht⟩ (cR_at l g (ad 9) (q 3) (cp 3) (f 3) (Rw 3) (hz 3 (by decide)) k) (cwV 1 ht (g_V q_374 q_318 q_319 q_35 q_320) rfl rfl rfl hd_R_at ⟨Nat.le_of_ble_eq_true rfl, Nat.le_of_ble_eq_true rfl⟩) hK (hPc) (va_recv hK.1 hPc (ci := 0) (q0 := 0) rfl rfl) rfl hl.1 rfl (Nat.le_of_ble_eq_true rfl) dT_piecesIn_15 ⟨by show 0 ≤ 0; omega, by show 0 ≤ 0; omega⟩ ?_
    refine lv_iadd hx hb dT_piecesIn_18 ?_
    refine ro_Vi (v := sT_firstPieceFrom Rw (wOf sl wv) (k + (rAt (Rw 3) k))) (As := [.int (k + (rAt (Rw 3) k))]) (rest := []) ⟨hx, hb, hml, hown, ht⟩ (cT_firstPieceFrom l g ad q cp f Rw sl cnt h st LW wv hz hsl (k + (rAt (Rw 3) k))) (cwV 1 ht (g_V q_388 q_390 q_6 q_33 q_391) rfl rfl rfl hd_T_firstPieceFrom ⟨Nat.le_of_ble_eq_true rfl, Nat.le_of_ble_eq_true rfl⟩) hK (hP) (va_recv hK.1 hP (ci := 4) (q0 := 0) rfl rfl) rfl hl.1 rfl (Nat.le_of_ble_eq_true rfl) dT_piecesIn_19 ⟨by show 0 ≤ 0; omega, by show 0 ≤ 0; omega⟩ ?_
    refine lv_aload_n hx hb dT_piecesIn_22 rfl (lv_at hl 0 rfl) ?_
    refine lv_iload_n hx hb dT_piecesIn_23 rfl (lv_at hl 1 rfl) ?_
    refine ro_Vi (v := sT_firstPieceFrom Rw (wOf sl wv) k) (As := [.int k]) (rest := [.int (sT_firstPieceFrom Rw (wOf sl wv) (k + (rAt (Rw 3) k)))]) ⟨hx, hb, hml, hown, ht⟩ (cT_firstPieceFrom l g ad q cp f Rw sl cnt h st LW wv hz hsl k) (cwV 1 ht (g_V q_388 q_390 q_6 q_33 q_391) rfl rfl rfl hd_T_firstPieceFrom ⟨Nat.le_of_ble_eq_true rfl, Nat.le_of_ble_eq_true rfl⟩) hK (hP) (va_recv hK.1 hP (ci := 4) (q0 := 0) rfl rfl) rfl hl.1 rfl (Nat.le_of_ble_eq_true rfl) dT_piecesIn_24 ⟨by show 0 ≤ 0; omega, by show 0 ≤ 0; omega⟩ ?_
    refine lv_isub hx hb dT_piecesIn_27 ?_
    refine lv_goto (tgt := 32) hx hb dT_piecesIn_28 (by decide) ?_
    exact W.iret hx hb hr (fun t ht9 hW => ⟨_, rfl, by rw [sT_piecesIn, if_neg c_6], ht9⟩) (fun q h => by cases h) dT_piecesIn_32
def sT_wallOfPiece (Rw : Nat → List Int32) (Wl : Nat → Option WV) (k : Int32) : Int32 :=
  (rAt (Rw 6) k)
set_option maxHeartbeats 4000000 in
set_option maxRecDepth 100000 in
theorem cT_wallOfPiece (l : Launch) (g : CX) (ad q cp : Nat → Nat) (f : Nat → Nat → Int32) (Rw : Nat → List Int32) (sl : Nat → Option Nat) (cnt h st : Int32) (LW : List Nat) (wv : Nat → WV) (hz : rowsT cp f Rw) (hsl : slOK sl LW) (k : Int32) : Met l yT_wallOfPiece (wm yT_wallOfPiece kT_wallOfPiece 2 (some .int)) ({ frames := 2, cells := 0, slots := 0, locals := 42 }) (ro g [.ref (ad 0), .int k] (va_P g.1 vwCl (TW g ad q cp f Rw sl cnt h st LW wv))) (vp_Si (fun r => r = sT_wallOfPiece Rw (wOf sl wv) k)) 0 0 (fun _ => False) := by
  refine Met.ofW (cc := kT_wallOfPiece) (maxL := 2) (ret := (some .int)) (by decide) rfl ?_
  intro p e s m args below meth c s₁ B hml hv
  obtain ⟨rfl, hK, hP⟩ := hv
  have hx := B.exec
  have hb := B.bytes
  have hr := B.returns
  have ht : ∀ w ∈ wT, w.before _ s = true := fun w h => atoms_spec (ws := wm yT_wallOfPiece kT_wallOfPiece 2 (some .int)) B.pre w (List.mem_cons_of_mem _ h)
  have hown : s.vm.findClass "NodeMaker$Tree" = some m.cls := findClass_of_methodNamed B.named
  have hlocks := B.notSynchronized
  have hl := lv_entry ([.ref (ad 0), .int k]) (n := 2) (Nat.le_of_ble_eq_true rfl)
  rw [lg_entry_eq]
  generalize (lg_sl ([.ref (ad 0), .int k]) ++ List.replicate (2 - (lg_sl ([.ref (ad 0), .int k])).length) Slot.unset).toArray = ls at hl ⊢
  have hl : lv_has ls 2 [(0, .ref (ad 0)), (1, .int k)] := hl
  refine lv_aload_n hx hb dT_wallOfPiece_0 rfl (lv_at hl 0 rfl) ?_
  refine va_get (D := g.1) (ci := 4) (v := .ref (ad 3)) (C := "NodeMaker$Tree") (T := Fd_T) (N := 13) hx hb ht i_T hown hK.1 hP 0 rfl rfl 7 (by decide) (ht _ q_110) (fun _ h9 => h9) rfl dT_wallOfPiece_1 ?_
  refine lv_iload_n hx hb dT_wallOfPiece_4 rfl (lv_at hl 1 rfl) ?_
  have hPc := hP.sub (ws' := (piW g (ad 3) (fun k => ad (12 + k)) (fun k => q (6 + k)) (fun k => cp (6 + k)) (fun k => f (6 + k)) (fun k => (Rw (6 + k)).length))) [3, 18, 19, 20, 21, 22, 23] rfl
  refine ro_Vi (v := rAt (Rw 6) k) (As := [.int k]) (rest := []) ⟨hx, hb, hml, hown, ht⟩ (cP_wallAt l g (ad 3) (fun k => ad (12 + k)) (fun k => q (6 + k)) (fun k => cp (6 + k)) (fun k => f (6 + k)) (fun k => Rw (6 + k)) (rows_3 6 (by decide) hz) k) (cwV 1 ht (g_V q_313 q_314 q_315 q_36 q_316) rfl rfl rfl hd_P_wallAt ⟨Nat.le_of_ble_eq_true rfl, Nat.le_of_ble_eq_true rfl⟩) hK (hPc) (va_recv hK.1 hPc (ci := 1) (q0 := 0) rfl rfl) rfl hl.1 rfl (Nat.le_of_ble_eq_true rfl) dT_wallOfPiece_5 ⟨by show 0 ≤ 0; omega, by show 0 ≤ 0; omega⟩ ?_
  exact W.iret hx hb hr (fun t ht9 hW => ⟨_, rfl, rfl, ht9⟩) (fun q h => by cases h) dT_wallOfPiece_8
def sT_nodeOfPiece (Rw : Nat → List Int32) (Wl : Nat → Option WV) (k : Int32) : Int32 :=
  (rAt (Rw 9) k)
set_option maxHeartbeats 4000000 in
set_option maxRecDepth 100000 in
theorem cT_nodeOfPiece (l : Launch) (g : CX) (ad q cp : Nat → Nat) (f : Nat → Nat → Int32) (Rw : Nat → List Int32) (sl : Nat → Option Nat) (cnt h st : Int32) (LW : List Nat) (wv : Nat → WV) (hz : rowsT cp f Rw) (hsl : slOK sl LW) (k : Int32) : Met l yT_nodeOfPiece (wm yT_nodeOfPiece kT_nodeOfPiece 2 (some .int)) ({ frames := 1, cells := 0, slots := 0, locals := 21 }) (ro g [.ref (ad 0), .int k] (va_P g.1 vwCl (TW g ad q cp f Rw sl cnt h st LW wv))) (vp_Si (fun r => r = sT_nodeOfPiece Rw (wOf sl wv) k)) 0 0 (fun _ => False) := by
  refine Met.ofW (cc := kT_nodeOfPiece) (maxL := 2) (ret := (some .int)) (by decide) rfl ?_
  intro p e s m args below meth c s₁ B hml hv
  obtain ⟨rfl, hK, hP⟩ := hv
  have hx := B.exec
  have hb := B.bytes
  have hr := B.returns
  have ht : ∀ w ∈ wT, w.before _ s = true := fun w h => atoms_spec (ws := wm yT_nodeOfPiece kT_nodeOfPiece 2 (some .int)) B.pre w (List.mem_cons_of_mem _ h)
  have hown : s.vm.findClass "NodeMaker$Tree" = some m.cls := findClass_of_methodNamed B.named
  have hlocks := B.notSynchronized
  have hl := lv_entry ([.ref (ad 0), .int k]) (n := 2) (Nat.le_of_ble_eq_true rfl)
  rw [lg_entry_eq]
  generalize (lg_sl ([.ref (ad 0), .int k]) ++ List.replicate (2 - (lg_sl ([.ref (ad 0), .int k])).length) Slot.unset).toArray = ls at hl ⊢
  have hl : lv_has ls 2 [(0, .ref (ad 0)), (1, .int k)] := hl
  refine lv_aload_n hx hb dT_nodeOfPiece_0 rfl (lv_at hl 0 rfl) ?_
  refine va_get (D := g.1) (ci := 4) (v := .ref (ad 15)) (C := "NodeMaker$Tree") (T := Fd_T) (N := 13) hx hb ht i_T hown hK.1 hP 0 rfl rfl 8 (by decide) (ht _ q_111) (fun _ h9 => h9) rfl dT_nodeOfPiece_1 ?_
  refine lv_iload_n hx hb dT_nodeOfPiece_4 rfl (lv_at hl 1 rfl) ?_
  have hPc := hP.sub (ws' := rowW g (ad 15) (q 9) (cp 9) (f 9) (Rw 9).length) [24, 25] rfl
  refine ro_Vi (v := rAt (Rw 9) k) (As := [.int k]) (rest := []) ⟨hx, hb, hml, hown, ht⟩ (cR_at l g (ad 15) (q 9) (cp 9) (f 9) (Rw 9) (hz 9 (by decide)) k) (cwV 1 ht (g_V q_374 q_318 q_319 q_35 q_320) rfl rfl rfl hd_R_at ⟨Nat.le_of_ble_eq_true rfl, Nat.le_of_ble_eq_true rfl⟩) hK (hPc) (va_recv hK.1 hPc (ci := 0) (q0 := 0) rfl rfl) rfl hl.1 rfl (Nat.le_of_ble_eq_true rfl) dT_nodeOfPiece_5 ⟨by show 0 ≤ 0; omega, by show 0 ≤ 0; omega⟩ ?_
  exact W.iret hx hb hr (fun t ht9 hW => ⟨_, rfl, rfl, ht9⟩) (fun q h => by cases h) dT_nodeOfPiece_8
def sT_placeInNode (Rw : Nat → List Int32) (Wl : Nat → Option WV) (k : Int32) : Int32 :=
  if k = (-1) then
    (-1)
  else
    (k - (sT_firstPieceFrom Rw Wl (rAt (Rw 9) k)))
set_option maxHeartbeats 4000000 in
set_option maxRecDepth 100000 in
theorem cT_placeInNode (l : Launch) (g : CX) (ad q cp : Nat → Nat) (f : Nat → Nat → Int32) (Rw : Nat → List Int32) (sl : Nat → Option Nat) (cnt h st : Int32) (LW : List Nat) (wv : Nat → WV) (hz : rowsT cp f Rw) (hsl : slOK sl LW) (k : Int32) : Met l yT_placeInNode (wm yT_placeInNode kT_placeInNode 2 (some .int)) ({ frames := 3, cells := 0, slots := 0, locals := 62 }) (ro g [.ref (ad 0), .int k] (va_P g.1 vwCl (TW g ad q cp f Rw sl cnt h st LW wv))) (vp_Si (fun r => r = sT_placeInNode Rw (wOf sl wv) k)) 0 0 (fun _ => False) := by
  refine Met.ofW (cc := kT_placeInNode) (maxL := 2) (ret := (some .int)) (by decide) rfl ?_
  intro p e s m args below meth c s₁ B hml hv
  obtain ⟨rfl, hK, hP⟩ := hv
  have hx := B.exec
  have hb := B.bytes
  have hr := B.returns
  have ht : ∀ w ∈ wT, w.before _ s = true := fun w h => atoms_spec (ws := wm yT_placeInNode kT_placeInNode 2 (some .int)) B.pre w (List.mem_cons_of_mem _ h)
  have hown : s.vm.findClass "NodeMaker$Tree" = some m.cls := findClass_of_methodNamed B.named
  have hlocks := B.notSynchronized
  have hl := lv_entry ([.ref (ad 0), .int k]) (n := 2) (Nat.le_of_ble_eq_true rfl)
  rw [lg_entry_eq]
  generalize (lg_sl ([.ref (ad 0), .int k]) ++ List.replicate (2 - (lg_sl ([.ref (ad 0), .int k])).length) Slot.unset).toArray = ls at hl ⊢
  have hl : lv_has ls 2 [(0, .ref (ad 0)), (1, .int k)] := hl
  refine lv_iload_n hx hb dT_placeInNode_0 rfl (lv_at hl 1 rfl) ?_
  refine lv_iconst (v := -1) hx hb dT_placeInNode_1 (by decide) ?_
  refine lv_icmp_ne (tgt := 9) hx hb dT_placeInNode_2 (by decide) (fun c_7 => ?_) (fun c_7 => ?_)
  · skip
    refine lv_iload_n hx hb dT_placeInNode_9 rfl (lv_at hl 1 rfl) ?_
    refine lv_aload_n hx hb dT_placeInNode_10 rfl (lv_at hl 0 rfl) ?_
    refine lv_aload_n hx hb dT_placeInNode_11 rfl (lv_at hl 0 rfl) ?_
    refine va_get (D := g.1) (ci := 4) (v := .ref (ad 15)) (C := "NodeMaker$Tree") (T := Fd_T) (N := 13) hx hb ht i_T hown hK.1 hP 0 rfl rfl 8 (by decide) (ht _ q_111) (fun _ h9 => h9) rfl dT_placeInNode_12 ?_
    refine lv_iload_n hx hb dT_placeInNode_15 rfl (lv_at hl 1 rfl) ?_
    have hPc := hP.sub (ws' := rowW g (ad 15) (q 9) (cp 9) (f 9) (Rw 9).length) [24, 25] rfl
    refine ro_Vi (v := rAt (Rw 9) k) (As := [.int k]) (rest := [.ref (ad 0), .int k]) ⟨hx, hb, hml, hown, ht⟩ (cR_at l g (ad 15) (q 9) (cp 9) (f 9) (Rw 9) (hz 9 (by decide)) k) (cwV 1 ht (g_V q_374 q_318 q_319 q_35 q_320) rfl rfl rfl hd_R_at ⟨Nat.le_of_ble_eq_true rfl, Nat.le_of_ble_eq_true rfl⟩) hK (hPc) (va_recv hK.1 hPc (ci := 0) (q0 := 0) rfl rfl) rfl hl.1 rfl (Nat.le_of_ble_eq_true rfl) dT_placeInNode_16 ⟨by show 0 ≤ 0; omega, by show 0 ≤ 0; omega⟩ ?_
    refine ro_Vi (v := sT_firstPieceFrom Rw (wOf sl wv) (rAt (Rw 9) k)) (As := [.int (rAt (Rw 9) k)]) (rest := [.int k]) ⟨hx, hb, hml, hown, ht⟩ (cT_firstPieceFrom l g ad q cp f Rw sl cnt h st LW wv hz hsl (rAt (Rw 9) k)) (cwV 1 ht (g_V q_388 q_390 q_6 q_33 q_391) rfl rfl rfl hd_T_firstPieceFrom ⟨Nat.le_of_ble_eq_true rfl, Nat.le_of_ble_eq_true rfl⟩) hK (hP) (va_recv hK.1 hP (ci := 4) (q0 := 0) rfl rfl) rfl hl.1 rfl (Nat.le_of_ble_eq_true rfl) dT_placeInNode_19 ⟨by show 0 ≤ 0; omega, by show 0 ≤ 0; omega⟩ ?_
    refine lv_isub hx hb dT_placeInNode_22 ?_
    exact W.iret hx hb hr (fun t ht9 hW => ⟨_, rfl, by rw [sT_placeInNode, if_neg c_7], ht9⟩) (fun q h => by cases h) dT_placeInNode_23
  · skip
    refine lv_iconst (v := -1) hx hb dT_placeInNode_5 (by decide) ?_
    refine lv_goto (tgt := 23) hx hb dT_placeInNode_6 (by decide) ?_
    exact W.iret hx hb hr (fun t ht9 hW => ⟨_, rfl, by rw [sT_placeInNode, if_pos c_7], ht9⟩) (fun q h => by cases h) dT_placeInNode_23
def sT_pieceAt (Rw : Nat → List Int32) (Wl : Nat → Option WV) (k : Int32) (i : Int32) : Int32 :=
  if i < 0 then
    (-1)
  else
    if (sT_ownPieces Rw Wl k) ≤ i then
      (-1)
    else
      ((sT_firstPieceFrom Rw Wl k) + i)
set_option maxHeartbeats 4000000 in
set_option maxRecDepth 100000 in
theorem cT_pieceAt (l : Launch) (g : CX) (ad q cp : Nat → Nat) (f : Nat → Nat → Int32) (Rw : Nat → List Int32) (sl : Nat → Option Nat) (cnt h st : Int32) (LW : List Nat) (wv : Nat → WV) (hz : rowsT cp f Rw) (hsl : slOK sl LW) (k : Int32) (i : Int32) : Met l yT_pieceAt (wm yT_pieceAt kT_pieceAt 3 (some .int)) ({ frames := 4, cells := 0, slots := 0, locals := 83 }) (ro g [.ref (ad 0), .int k, .int i] (va_P g.1 vwCl (TW g ad q cp f Rw sl cnt h st LW wv))) (vp_Si (fun r => r = sT_pieceAt Rw (wOf sl wv) k i)) 0 0 (fun _ => False) := by
  refine Met.ofW (cc := kT_pieceAt) (maxL := 3) (ret := (some .int)) (by decide) rfl ?_
  intro p e s m args below meth c s₁ B hml hv
  obtain ⟨rfl, hK, hP⟩ := hv
  have hx := B.exec
  have hb := B.bytes
  have hr := B.returns
  have ht : ∀ w ∈ wT, w.before _ s = true := fun w h => atoms_spec (ws := wm yT_pieceAt kT_pieceAt 3 (some .int)) B.pre w (List.mem_cons_of_mem _ h)
  have hown : s.vm.findClass "NodeMaker$Tree" = some m.cls := findClass_of_methodNamed B.named
  have hlocks := B.notSynchronized
  have hl := lv_entry ([.ref (ad 0), .int k, .int i]) (n := 3) (Nat.le_of_ble_eq_true rfl)
  rw [lg_entry_eq]
  generalize (lg_sl ([.ref (ad 0), .int k, .int i]) ++ List.replicate (3 - (lg_sl ([.ref (ad 0), .int k, .int i])).length) Slot.unset).toArray = ls at hl ⊢
  have hl : lv_has ls 3 [(0, .ref (ad 0)), (1, .int k), (2, .int i)] := hl
  refine lv_iload_n hx hb dT_pieceAt_0 rfl (lv_at hl 2 rfl) ?_
  refine lv_if_lt (tgt := 23) hx hb dT_pieceAt_1 (by decide) (fun c_8 => ?_) (fun c_8 => ?_)
  · skip
    refine lv_iconst (v := -1) hx hb dT_pieceAt_23 (by decide) ?_
    exact W.iret hx hb hr (fun t ht9 hW => ⟨_, rfl, by rw [sT_pieceAt, if_pos c_8], ht9⟩) (fun q h => by cases h) dT_pieceAt_24
  · skip
    refine lv_iload_n hx hb dT_pieceAt_4 rfl (lv_at hl 2 rfl) ?_
    refine lv_aload_n hx hb dT_pieceAt_5 rfl (lv_at hl 0 rfl) ?_
    refine lv_iload_n hx hb dT_pieceAt_6 rfl (lv_at hl 1 rfl) ?_
    refine ro_Vi (v := sT_ownPieces Rw (wOf sl wv) k) (As := [.int k]) (rest := [.int i]) ⟨hx, hb, hml, hown, ht⟩ (cT_ownPieces l g ad q cp f Rw sl cnt h st LW wv hz hsl k) (cwV 1 ht (g_V q_408 q_384 q_385 q_33 q_386) rfl rfl rfl hd_T_ownPieces ⟨Nat.le_of_ble_eq_true rfl, Nat.le_of_ble_eq_true rfl⟩) hK (hP) (va_recv hK.1 hP (ci := 4) (q0 := 0) rfl rfl) rfl hl.1 rfl (Nat.le_of_ble_eq_true rfl) dT_pieceAt_7 ⟨by show 0 ≤ 0; omega, by show 0 ≤ 0; omega⟩ ?_
    refine lv_icmp_ge (tgt := 23) hx hb dT_pieceAt_10 (by decide) (fun c_9 => ?_) (fun c_9 => ?_)
    · skip
      refine lv_iconst (v := -1) hx hb dT_pieceAt_23 (by decide) ?_
      exact W.iret hx hb hr (fun t ht9 hW => ⟨_, rfl, by rw [sT_pieceAt, if_neg c_8, if_pos c_9], ht9⟩) (fun q h => by cases h) dT_pieceAt_24
    · skip
      refine lv_aload_n hx hb dT_pieceAt_13 rfl (lv_at hl 0 rfl) ?_
      refine lv_iload_n hx hb dT_pieceAt_14 rfl (lv_at hl 1 rfl) ?_
      refine ro_Vi (v := sT_firstPieceFrom Rw (wOf sl wv) k) (As := [.int k]) (rest := []) ⟨hx, hb, hml, hown, ht⟩ (cT_firstPieceFrom l g ad q cp f Rw sl cnt h st LW wv hz hsl k) (cwV 1 ht (g_V q_388 q_390 q_6 q_33 q_391) rfl rfl rfl hd_T_firstPieceFrom ⟨Nat.le_of_ble_eq_true rfl, Nat.le_of_ble_eq_true rfl⟩) hK (hP) (va_recv hK.1 hP (ci := 4) (q0 := 0) rfl rfl) rfl hl.1 rfl (Nat.le_of_ble_eq_true rfl) dT_pieceAt_15 ⟨by show 0 ≤ 0; omega, by show 0 ≤ 0; omega⟩ ?_
      refine lv_iload_n hx hb dT_pieceAt_18 rfl (lv_at hl 2 rfl) ?_
      refine lv_iadd hx hb dT_pieceAt_19 ?_
      refine lv_goto (tgt := 24) hx hb dT_pieceAt_20 (by decide) ?_
      exact W.iret hx hb hr (fun t ht9 hW => ⟨_, rfl, by rw [sT_pieceAt, if_neg c_8, if_neg c_9], ht9⟩) (fun q h => by cases h) dT_pieceAt_24
end
section
set_option maxHeartbeats 4000000 in
set_option maxRecDepth 100000 in
theorem cT_height (l : Launch) (g : CX) (ad q cp : Nat → Nat) (f : Nat → Nat → Int32) (Rw : Nat → List Int32) (sl : Nat → Option Nat) (cnt h st : Int32) (LW : List Nat) (wv : Nat → WV) (hz : rowsT cp f Rw) (hsl : slOK sl LW) : Met l yT_height (wm yT_height kT_height 1 (some .int)) ({ frames := 0, cells := 0, slots := 0, locals := 0 }) (ro g [.ref (ad 0)] (va_P g.1 vwCl (TW g ad q cp f Rw sl cnt h st LW wv))) (vp_Si (fun r => r = h)) 0 0 (fun _ => False) := by
  refine Met.ofW (cc := kT_height) (maxL := 1) (ret := (some .int)) (by decide) rfl ?_
  intro p e s m args below meth c s₁ B hml hv
  obtain ⟨rfl, hK, hP⟩ := hv
  have hx := B.exec
  have hb := B.bytes
  have hr := B.returns
  have ht : ∀ w ∈ wT, w.before _ s = true := fun w h => atoms_spec (ws := wm yT_height kT_height 1 (some .int)) B.pre w (List.mem_cons_of_mem _ h)
  have hown : s.vm.findClass "NodeMaker$Tree" = some m.cls := findClass_of_methodNamed B.named
  have hlocks := B.notSynchronized
  have hl := lv_entry ([.ref (ad 0)]) (n := 1) (Nat.le_of_ble_eq_true rfl)
  rw [lg_entry_eq]
  generalize (lg_sl ([.ref (ad 0)]) ++ List.replicate (1 - (lg_sl ([.ref (ad 0)])).length) Slot.unset).toArray = ls at hl ⊢
  have hl : lv_has ls 1 [(0, .ref (ad 0))] := hl
  refine lv_aload_n hx hb dT_height_0 rfl (lv_at hl 0 rfl) ?_
  refine va_get (D := g.1) (ci := 4) (v := .int h) (C := "NodeMaker$Tree") (T := Fd_T) (N := 13) hx hb ht i_T hown hK.1 hP 0 rfl rfl 11 (by decide) (ht _ q_114) (fun _ h9 => h9) rfl dT_height_1 ?_
  exact W.iret hx hb hr (fun t ht9 hW => ⟨_, rfl, rfl, ht9⟩) (fun q h => by cases h) dT_height_4
set_option maxHeartbeats 4000000 in
set_option maxRecDepth 100000 in
theorem cT_wallCount (l : Launch) (g : CX) (ad q cp : Nat → Nat) (f : Nat → Nat → Int32) (Rw : Nat → List Int32) (sl : Nat → Option Nat) (cnt h st : Int32) (LW : List Nat) (wv : Nat → WV) (hz : rowsT cp f Rw) (hsl : slOK sl LW) : Met l yT_wallCount (wm yT_wallCount kT_wallCount 1 (some .int)) ({ frames := 1, cells := 0, slots := 0, locals := 20 }) (ro g [.ref (ad 0)] (va_P g.1 vwCl (TW g ad q cp f Rw sl cnt h st LW wv))) (vp_Si (fun r => r = cnt)) 0 0 (fun _ => False) := by
  refine Met.ofW (cc := kT_wallCount) (maxL := 1) (ret := (some .int)) (by decide) rfl ?_
  intro p e s m args below meth c s₁ B hml hv
  obtain ⟨rfl, hK, hP⟩ := hv
  have hx := B.exec
  have hb := B.bytes
  have hr := B.returns
  have ht : ∀ w ∈ wT, w.before _ s = true := fun w h => atoms_spec (ws := wm yT_wallCount kT_wallCount 1 (some .int)) B.pre w (List.mem_cons_of_mem _ h)
  have hown : s.vm.findClass "NodeMaker$Tree" = some m.cls := findClass_of_methodNamed B.named
  have hlocks := B.notSynchronized
  have hl := lv_entry ([.ref (ad 0)]) (n := 1) (Nat.le_of_ble_eq_true rfl)
  rw [lg_entry_eq]
  generalize (lg_sl ([.ref (ad 0)]) ++ List.replicate (1 - (lg_sl ([.ref (ad 0)])).length) Slot.unset).toArray = ls at hl ⊢
  have hl : lv_has ls 1 [(0, .ref (ad 0))] := hl
  refine lv_aload_n hx hb dT_wallCount_0 rfl (lv_at hl 0 rfl) ?_
  refine va_get (D := g.1) (ci := 4) (v := .ref (ad 1)) (C := "NodeMaker$Tree") (T := Fd_T) (N := 13) hx hb ht i_T hown hK.1 hP 0 rfl rfl 0 (by decide) (ht _ q_103) (fun _ h9 => h9) rfl dT_wallCount_1 ?_
  have hPc := pl_P (cx := wsX g (ad 1) (ad 2) sl cnt) hP [1, 2] rfl
  refine ro_Vi (v := cnt) (As := []) (rest := []) ⟨hx, hb, hml, hown, ht⟩ (cS_count l g (ad 1) (ad 2) sl cnt LW wv) (cwV 0 ht (g_V q_488 q_489 q_490 q_34 q_491) rfl rfl rfl hd_S_count ⟨Nat.le_of_ble_eq_true rfl, Nat.le_of_ble_eq_true rfl⟩) hK (hPc) (va_recv hK.1 hPc (ci := 3) (q0 := 0) rfl rfl) rfl hl.1 rfl (Nat.le_of_ble_eq_true rfl) dT_wallCount_4 ⟨by show 0 ≤ 0; omega, by show 0 ≤ 0; omega⟩ ?_
  exact W.iret hx hb hr (fun t ht9 hW => ⟨_, rfl, rfl, ht9⟩) (fun q h => by cases h) dT_wallCount_7
set_option maxHeartbeats 4000000 in
set_option maxRecDepth 100000 in
theorem cT_wallAt (l : Launch) (g : CX) (ad q cp : Nat → Nat) (f : Nat → Nat → Int32) (Rw : Nat → List Int32) (sl : Nat → Option Nat) (cnt h st : Int32) (LW : List Nat) (wv : Nat → WV) (hz : rowsT cp f Rw) (hsl : slOK sl LW) (i : Int32) : Met l yT_wallAt (wm yT_wallAt kT_wallAt 2 (some (.object "NodeMaker$Wall"))) ({ frames := 1, cells := 0, slots := 0, locals := 21 }) (ro g [.ref (ad 0), .int i] (va_P g.1 vwCl (TW g ad q cp f Rw sl cnt h st LW wv))) (va_Sq (fun r => r.map wv = wAt (wOf sl wv) i ∧ ∀ x, r = some x → x ∈ LW)) 0 0 (fun _ => False) := by
  refine Met.ofW (cc := kT_wallAt) (maxL := 2) (ret := (some (.object "NodeMaker$Wall"))) (by decide) rfl ?_
  intro p e s m args below meth c s₁ B hml hv
  obtain ⟨rfl, hK, hP⟩ := hv
  have hx := B.exec
  have hb := B.bytes
  have hr := B.returns
  have ht : ∀ w ∈ wT, w.before _ s = true := fun w h => atoms_spec (ws := wm yT_wallAt kT_wallAt 2 (some (.object "NodeMaker$Wall"))) B.pre w (List.mem_cons_of_mem _ h)
  have hown : s.vm.findClass "NodeMaker$Tree" = some m.cls := findClass_of_methodNamed B.named
  have hlocks := B.notSynchronized
  have hl := lv_entry ([.ref (ad 0), .int i]) (n := 2) (Nat.le_of_ble_eq_true rfl)
  rw [lg_entry_eq]
  generalize (lg_sl ([.ref (ad 0), .int i]) ++ List.replicate (2 - (lg_sl ([.ref (ad 0), .int i])).length) Slot.unset).toArray = ls at hl ⊢
  have hl : lv_has ls 2 [(0, .ref (ad 0)), (1, .int i)] := hl
  refine lv_aload_n hx hb dT_wallAt_0 rfl (lv_at hl 0 rfl) ?_
  refine va_get (D := g.1) (ci := 4) (v := .ref (ad 1)) (C := "NodeMaker$Tree") (T := Fd_T) (N := 13) hx hb ht i_T hown hK.1 hP 0 rfl rfl 0 (by decide) (ht _ q_103) (fun _ h9 => h9) rfl dT_wallAt_1 ?_
  refine lv_iload_n hx hb dT_wallAt_4 rfl (lv_at hl 1 rfl) ?_
  have hPc := pl_P (cx := wsX g (ad 1) (ad 2) sl cnt) hP [1, 2] rfl
  refine ro_Vq (As := [.int i]) (rest := []) ⟨hx, hb, hml, hown, ht⟩ (cS_at l g (ad 1) (ad 2) sl cnt LW wv hsl i) (cwV 1 ht (g_V q_273 q_237 q_238 q_34 q_239) rfl rfl rfl hd_S_at ⟨Nat.le_of_ble_eq_true rfl, Nat.le_of_ble_eq_true rfl⟩) hK hPc (va_recv hK.1 hPc (ci := 3) (q0 := 0) rfl rfl) rfl hl.1 rfl (Nat.le_of_ble_eq_true rfl) dT_wallAt_5 ⟨by show 0 ≤ 0; omega, by show 0 ≤ 0; omega⟩ (fun hq => ?_) (fun x_1 hq => ?_)
  · skip
    have hwx_1 : wAt (wOf sl wv) i = none := hq.1.symm
    exact W.aret hx hb hr (Or.inl ⟨_, rfl⟩) (Or.inl rfl) (fun t ht9 hW => ⟨none, rfl, hq, ht9⟩) (fun q h => by cases h) dT_wallAt_8
  · skip
    have hwx_1 : wAt (wOf sl wv) i = some (wv x_1) := hq.1.symm
    have hxx_1 : x_1 ∈ LW := hq.2 _ rfl
    exact W.aret hx hb hr (Or.inl ⟨_, rfl⟩) (Or.inr ⟨_, rfl⟩) (fun t ht9 hW => ⟨some x_1, rfl, hq, ht9⟩) (fun q h => by cases h) dT_wallAt_8
def sT_sideOf (x : Int64) : Int32 :=
  if x ≤ 0 then
    if 0 ≤ x then
      0
    else
      2
  else
    1
set_option maxHeartbeats 4000000 in
set_option maxRecDepth 100000 in
theorem cT_sideOf (l : Launch) (g : CX) (x : Int64) : Met l yT_sideOf (wm yT_sideOf kT_sideOf 2 (some .int)) ({ frames := 0, cells := 0, slots := 0, locals := 0 }) (ro g [.long x] (fun _ => True)) (vp_Si (fun r => r = sT_sideOf x)) 0 0 (fun _ => False) := by
  refine Met.ofW (cc := kT_sideOf) (maxL := 2) (ret := (some .int)) (by decide) rfl ?_
  intro p e s m args below meth c s₁ B hml hv
  obtain ⟨rfl, hK, hP⟩ := hv
  have hx := B.exec
  have hb := B.bytes
  have hr := B.returns
  have ht : ∀ w ∈ wT, w.before _ s = true := fun w h => atoms_spec (ws := wm yT_sideOf kT_sideOf 2 (some .int)) B.pre w (List.mem_cons_of_mem _ h)
  have hown : s.vm.findClass "NodeMaker$Tree" = some m.cls := findClass_of_methodNamed B.named
  have hlocks := B.notSynchronized
  have hl := lv_entry ([.long x]) (n := 2) (Nat.le_of_ble_eq_true rfl)
  rw [lg_entry_eq]
  generalize (lg_sl ([.long x]) ++ List.replicate (2 - (lg_sl ([.long x])).length) Slot.unset).toArray = ls at hl ⊢
  have hl : lv_has ls 2 [(0, .long x)] := hl
  refine lv_lload_n hx hb dT_sideOf_0 rfl (lv_at hl 0 rfl) ?_
  refine lv_lconst (v := 0) hx hb dT_sideOf_1 (by decide) ?_
  refine W.lcmp hx hb dT_sideOf_2 ?_
  refine lv_if_le (tgt := 10) hx hb dT_sideOf_3 (by decide) (fun c_2 => ?_) (fun c_2 => ?_)
  · skip
    rw [lg_cmp_le] at c_2
    refine lv_lload_n hx hb dT_sideOf_10 rfl (lv_at hl 0 rfl) ?_
    refine lv_lconst (v := 0) hx hb dT_sideOf_11 (by decide) ?_
    refine W.lcmp hx hb dT_sideOf_12 ?_
    refine lv_if_ge (tgt := 20) hx hb dT_sideOf_13 (by decide) (fun c_3 => ?_) (fun c_3 => ?_)
    · skip
      rw [lg_cmp_ge] at c_3
      refine lv_iconst (v := 0) hx hb dT_sideOf_20 (by decide) ?_
      exact W.iret hx hb hr (fun t ht9 hW => ⟨_, rfl, by rw [sT_sideOf, if_pos c_2, if_pos c_3], ht9⟩) (fun q h => by cases h) dT_sideOf_21
    · skip
      rw [lg_cmp_ge] at c_3
      refine lv_iconst (v := 2) hx hb dT_sideOf_16 (by decide) ?_
      refine lv_goto (tgt := 21) hx hb dT_sideOf_17 (by decide) ?_
      exact W.iret hx hb hr (fun t ht9 hW => ⟨_, rfl, by rw [sT_sideOf, if_pos c_2, if_neg c_3], ht9⟩) (fun q h => by cases h) dT_sideOf_21
  · skip
    rw [lg_cmp_le] at c_2
    refine lv_iconst (v := 1) hx hb dT_sideOf_6 (by decide) ?_
    refine lv_goto (tgt := 21) hx hb dT_sideOf_7 (by decide) ?_
    exact W.iret hx hb hr (fun t ht9 hW => ⟨_, rfl, by rw [sT_sideOf, if_neg c_2], ht9⟩) (fun q h => by cases h) dT_sideOf_21
def sT_sideBetween (x : Int64) (y : Int64) (u : Int64) (v : Int64) : Int32 :=
  if x < 0 then
    if 0 < x then
      if (((if 0 < x then x else -x) * v) ^^^ (-9223372036854775808)) = (((if 0 < y then y else -y) * u) ^^^ (-9223372036854775808)) then
        0
      else
        if x ≤ 0 then
          if (((if 0 < x then x else -x) * v) ^^^ (-9223372036854775808)) ≤ (((if 0 < y then y else -y) * u) ^^^ (-9223372036854775808)) then
            1
          else
            2
        else
          if (((if 0 < x then x else -x) * v) ^^^ (-9223372036854775808)) ≤ (((if 0 < y then y else -y) * u) ^^^ (-9223372036854775808)) then
            2
          else
            1
    else
      if 0 < y then
        if (((if 0 < x then x else -x) * v) ^^^ (-9223372036854775808)) = (((if 0 < y then y else -y) * u) ^^^ (-9223372036854775808)) then
          0
        else
          if x ≤ 0 then
            if (((if 0 < x then x else -x) * v) ^^^ (-9223372036854775808)) ≤ (((if 0 < y then y else -y) * u) ^^^ (-9223372036854775808)) then
              1
            else
              2
          else
            if (((if 0 < x then x else -x) * v) ^^^ (-9223372036854775808)) ≤ (((if 0 < y then y else -y) * u) ^^^ (-9223372036854775808)) then
              2
            else
              1
      else
        2
  else
    if y < 0 then
      if 0 < x then
        if (((if 0 < x then x else -x) * v) ^^^ (-9223372036854775808)) = (((if 0 < y then y else -y) * u) ^^^ (-9223372036854775808)) then
          0
        else
          if x ≤ 0 then
            if (((if 0 < x then x else -x) * v) ^^^ (-9223372036854775808)) ≤ (((if 0 < y then y else -y) * u) ^^^ (-9223372036854775808)) then
              1
            else
              2
          else
            if (((if 0 < x then x else -x) * v) ^^^ (-9223372036854775808)) ≤ (((if 0 < y then y else -y) * u) ^^^ (-9223372036854775808)) then
              2
            else
              1
      else
        if 0 < y then
          if (((if 0 < x then x else -x) * v) ^^^ (-9223372036854775808)) = (((if 0 < y then y else -y) * u) ^^^ (-9223372036854775808)) then
            0
          else
            if x ≤ 0 then
              if (((if 0 < x then x else -x) * v) ^^^ (-9223372036854775808)) ≤ (((if 0 < y then y else -y) * u) ^^^ (-9223372036854775808)) then
                1
              else
                2
            else
              if (((if 0 < x then x else -x) * v) ^^^ (-9223372036854775808)) ≤ (((if 0 < y then y else -y) * u) ^^^ (-9223372036854775808)) then
                2
              else
                1
        else
          2
    else
      if 0 < x then
        1
      else
        if y ≤ 0 then
          0
        else
          1
set_option maxHeartbeats 4000000 in
set_option maxRecDepth 100000 in
theorem cT_sideBetween (l : Launch) (g : CX) (x : Int64) (y : Int64) (u : Int64) (v : Int64) : Met l yT_sideBetween (wm yT_sideBetween kT_sideBetween 14 (some .int)) ({ frames := 1, cells := 0, slots := 0, locals := 24 }) (ro g [.long x, .long y, .long u, .long v] (fun _ => True)) (vp_Si (fun r => r = sT_sideBetween x y u v)) 0 0 (fun _ => False) := by
  refine Met.ofW (cc := kT_sideBetween) (maxL := 14) (ret := (some .int)) (by decide) rfl ?_
  intro p e s m args below meth c s₁ B hml hv
  obtain ⟨rfl, hK, hP⟩ := hv
  have hx := B.exec
  have hb := B.bytes
  have hr := B.returns
  have ht : ∀ w ∈ wT, w.before _ s = true := fun w h => atoms_spec (ws := wm yT_sideBetween kT_sideBetween 14 (some .int)) B.pre w (List.mem_cons_of_mem _ h)
  have hown : s.vm.findClass "NodeMaker$Tree" = some m.cls := findClass_of_methodNamed B.named
  have hlocks := B.notSynchronized
  have hl := lv_entry ([.long x, .long y, .long u, .long v]) (n := 14) (Nat.le_of_ble_eq_true rfl)
  rw [lg_entry_eq]
  generalize (lg_sl ([.long x, .long y, .long u, .long v]) ++ List.replicate (14 - (lg_sl ([.long x, .long y, .long u, .long v])).length) Slot.unset).toArray = ls at hl ⊢
  have hl : lv_has ls 14 [(0, .long x), (2, .long y), (4, .long u), (6, .long v)] := hl
  refine lv_lload_n hx hb dT_sideBetween_0 rfl (lv_at hl 0 rfl) ?_
  refine lv_lconst (v := 0) hx hb dT_sideBetween_1 (by decide) ?_
  refine W.lcmp hx hb dT_sideBetween_2 ?_
  refine lv_if_lt (tgt := 30) hx hb dT_sideBetween_3 (by decide) (fun c_4 => ?_) (fun c_4 => ?_)
  · skip
    rw [lg_cmp_lt] at c_4
    refine lv_lload_n hx hb dT_sideBetween_30 rfl (lv_at hl 0 rfl) ?_
    refine lv_lconst (v := 0) hx hb dT_sideBetween_31 (by decide) ?_
    refine W.lcmp hx hb dT_sideBetween_32 ?_
    refine lv_if_gt (tgt := 44) hx hb dT_sideBetween_33 (by decide) (fun c_5 => ?_) (fun c_5 => ?_)
    · skip
      rw [lg_cmp_gt] at c_5
      refine lv_ldc2 (v := (-9223372036854775808)) hx hb hown (ht _ q_343) dT_sideBetween_44 ?_
      refine lv_lstore (lv' := [(8, .long (-9223372036854775808)), (0, .long x), (2, .long y), (4, .long u), (6, .long v)]) hx hb dT_sideBetween_47 hl (by decide) rfl (fun ls hl => ?_)
      refine lv_lload_n hx hb dT_sideBetween_49 rfl (lv_at hl 1 rfl) ?_
      refine va_mabs_long hx hb (by rw [hml]; exact hl.1.symm) hown (ht _ q_337) (ht _ q_338) (ht _ q_39) (ht _ q_339) (Nat.le_of_ble_eq_true rfl) (Nat.le_of_ble_eq_true rfl) (by show 0 ≤ 0; omega) (by show 0 ≤ 0; omega) dT_sideBetween_50 ?_
      refine lv_lload hx hb dT_sideBetween_53 (lv_at hl 4 rfl) ?_
      refine lv_lmul hx hb dT_sideBetween_55 ?_
      refine lv_lload hx hb dT_sideBetween_56 (lv_at hl 0 rfl) ?_
      refine lv_lxor hx hb dT_sideBetween_58 ?_
      refine lv_lstore (lv' := [(10, .long (((if 0 < x then x else -x) * v) ^^^ (-9223372036854775808))), (8, .long (-9223372036854775808)), (0, .long x), (2, .long y), (4, .long u), (6, .long v)]) hx hb dT_sideBetween_59 hl (by decide) rfl (fun ls hl => ?_)
      refine lv_lload_n hx hb dT_sideBetween_61 rfl (lv_at hl 3 rfl) ?_
      refine va_mabs_long hx hb (by rw [hml]; exact hl.1.symm) hown (ht _ q_337) (ht _ q_338) (ht _ q_39) (ht _ q_339) (Nat.le_of_ble_eq_true rfl) (Nat.le_of_ble_eq_true rfl) (by show 0 ≤ 0; omega) (by show 0 ≤ 0; omega) dT_sideBetween_62 ?_
      refine lv_lload hx hb dT_sideBetween_65 (lv_at hl 4 rfl) ?_
      refine lv_lmul hx hb dT_sideBetween_67 ?_
      refine lv_lload hx hb dT_sideBetween_68 (lv_at hl 1 rfl) ?_
      refine lv_lxor hx hb dT_sideBetween_70 ?_
      refine lv_lstore (lv' := [(12, .long (((if 0 < y then y else -y) * u) ^^^ (-9223372036854775808))), (10, .long (((if 0 < x then x else -x) * v) ^^^ (-9223372036854775808))), (8, .long (-9223372036854775808)), (0, .long x), (2, .long y), (4, .long u), (6, .long v)]) hx hb dT_sideBetween_71 hl (by decide) rfl (fun ls hl => ?_)
      refine lv_lload hx hb dT_sideBetween_73 (lv_at hl 1 rfl) ?_
      refine lv_lload hx hb dT_sideBetween_75 (lv_at hl 0 rfl) ?_
      refine W.lcmp hx hb dT_sideBetween_77 ?_
      refine lv_if_ne (tgt := 83) hx hb dT_sideBetween_78 (by decide) (fun c_6 => ?_) (fun c_6 => ?_)
      · skip
        rw [lg_cmp_eq] at c_6
        refine lv_lload_n hx hb dT_sideBetween_83 rfl (lv_at hl 3 rfl) ?_
        refine lv_lconst (v := 0) hx hb dT_sideBetween_84 (by decide) ?_
        refine W.lcmp hx hb dT_sideBetween_85 ?_
        refine lv_if_le (tgt := 93) hx hb dT_sideBetween_86 (by decide) (fun c_7 => ?_) (fun c_7 => ?_)
        · skip
          rw [lg_cmp_le] at c_7
          refine lv_iconst (v := 0) hx hb dT_sideBetween_93 (by decide) ?_
          refine lv_lload hx hb dT_sideBetween_94 (lv_at hl 1 rfl) ?_
          refine lv_lload hx hb dT_sideBetween_96 (lv_at hl 0 rfl) ?_
          refine W.lcmp hx hb dT_sideBetween_98 ?_
          refine lv_if_le (tgt := 106) hx hb dT_sideBetween_99 (by decide) (fun c_8 => ?_) (fun c_8 => ?_)
          · skip
            rw [lg_cmp_le] at c_8
            refine lv_iconst (v := 0) hx hb dT_sideBetween_106 (by decide) ?_
            refine lv_icmp_ne (tgt := 114) hx hb dT_sideBetween_107 (by decide) (fun c_9 => ?_) (fun c_9 => ?_)
            · skip
              exact absurd (by decide) c_9
            · skip
              refine lv_iconst (v := 1) hx hb dT_sideBetween_110 (by decide) ?_
              refine lv_goto (tgt := 115) hx hb dT_sideBetween_111 (by decide) ?_
              exact W.iret hx hb hr (fun t ht9 hW => ⟨_, rfl, by rw [sT_sideBetween, if_pos c_4, if_pos c_5, if_neg c_6, if_pos c_7, if_pos c_8], ht9⟩) (fun q h => by cases h) dT_sideBetween_115
          · skip
            rw [lg_cmp_le] at c_8
            refine lv_iconst (v := 1) hx hb dT_sideBetween_102 (by decide) ?_
            refine lv_goto (tgt := 107) hx hb dT_sideBetween_103 (by decide) ?_
            refine lv_icmp_ne (tgt := 114) hx hb dT_sideBetween_107 (by decide) (fun c_10 => ?_) (fun c_10 => ?_)
            · skip
              refine lv_iconst (v := 2) hx hb dT_sideBetween_114 (by decide) ?_
              exact W.iret hx hb hr (fun t ht9 hW => ⟨_, rfl, by rw [sT_sideBetween, if_pos c_4, if_pos c_5, if_neg c_6, if_pos c_7, if_neg c_8], ht9⟩) (fun q h => by cases h) dT_sideBetween_115
            · skip
              exact absurd c_10 (by decide)
        · skip
          rw [lg_cmp_le] at c_7
          refine lv_iconst (v := 1) hx hb dT_sideBetween_89 (by decide) ?_
          refine lv_goto (tgt := 94) hx hb dT_sideBetween_90 (by decide) ?_
          refine lv_lload hx hb dT_sideBetween_94 (lv_at hl 1 rfl) ?_
          refine lv_lload hx hb dT_sideBetween_96 (lv_at hl 0 rfl) ?_
          refine W.lcmp hx hb dT_sideBetween_98 ?_
          refine lv_if_le (tgt := 106) hx hb dT_sideBetween_99 (by decide) (fun c_11 => ?_) (fun c_11 => ?_)
          · skip
            rw [lg_cmp_le] at c_11
            refine lv_iconst (v := 0) hx hb dT_sideBetween_106 (by decide) ?_
            refine lv_icmp_ne (tgt := 114) hx hb dT_sideBetween_107 (by decide) (fun c_12 => ?_) (fun c_12 => ?_)
            · skip
              refine lv_iconst (v := 2) hx hb dT_sideBetween_114 (by decide) ?_
              exact W.iret hx hb hr (fun t ht9 hW => ⟨_, rfl, by rw [sT_sideBetween, if_pos c_4, if_pos c_5, if_neg c_6, if_neg c_7, if_pos c_11], ht9⟩) (fun q h => by cases h) dT_sideBetween_115
            · skip
              exact absurd c_12 (by decide)
          · skip
            rw [lg_cmp_le] at c_11
            refine lv_iconst (v := 1) hx hb dT_sideBetween_102 (by decide) ?_
            refine lv_goto (tgt := 107) hx hb dT_sideBetween_103 (by decide) ?_
            refine lv_icmp_ne (tgt := 114) hx hb dT_sideBetween_107 (by decide) (fun c_13 => ?_) (fun c_13 => ?_)
            · skip
              exact absurd (by decide) c_13
            · skip
              refine lv_iconst (v := 1) hx hb dT_sideBetween_110 (by decide) ?_
              refine lv_goto (tgt := 115) hx hb dT_sideBetween_111 (by decide) ?_
              exact W.iret hx hb hr (fun t ht9 hW => ⟨_, rfl, by rw [sT_sideBetween, if_pos c_4, if_pos c_5, if_neg c_6, if_neg c_7, if_neg c_11], ht9⟩) (fun q h => by cases h) dT_sideBetween_115
      · skip
        rw [lg_cmp_eq] at c_6
        refine lv_iconst (v := 0) hx hb dT_sideBetween_81 (by decide) ?_
        exact W.iret hx hb hr (fun t ht9 hW => ⟨_, rfl, by rw [sT_sideBetween, if_pos c_4, if_pos c_5, if_pos c_6], ht9⟩) (fun q h => by cases h) dT_sideBetween_82
    · skip
      rw [lg_cmp_gt] at c_5
      refine lv_lload_n hx hb dT_sideBetween_36 rfl (lv_at hl 1 rfl) ?_
      refine lv_lconst (v := 0) hx hb dT_sideBetween_37 (by decide) ?_
      refine W.lcmp hx hb dT_sideBetween_38 ?_
      refine lv_if_gt (tgt := 44) hx hb dT_sideBetween_39 (by decide) (fun c_14 => ?_) (fun c_14 => ?_)
      · skip
        rw [lg_cmp_gt] at c_14
        refine lv_ldc2 (v := (-9223372036854775808)) hx hb hown (ht _ q_343) dT_sideBetween_44 ?_
        refine lv_lstore (lv' := [(8, .long (-9223372036854775808)), (0, .long x), (2, .long y), (4, .long u), (6, .long v)]) hx hb dT_sideBetween_47 hl (by decide) rfl (fun ls hl => ?_)
        refine lv_lload_n hx hb dT_sideBetween_49 rfl (lv_at hl 1 rfl) ?_
        refine va_mabs_long hx hb (by rw [hml]; exact hl.1.symm) hown (ht _ q_337) (ht _ q_338) (ht _ q_39) (ht _ q_339) (Nat.le_of_ble_eq_true rfl) (Nat.le_of_ble_eq_true rfl) (by show 0 ≤ 0; omega) (by show 0 ≤ 0; omega) dT_sideBetween_50 ?_
        refine lv_lload hx hb dT_sideBetween_53 (lv_at hl 4 rfl) ?_
        refine lv_lmul hx hb dT_sideBetween_55 ?_
        refine lv_lload hx hb dT_sideBetween_56 (lv_at hl 0 rfl) ?_
        refine lv_lxor hx hb dT_sideBetween_58 ?_
        refine lv_lstore (lv' := [(10, .long (((if 0 < x then x else -x) * v) ^^^ (-9223372036854775808))), (8, .long (-9223372036854775808)), (0, .long x), (2, .long y), (4, .long u), (6, .long v)]) hx hb dT_sideBetween_59 hl (by decide) rfl (fun ls hl => ?_)
        refine lv_lload_n hx hb dT_sideBetween_61 rfl (lv_at hl 3 rfl) ?_
        refine va_mabs_long hx hb (by rw [hml]; exact hl.1.symm) hown (ht _ q_337) (ht _ q_338) (ht _ q_39) (ht _ q_339) (Nat.le_of_ble_eq_true rfl) (Nat.le_of_ble_eq_true rfl) (by show 0 ≤ 0; omega) (by show 0 ≤ 0; omega) dT_sideBetween_62 ?_
        refine lv_lload hx hb dT_sideBetween_65 (lv_at hl 4 rfl) ?_
        refine lv_lmul hx hb dT_sideBetween_67 ?_
        refine lv_lload hx hb dT_sideBetween_68 (lv_at hl 1 rfl) ?_
        refine lv_lxor hx hb dT_sideBetween_70 ?_
        refine lv_lstore (lv' := [(12, .long (((if 0 < y then y else -y) * u) ^^^ (-9223372036854775808))), (10, .long (((if 0 < x then x else -x) * v) ^^^ (-9223372036854775808))), (8, .long (-9223372036854775808)), (0, .long x), (2, .long y), (4, .long u), (6, .long v)]) hx hb dT_sideBetween_71 hl (by decide) rfl (fun ls hl => ?_)
        refine lv_lload hx hb dT_sideBetween_73 (lv_at hl 1 rfl) ?_
        refine lv_lload hx hb dT_sideBetween_75 (lv_at hl 0 rfl) ?_
        refine W.lcmp hx hb dT_sideBetween_77 ?_
        refine lv_if_ne (tgt := 83) hx hb dT_sideBetween_78 (by decide) (fun c_15 => ?_) (fun c_15 => ?_)
        · skip
          rw [lg_cmp_eq] at c_15
          refine lv_lload_n hx hb dT_sideBetween_83 rfl (lv_at hl 3 rfl) ?_
          refine lv_lconst (v := 0) hx hb dT_sideBetween_84 (by decide) ?_
          refine W.lcmp hx hb dT_sideBetween_85 ?_
          refine lv_if_le (tgt := 93) hx hb dT_sideBetween_86 (by decide) (fun c_16 => ?_) (fun c_16 => ?_)
          · skip
            rw [lg_cmp_le] at c_16
            refine lv_iconst (v := 0) hx hb dT_sideBetween_93 (by decide) ?_
            refine lv_lload hx hb dT_sideBetween_94 (lv_at hl 1 rfl) ?_
            refine lv_lload hx hb dT_sideBetween_96 (lv_at hl 0 rfl) ?_
            refine W.lcmp hx hb dT_sideBetween_98 ?_
            refine lv_if_le (tgt := 106) hx hb dT_sideBetween_99 (by decide) (fun c_17 => ?_) (fun c_17 => ?_)
            · skip
              rw [lg_cmp_le] at c_17
              refine lv_iconst (v := 0) hx hb dT_sideBetween_106 (by decide) ?_
              refine lv_icmp_ne (tgt := 114) hx hb dT_sideBetween_107 (by decide) (fun c_18 => ?_) (fun c_18 => ?_)
              · skip
                exact absurd (by decide) c_18
              · skip
                refine lv_iconst (v := 1) hx hb dT_sideBetween_110 (by decide) ?_
                refine lv_goto (tgt := 115) hx hb dT_sideBetween_111 (by decide) ?_
                exact W.iret hx hb hr (fun t ht9 hW => ⟨_, rfl, by rw [sT_sideBetween, if_pos c_4, if_neg c_5, if_pos c_14, if_neg c_15, if_pos c_16, if_pos c_17], ht9⟩) (fun q h => by cases h) dT_sideBetween_115
            · skip
              rw [lg_cmp_le] at c_17
              refine lv_iconst (v := 1) hx hb dT_sideBetween_102 (by decide) ?_
              refine lv_goto (tgt := 107) hx hb dT_sideBetween_103 (by decide) ?_
              refine lv_icmp_ne (tgt := 114) hx hb dT_sideBetween_107 (by decide) (fun c_19 => ?_) (fun c_19 => ?_)
              · skip
                refine lv_iconst (v := 2) hx hb dT_sideBetween_114 (by decide) ?_
                exact W.iret hx hb hr (fun t ht9 hW => ⟨_, rfl, by rw [sT_sideBetween, if_pos c_4, if_neg c_5, if_pos c_14, if_neg c_15, if_pos c_16, if_neg c_17], ht9⟩) (fun q h => by cases h) dT_sideBetween_115
              · skip
                exact absurd c_19 (by decide)
          · skip
            rw [lg_cmp_le] at c_16
            refine lv_iconst (v := 1) hx hb dT_sideBetween_89 (by decide) ?_
            refine lv_goto (tgt := 94) hx hb dT_sideBetween_90 (by decide) ?_
            refine lv_lload hx hb dT_sideBetween_94 (lv_at hl 1 rfl) ?_
            refine lv_lload hx hb dT_sideBetween_96 (lv_at hl 0 rfl) ?_
            refine W.lcmp hx hb dT_sideBetween_98 ?_
            refine lv_if_le (tgt := 106) hx hb dT_sideBetween_99 (by decide) (fun c_20 => ?_) (fun c_20 => ?_)
            · skip
              rw [lg_cmp_le] at c_20
              refine lv_iconst (v := 0) hx hb dT_sideBetween_106 (by decide) ?_
              refine lv_icmp_ne (tgt := 114) hx hb dT_sideBetween_107 (by decide) (fun c_21 => ?_) (fun c_21 => ?_)
              · skip
                refine lv_iconst (v := 2) hx hb dT_sideBetween_114 (by decide) ?_
                exact W.iret hx hb hr (fun t ht9 hW => ⟨_, rfl, by rw [sT_sideBetween, if_pos c_4, if_neg c_5, if_pos c_14, if_neg c_15, if_neg c_16, if_pos c_20], ht9⟩) (fun q h => by cases h) dT_sideBetween_115
              · skip
                exact absurd c_21 (by decide)
            · skip
              rw [lg_cmp_le] at c_20
              refine lv_iconst (v := 1) hx hb dT_sideBetween_102 (by decide) ?_
              refine lv_goto (tgt := 107) hx hb dT_sideBetween_103 (by decide) ?_
              refine lv_icmp_ne (tgt := 114) hx hb dT_sideBetween_107 (by decide) (fun c_22 => ?_) (fun c_22 => ?_)
              · skip
                exact absurd (by decide) c_22
              · skip
                refine lv_iconst (v := 1) hx hb dT_sideBetween_110 (by decide) ?_
                refine lv_goto (tgt := 115) hx hb dT_sideBetween_111 (by decide) ?_
                exact W.iret hx hb hr (fun t ht9 hW => ⟨_, rfl, by rw [sT_sideBetween, if_pos c_4, if_neg c_5, if_pos c_14, if_neg c_15, if_neg c_16, if_neg c_20], ht9⟩) (fun q h => by cases h) dT_sideBetween_115
        · skip
          rw [lg_cmp_eq] at c_15
          refine lv_iconst (v := 0) hx hb dT_sideBetween_81 (by decide) ?_
          exact W.iret hx hb hr (fun t ht9 hW => ⟨_, rfl, by rw [sT_sideBetween, if_pos c_4, if_neg c_5, if_pos c_14, if_pos c_15], ht9⟩) (fun q h => by cases h) dT_sideBetween_82
      · skip
        rw [lg_cmp_gt] at c_14
        refine lv_iconst (v := 2) hx hb dT_sideBetween_42 (by decide) ?_
        exact W.iret hx hb hr (fun t ht9 hW => ⟨_, rfl, by rw [sT_sideBetween, if_pos c_4, if_neg c_5, if_neg c_14], ht9⟩) (fun q h => by cases h) dT_sideBetween_43
  · skip
    rw [lg_cmp_lt] at c_4
    refine lv_lload_n hx hb dT_sideBetween_6 rfl (lv_at hl 1 rfl) ?_
    refine lv_lconst (v := 0) hx hb dT_sideBetween_7 (by decide) ?_
    refine W.lcmp hx hb dT_sideBetween_8 ?_
    refine lv_if_lt (tgt := 30) hx hb dT_sideBetween_9 (by decide) (fun c_23 => ?_) (fun c_23 => ?_)
    · skip
      rw [lg_cmp_lt] at c_23
      refine lv_lload_n hx hb dT_sideBetween_30 rfl (lv_at hl 0 rfl) ?_
      refine lv_lconst (v := 0) hx hb dT_sideBetween_31 (by decide) ?_
      refine W.lcmp hx hb dT_sideBetween_32 ?_
      refine lv_if_gt (tgt := 44) hx hb dT_sideBetween_33 (by decide) (fun c_24 => ?_) (fun c_24 => ?_)
      · skip
        rw [lg_cmp_gt] at c_24
        refine lv_ldc2 (v := (-9223372036854775808)) hx hb hown (ht _ q_343) dT_sideBetween_44 ?_
        refine lv_lstore (lv' := [(8, .long (-9223372036854775808)), (0, .long x), (2, .long y), (4, .long u), (6, .long v)]) hx hb dT_sideBetween_47 hl (by decide) rfl (fun ls hl => ?_)
        refine lv_lload_n hx hb dT_sideBetween_49 rfl (lv_at hl 1 rfl) ?_
        refine va_mabs_long hx hb (by rw [hml]; exact hl.1.symm) hown (ht _ q_337) (ht _ q_338) (ht _ q_39) (ht _ q_339) (Nat.le_of_ble_eq_true rfl) (Nat.le_of_ble_eq_true rfl) (by show 0 ≤ 0; omega) (by show 0 ≤ 0; omega) dT_sideBetween_50 ?_
        refine lv_lload hx hb dT_sideBetween_53 (lv_at hl 4 rfl) ?_
        refine lv_lmul hx hb dT_sideBetween_55 ?_
        refine lv_lload hx hb dT_sideBetween_56 (lv_at hl 0 rfl) ?_
        refine lv_lxor hx hb dT_sideBetween_58 ?_
        refine lv_lstore (lv' := [(10, .long (((if 0 < x then x else -x) * v) ^^^ (-9223372036854775808))), (8, .long (-9223372036854775808)), (0, .long x), (2, .long y), (4, .long u), (6, .long v)]) hx hb dT_sideBetween_59 hl (by decide) rfl (fun ls hl => ?_)
        refine lv_lload_n hx hb dT_sideBetween_61 rfl (lv_at hl 3 rfl) ?_
        refine va_mabs_long hx hb (by rw [hml]; exact hl.1.symm) hown (ht _ q_337) (ht _ q_338) (ht _ q_39) (ht _ q_339) (Nat.le_of_ble_eq_true rfl) (Nat.le_of_ble_eq_true rfl) (by show 0 ≤ 0; omega) (by show 0 ≤ 0; omega) dT_sideBetween_62 ?_
        refine lv_lload hx hb dT_sideBetween_65 (lv_at hl 4 rfl) ?_
        refine lv_lmul hx hb dT_sideBetween_67 ?_
        refine lv_lload hx hb dT_sideBetween_68 (lv_at hl 1 rfl) ?_
        refine lv_lxor hx hb dT_sideBetween_70 ?_
        refine lv_lstore (lv' := [(12, .long (((if 0 < y then y else -y) * u) ^^^ (-9223372036854775808))), (10, .long (((if 0 < x then x else -x) * v) ^^^ (-9223372036854775808))), (8, .long (-9223372036854775808)), (0, .long x), (2, .long y), (4, .long u), (6, .long v)]) hx hb dT_sideBetween_71 hl (by decide) rfl (fun ls hl => ?_)
        refine lv_lload hx hb dT_sideBetween_73 (lv_at hl 1 rfl) ?_
        refine lv_lload hx hb dT_sideBetween_75 (lv_at hl 0 rfl) ?_
        refine W.lcmp hx hb dT_sideBetween_77 ?_
        refine lv_if_ne (tgt := 83) hx hb dT_sideBetween_78 (by decide) (fun c_25 => ?_) (fun c_25 => ?_)
        · skip
          rw [lg_cmp_eq] at c_25
          refine lv_lload_n hx hb dT_sideBetween_83 rfl (lv_at hl 3 rfl) ?_
          refine lv_lconst (v := 0) hx hb dT_sideBetween_84 (by decide) ?_
          refine W.lcmp hx hb dT_sideBetween_85 ?_
          refine lv_if_le (tgt := 93) hx hb dT_sideBetween_86 (by decide) (fun c_26 => ?_) (fun c_26 => ?_)
          · skip
            rw [lg_cmp_le] at c_26
            refine lv_iconst (v := 0) hx hb dT_sideBetween_93 (by decide) ?_
            refine lv_lload hx hb dT_sideBetween_94 (lv_at hl 1 rfl) ?_
            refine lv_lload hx hb dT_sideBetween_96 (lv_at hl 0 rfl) ?_
            refine W.lcmp hx hb dT_sideBetween_98 ?_
            refine lv_if_le (tgt := 106) hx hb dT_sideBetween_99 (by decide) (fun c_27 => ?_) (fun c_27 => ?_)
            · skip
              rw [lg_cmp_le] at c_27
              refine lv_iconst (v := 0) hx hb dT_sideBetween_106 (by decide) ?_
              refine lv_icmp_ne (tgt := 114) hx hb dT_sideBetween_107 (by decide) (fun c_28 => ?_) (fun c_28 => ?_)
              · skip
                exact absurd (by decide) c_28
              · skip
                refine lv_iconst (v := 1) hx hb dT_sideBetween_110 (by decide) ?_
                refine lv_goto (tgt := 115) hx hb dT_sideBetween_111 (by decide) ?_
                exact W.iret hx hb hr (fun t ht9 hW => ⟨_, rfl, by rw [sT_sideBetween, if_neg c_4, if_pos c_23, if_pos c_24, if_neg c_25, if_pos c_26, if_pos c_27], ht9⟩) (fun q h => by cases h) dT_sideBetween_115
            · skip
              rw [lg_cmp_le] at c_27
              refine lv_iconst (v := 1) hx hb dT_sideBetween_102 (by decide) ?_
              refine lv_goto (tgt := 107) hx hb dT_sideBetween_103 (by decide) ?_
              refine lv_icmp_ne (tgt := 114) hx hb dT_sideBetween_107 (by decide) (fun c_29 => ?_) (fun c_29 => ?_)
              · skip
                refine lv_iconst (v := 2) hx hb dT_sideBetween_114 (by decide) ?_
                exact W.iret hx hb hr (fun t ht9 hW => ⟨_, rfl, by rw [sT_sideBetween, if_neg c_4, if_pos c_23, if_pos c_24, if_neg c_25, if_pos c_26, if_neg c_27], ht9⟩) (fun q h => by cases h) dT_sideBetween_115
              · skip
                exact absurd c_29 (by decide)
          · skip
            rw [lg_cmp_le] at c_26
            refine lv_iconst (v := 1) hx hb dT_sideBetween_89 (by decide) ?_
            refine lv_goto (tgt := 94) hx hb dT_sideBetween_90 (by decide) ?_
            refine lv_lload hx hb dT_sideBetween_94 (lv_at hl 1 rfl) ?_
            refine lv_lload hx hb dT_sideBetween_96 (lv_at hl 0 rfl) ?_
            refine W.lcmp hx hb dT_sideBetween_98 ?_
            refine lv_if_le (tgt := 106) hx hb dT_sideBetween_99 (by decide) (fun c_30 => ?_) (fun c_30 => ?_)
            · skip
              rw [lg_cmp_le] at c_30
              refine lv_iconst (v := 0) hx hb dT_sideBetween_106 (by decide) ?_
              refine lv_icmp_ne (tgt := 114) hx hb dT_sideBetween_107 (by decide) (fun c_31 => ?_) (fun c_31 => ?_)
              · skip
                refine lv_iconst (v := 2) hx hb dT_sideBetween_114 (by decide) ?_
                exact W.iret hx hb hr (fun t ht9 hW => ⟨_, rfl, by rw [sT_sideBetween, if_neg c_4, if_pos c_23, if_pos c_24, if_neg c_25, if_neg c_26, if_pos c_30], ht9⟩) (fun q h => by cases h) dT_sideBetween_115
              · skip
                exact absurd c_31 (by decide)
            · skip
              rw [lg_cmp_le] at c_30
              refine lv_iconst (v := 1) hx hb dT_sideBetween_102 (by decide) ?_
              refine lv_goto (tgt := 107) hx hb dT_sideBetween_103 (by decide) ?_
              refine lv_icmp_ne (tgt := 114) hx hb dT_sideBetween_107 (by decide) (fun c_32 => ?_) (fun c_32 => ?_)
              · skip
                exact absurd (by decide) c_32
              · skip
                refine lv_iconst (v := 1) hx hb dT_sideBetween_110 (by decide) ?_
                refine lv_goto (tgt := 115) hx hb dT_sideBetween_111 (by decide) ?_
                exact W.iret hx hb hr (fun t ht9 hW => ⟨_, rfl, by rw [sT_sideBetween, if_neg c_4, if_pos c_23, if_pos c_24, if_neg c_25, if_neg c_26, if_neg c_30], ht9⟩) (fun q h => by cases h) dT_sideBetween_115
        · skip
          rw [lg_cmp_eq] at c_25
          refine lv_iconst (v := 0) hx hb dT_sideBetween_81 (by decide) ?_
          exact W.iret hx hb hr (fun t ht9 hW => ⟨_, rfl, by rw [sT_sideBetween, if_neg c_4, if_pos c_23, if_pos c_24, if_pos c_25], ht9⟩) (fun q h => by cases h) dT_sideBetween_82
      · skip
        rw [lg_cmp_gt] at c_24
        refine lv_lload_n hx hb dT_sideBetween_36 rfl (lv_at hl 1 rfl) ?_
        refine lv_lconst (v := 0) hx hb dT_sideBetween_37 (by decide) ?_
        refine W.lcmp hx hb dT_sideBetween_38 ?_
        refine lv_if_gt (tgt := 44) hx hb dT_sideBetween_39 (by decide) (fun c_33 => ?_) (fun c_33 => ?_)
        · skip
          rw [lg_cmp_gt] at c_33
          refine lv_ldc2 (v := (-9223372036854775808)) hx hb hown (ht _ q_343) dT_sideBetween_44 ?_
          refine lv_lstore (lv' := [(8, .long (-9223372036854775808)), (0, .long x), (2, .long y), (4, .long u), (6, .long v)]) hx hb dT_sideBetween_47 hl (by decide) rfl (fun ls hl => ?_)
          refine lv_lload_n hx hb dT_sideBetween_49 rfl (lv_at hl 1 rfl) ?_
          refine va_mabs_long hx hb (by rw [hml]; exact hl.1.symm) hown (ht _ q_337) (ht _ q_338) (ht _ q_39) (ht _ q_339) (Nat.le_of_ble_eq_true rfl) (Nat.le_of_ble_eq_true rfl) (by show 0 ≤ 0; omega) (by show 0 ≤ 0; omega) dT_sideBetween_50 ?_
          refine lv_lload hx hb dT_sideBetween_53 (lv_at hl 4 rfl) ?_
          refine lv_lmul hx hb dT_sideBetween_55 ?_
          refine lv_lload hx hb dT_sideBetween_56 (lv_at hl 0 rfl) ?_
          refine lv_lxor hx hb dT_sideBetween_58 ?_
          refine lv_lstore (lv' := [(10, .long (((if 0 < x then x else -x) * v) ^^^ (-9223372036854775808))), (8, .long (-9223372036854775808)), (0, .long x), (2, .long y), (4, .long u), (6, .long v)]) hx hb dT_sideBetween_59 hl (by decide) rfl (fun ls hl => ?_)
          refine lv_lload_n hx hb dT_sideBetween_61 rfl (lv_at hl 3 rfl) ?_
          refine va_mabs_long hx hb (by rw [hml]; exact hl.1.symm) hown (ht _ q_337) (ht _ q_338) (ht _ q_39) (ht _ q_339) (Nat.le_of_ble_eq_true rfl) (Nat.le_of_ble_eq_true rfl) (by show 0 ≤ 0; omega) (by show 0 ≤ 0; omega) dT_sideBetween_62 ?_
          refine lv_lload hx hb dT_sideBetween_65 (lv_at hl 4 rfl) ?_
          refine lv_lmul hx hb dT_sideBetween_67 ?_
          refine lv_lload hx hb dT_sideBetween_68 (lv_at hl 1 rfl) ?_
          refine lv_lxor hx hb dT_sideBetween_70 ?_
          refine lv_lstore (lv' := [(12, .long (((if 0 < y then y else -y) * u) ^^^ (-9223372036854775808))), (10, .long (((if 0 < x then x else -x) * v) ^^^ (-9223372036854775808))), (8, .long (-9223372036854775808)), (0, .long x), (2, .long y), (4, .long u), (6, .long v)]) hx hb dT_sideBetween_71 hl (by decide) rfl (fun ls hl => ?_)
          refine lv_lload hx hb dT_sideBetween_73 (lv_at hl 1 rfl) ?_
          refine lv_lload hx hb dT_sideBetween_75 (lv_at hl 0 rfl) ?_
          refine W.lcmp hx hb dT_sideBetween_77 ?_
          refine lv_if_ne (tgt := 83) hx hb dT_sideBetween_78 (by decide) (fun c_34 => ?_) (fun c_34 => ?_)
          · skip
            rw [lg_cmp_eq] at c_34
            refine lv_lload_n hx hb dT_sideBetween_83 rfl (lv_at hl 3 rfl) ?_
            refine lv_lconst (v := 0) hx hb dT_sideBetween_84 (by decide) ?_
            refine W.lcmp hx hb dT_sideBetween_85 ?_
            refine lv_if_le (tgt := 93) hx hb dT_sideBetween_86 (by decide) (fun c_35 => ?_) (fun c_35 => ?_)
            · skip
              rw [lg_cmp_le] at c_35
              refine lv_iconst (v := 0) hx hb dT_sideBetween_93 (by decide) ?_
              refine lv_lload hx hb dT_sideBetween_94 (lv_at hl 1 rfl) ?_
              refine lv_lload hx hb dT_sideBetween_96 (lv_at hl 0 rfl) ?_
              refine W.lcmp hx hb dT_sideBetween_98 ?_
              refine lv_if_le (tgt := 106) hx hb dT_sideBetween_99 (by decide) (fun c_36 => ?_) (fun c_36 => ?_)
              · skip
                rw [lg_cmp_le] at c_36
                refine lv_iconst (v := 0) hx hb dT_sideBetween_106 (by decide) ?_
                refine lv_icmp_ne (tgt := 114) hx hb dT_sideBetween_107 (by decide) (fun c_37 => ?_) (fun c_37 => ?_)
                · skip
                  exact absurd (by decide) c_37
                · skip
                  refine lv_iconst (v := 1) hx hb dT_sideBetween_110 (by decide) ?_
                  refine lv_goto (tgt := 115) hx hb dT_sideBetween_111 (by decide) ?_
                  exact W.iret hx hb hr (fun t ht9 hW => ⟨_, rfl, by rw [sT_sideBetween, if_neg c_4, if_pos c_23, if_neg c_24, if_pos c_33, if_neg c_34, if_pos c_35, if_pos c_36], ht9⟩) (fun q h => by cases h) dT_sideBetween_115
              · skip
                rw [lg_cmp_le] at c_36
                refine lv_iconst (v := 1) hx hb dT_sideBetween_102 (by decide) ?_
                refine lv_goto (tgt := 107) hx hb dT_sideBetween_103 (by decide) ?_
                refine lv_icmp_ne (tgt := 114) hx hb dT_sideBetween_107 (by decide) (fun c_38 => ?_) (fun c_38 => ?_)
                · skip
                  refine lv_iconst (v := 2) hx hb dT_sideBetween_114 (by decide) ?_
                  exact W.iret hx hb hr (fun t ht9 hW => ⟨_, rfl, by rw [sT_sideBetween, if_neg c_4, if_pos c_23, if_neg c_24, if_pos c_33, if_neg c_34, if_pos c_35, if_neg c_36], ht9⟩) (fun q h => by cases h) dT_sideBetween_115
                · skip
                  exact absurd c_38 (by decide)
            · skip
              rw [lg_cmp_le] at c_35
              refine lv_iconst (v := 1) hx hb dT_sideBetween_89 (by decide) ?_
              refine lv_goto (tgt := 94) hx hb dT_sideBetween_90 (by decide) ?_
              refine lv_lload hx hb dT_sideBetween_94 (lv_at hl 1 rfl) ?_
              refine lv_lload hx hb dT_sideBetween_96 (lv_at hl 0 rfl) ?_
              refine W.lcmp hx hb dT_sideBetween_98 ?_
              refine lv_if_le (tgt := 106) hx hb dT_sideBetween_99 (by decide) (fun c_39 => ?_) (fun c_39 => ?_)
              · skip
                rw [lg_cmp_le] at c_39
                refine lv_iconst (v := 0) hx hb dT_sideBetween_106 (by decide) ?_
                refine lv_icmp_ne (tgt := 114) hx hb dT_sideBetween_107 (by decide) (fun c_40 => ?_) (fun c_40 => ?_)
                · skip
                  refine lv_iconst (v := 2) hx hb dT_sideBetween_114 (by decide) ?_
                  exact W.iret hx hb hr (fun t ht9 hW => ⟨_, rfl, by rw [sT_sideBetween, if_neg c_4, if_pos c_23, if_neg c_24, if_pos c_33, if_neg c_34, if_neg c_35, if_pos c_39], ht9⟩) (fun q h => by cases h) dT_sideBetween_115
                · skip
                  exact absurd c_40 (by decide)
              · skip
                rw [lg_cmp_le] at c_39
                refine lv_iconst (v := 1) hx hb dT_sideBetween_102 (by decide) ?_
                refine lv_goto (tgt := 107) hx hb dT_sideBetween_103 (by decide) ?_
                refine lv_icmp_ne (tgt := 114) hx hb dT_sideBetween_107 (by decide) (fun c_41 => ?_) (fun c_41 => ?_)
                · skip
                  exact absurd (by decide) c_41
                · skip
                  refine lv_iconst (v := 1) hx hb dT_sideBetween_110 (by decide) ?_
                  refine lv_goto (tgt := 115) hx hb dT_sideBetween_111 (by decide) ?_
                  exact W.iret hx hb hr (fun t ht9 hW => ⟨_, rfl, by rw [sT_sideBetween, if_neg c_4, if_pos c_23, if_neg c_24, if_pos c_33, if_neg c_34, if_neg c_35, if_neg c_39], ht9⟩) (fun q h => by cases h) dT_sideBetween_115
          · skip
            rw [lg_cmp_eq] at c_34
            refine lv_iconst (v := 0) hx hb dT_sideBetween_81 (by decide) ?_
            exact W.iret hx hb hr (fun t ht9 hW => ⟨_, rfl, by rw [sT_sideBetween, if_neg c_4, if_pos c_23, if_neg c_24, if_pos c_33, if_pos c_34], ht9⟩) (fun q h => by cases h) dT_sideBetween_82
        · skip
          rw [lg_cmp_gt] at c_33
          refine lv_iconst (v := 2) hx hb dT_sideBetween_42 (by decide) ?_
          exact W.iret hx hb hr (fun t ht9 hW => ⟨_, rfl, by rw [sT_sideBetween, if_neg c_4, if_pos c_23, if_neg c_24, if_neg c_33], ht9⟩) (fun q h => by cases h) dT_sideBetween_43
    · skip
      rw [lg_cmp_lt] at c_23
      refine lv_lload_n hx hb dT_sideBetween_12 rfl (lv_at hl 0 rfl) ?_
      refine lv_lconst (v := 0) hx hb dT_sideBetween_13 (by decide) ?_
      refine W.lcmp hx hb dT_sideBetween_14 ?_
      refine lv_if_gt (tgt := 24) hx hb dT_sideBetween_15 (by decide) (fun c_42 => ?_) (fun c_42 => ?_)
      · skip
        rw [lg_cmp_gt] at c_42
        refine lv_iconst (v := 1) hx hb dT_sideBetween_24 (by decide) ?_
        refine lv_goto (tgt := 29) hx hb dT_sideBetween_25 (by decide) ?_
        exact W.iret hx hb hr (fun t ht9 hW => ⟨_, rfl, by rw [sT_sideBetween, if_neg c_4, if_neg c_23, if_pos c_42], ht9⟩) (fun q h => by cases h) dT_sideBetween_29
      · skip
        rw [lg_cmp_gt] at c_42
        refine lv_lload_n hx hb dT_sideBetween_18 rfl (lv_at hl 1 rfl) ?_
        refine lv_lconst (v := 0) hx hb dT_sideBetween_19 (by decide) ?_
        refine W.lcmp hx hb dT_sideBetween_20 ?_
        refine lv_if_le (tgt := 28) hx hb dT_sideBetween_21 (by decide) (fun c_43 => ?_) (fun c_43 => ?_)
        · skip
          rw [lg_cmp_le] at c_43
          refine lv_iconst (v := 0) hx hb dT_sideBetween_28 (by decide) ?_
          exact W.iret hx hb hr (fun t ht9 hW => ⟨_, rfl, by rw [sT_sideBetween, if_neg c_4, if_neg c_23, if_neg c_42, if_pos c_43], ht9⟩) (fun q h => by cases h) dT_sideBetween_29
        · skip
          rw [lg_cmp_le] at c_43
          refine lv_iconst (v := 1) hx hb dT_sideBetween_24 (by decide) ?_
          refine lv_goto (tgt := 29) hx hb dT_sideBetween_25 (by decide) ?_
          exact W.iret hx hb hr (fun t ht9 hW => ⟨_, rfl, by rw [sT_sideBetween, if_neg c_4, if_neg c_23, if_neg c_42, if_neg c_43], ht9⟩) (fun q h => by cases h) dT_sideBetween_29
def sT_liesLeft (Rw : Nat → List Int32) (Wl : Nat → Option WV) (k : Int32) (x : Int32) (y : Int32) : Int32 :=
  (match wAt Wl (rAt (Rw 0) k) with
  | none => 0
  | some vx_44 => if (sW_side vx_44 x y) ≤ 0 then
      0
    else
      1)
set_option maxHeartbeats 4000000 in
set_option maxRecDepth 100000 in
theorem cT_liesLeft (l : Launch) (g : CX) (ad q cp : Nat → Nat) (f : Nat → Nat → Int32) (Rw : Nat → List Int32) (sl : Nat → Option Nat) (cnt h st : Int32) (LW : List Nat) (wv : Nat → WV) (hz : rowsT cp f Rw) (hsl : slOK sl LW) (k : Int32) (x : Int32) (y : Int32) : Met l yT_liesLeft (wm yT_liesLeft kT_liesLeft 5 (some .boolean)) ({ frames := 1, cells := 0, slots := 0, locals := 22 }) (ro g [.ref (ad 0), .int k, .int x, .int y] (va_P g.1 vwCl (TW g ad q cp f Rw sl cnt h st LW wv))) (vp_Si (fun r => r = sT_liesLeft Rw (wOf sl wv) k x y)) 0 0 (fun _ => False) := by
  refine Met.ofW (cc := kT_liesLeft) (maxL := 5) (ret := (some .boolean)) (by decide) rfl ?_
  intro p e s m args below meth c s₁ B hml hv
  obtain ⟨rfl, hK, hP⟩ := hv
  have hx := B.exec
  have hb := B.bytes
  have hr := B.returns
  have ht : ∀ w ∈ wT, w.before _ s = true := fun w h => atoms_spec (ws := wm yT_liesLeft kT_liesLeft 5 (some .boolean)) B.pre w (List.mem_cons_of_mem _ h)
  have hown : s.vm.findClass "NodeMaker$Tree" = some m.cls := findClass_of_methodNamed B.named
  have hlocks := B.notSynchronized
  have hl := lv_entry ([.ref (ad 0), .int k, .int x, .int y]) (n := 5) (Nat.le_of_ble_eq_true rfl)
  rw [lg_entry_eq]
  generalize (lg_sl ([.ref (ad 0), .int k, .int x, .int y]) ++ List.replicate (5 - (lg_sl ([.ref (ad 0), .int k, .int x, .int y])).length) Slot.unset).toArray = ls at hl ⊢
  have hl : lv_has ls 5 [(0, .ref (ad 0)), (1, .int k), (2, .int x), (3, .int y)] := hl
  refine lv_aload_n hx hb dT_liesLeft_0 rfl (lv_at hl 0 rfl) ?_
  refine va_get (D := g.1) (ci := 4) (v := .ref (ad 1)) (C := "NodeMaker$Tree") (T := Fd_T) (N := 13) hx hb ht i_T hown hK.1 hP 0 rfl rfl 0 (by decide) (ht _ q_103) (fun _ h9 => h9) rfl dT_liesLeft_1 ?_
  refine lv_aload_n hx hb dT_liesLeft_4 rfl (lv_at hl 0 rfl) ?_
  refine va_get (D := g.1) (ci := 4) (v := .ref (ad 6)) (C := "NodeMaker$Tree") (T := Fd_T) (N := 13) hx hb ht i_T hown hK.1 hP 0 rfl rfl 1 (by decide) (ht _ q_104) (fun _ h9 => h9) rfl dT_liesLeft_5 ?_
  refine lv_iload_n hx hb dT_liesLeft_8 rfl (lv_at hl 1 rfl) ?_
  have hPc := hP.sub (ws' := rowW g (ad 6) (q 0) (cp 0) (f 0) (Rw 0).length) [6, 7] rfl
  refine ro_Vi (v := rAt (Rw 0) k) (As := [.int k]) (rest := [.ref (ad 1)]) ⟨hx, hb, hml, hown, ht⟩ (cR_at l g (ad 6) (q 0) (cp 0) (f 0) (Rw 0) (hz 0 (by decide)) k) (cwV 1 ht (g_V q_374 q_318 q_319 q_35 q_320) rfl rfl rfl hd_R_at ⟨Nat.le_of_ble_eq_true rfl, Nat.le_of_ble_eq_true rfl⟩) hK (hPc) (va_recv hK.1 hPc (ci := 0) (q0 := 0) rfl rfl) rfl hl.1 rfl (Nat.le_of_ble_eq_true rfl) dT_liesLeft_9 ⟨by show 0 ≤ 0; omega, by show 0 ≤ 0; omega⟩ ?_
  have hPc := pl_P (cx := wsX g (ad 1) (ad 2) sl cnt) hP [1, 2] rfl
  refine ro_Vq (As := [.int (rAt (Rw 0) k)]) (rest := []) ⟨hx, hb, hml, hown, ht⟩ (cS_at l g (ad 1) (ad 2) sl cnt LW wv hsl (rAt (Rw 0) k)) (cwV 1 ht (g_V q_273 q_237 q_238 q_34 q_239) rfl rfl rfl hd_S_at ⟨Nat.le_of_ble_eq_true rfl, Nat.le_of_ble_eq_true rfl⟩) hK hPc (va_recv hK.1 hPc (ci := 3) (q0 := 0) rfl rfl) rfl hl.1 rfl (Nat.le_of_ble_eq_true rfl) dT_liesLeft_12 ⟨by show 0 ≤ 0; omega, by show 0 ≤ 0; omega⟩ (fun hq => ?_) (fun x_44 hq => ?_)
  · skip
    have hwx_44 : wAt (wOf sl wv) (rAt (Rw 0) k) = none := hq.1.symm
    refine lv_astoreN (lv' := [(4, .null), (0, .ref (ad 0)), (1, .int k), (2, .int x), (3, .int y)]) hx hb dT_liesLeft_15 hl (by decide) rfl (fun ls hl => ?_)
    refine lv_aloadN hx hb dT_liesLeft_17 (lv_at hl 0 rfl) ?_
    refine lv_ifnullN (tgt := 38) hx hb dT_liesLeft_19 (by decide) ?_
    refine lv_iconst (v := 0) hx hb dT_liesLeft_38 (by decide) ?_
    exact W.zret hx hb hr rfl (fun t ht9 hW => ⟨_, rfl, by simp only [sT_liesLeft, hwx_44], ht9⟩) (fun q h => by cases h) dT_liesLeft_39
  · skip
    have hwx_44 : wAt (wOf sl wv) (rAt (Rw 0) k) = some (wv x_44) := hq.1.symm
    have hxx_44 : x_44 ∈ LW := hq.2 _ rfl
    refine lv_astore (lv' := [(4, .ref x_44), (0, .ref (ad 0)), (1, .int k), (2, .int x), (3, .int y)]) hx hb dT_liesLeft_15 hl (by decide) rfl (fun ls hl => ?_)
    refine lv_aload hx hb dT_liesLeft_17 (lv_at hl 0 rfl) ?_
    refine lv_ifnull hx hb dT_liesLeft_19 ?_
    refine lv_aload hx hb dT_liesLeft_22 (lv_at hl 0 rfl) ?_
    refine lv_iload_n hx hb dT_liesLeft_24 rfl (lv_at hl 3 rfl) ?_
    refine lv_iload_n hx hb dT_liesLeft_25 rfl (lv_at hl 4 rfl) ?_
    have hPx := pl_one hP hxx_44
    refine ro_Vl (v := sW_side (wv x_44) x y) (As := [.int x, .int y]) (rest := []) ⟨hx, hb, hml, hown, ht⟩ (cW_side l g x_44 (wv x_44) x y) (cwV 2 ht (g_V q_333 q_211 q_212 q_38 q_213) rfl rfl rfl hd_W_side ⟨Nat.le_of_ble_eq_true rfl, Nat.le_of_ble_eq_true rfl⟩) hK (hPx) (va_recv hK.1 hPx (ci := 2) (q0 := 0) rfl rfl) rfl hl.1 rfl (Nat.le_of_ble_eq_true rfl) dT_liesLeft_26 ⟨by show 0 ≤ 0; omega, by show 0 ≤ 0; omega⟩ ?_
    refine lv_lconst (v := 0) hx hb dT_liesLeft_29 (by decide) ?_
    refine W.lcmp hx hb dT_liesLeft_30 ?_
    refine lv_if_le (tgt := 38) hx hb dT_liesLeft_31 (by decide) (fun c_45 => ?_) (fun c_45 => ?_)
    · skip
      rw [lg_cmp_le] at c_45
      refine lv_iconst (v := 0) hx hb dT_liesLeft_38 (by decide) ?_
      exact W.zret hx hb hr rfl (fun t ht9 hW => ⟨_, rfl, by simp only [sT_liesLeft, hwx_44, if_pos c_45], ht9⟩) (fun q h => by cases h) dT_liesLeft_39
    · skip
      rw [lg_cmp_le] at c_45
      refine lv_iconst (v := 1) hx hb dT_liesLeft_34 (by decide) ?_
      refine lv_goto (tgt := 39) hx hb dT_liesLeft_35 (by decide) ?_
      exact W.zret hx hb hr rfl (fun t ht9 hW => ⟨_, rfl, by simp only [sT_liesLeft, hwx_44, if_neg c_45], ht9⟩) (fun q h => by cases h) dT_liesLeft_39
def sT_sideOfEnd (Rw : Nat → List Int32) (Wl : Nat → Option WV) (i : Int32) (j : Int32) (k : Int32) (b : Int32) : Int32 :=
  (match wAt Wl i with
  | none => (match wAt Wl j with
    | none => 0
    | some vx_47 => 0)
  | some vx_46 => (match wAt Wl j with
    | none => 0
    | some vx_48 => (match wAt Wl k with
      | none => if b = 0 then
          (sT_sideOf (sW_side vx_46 (vx_48.1) (vx_48.2.1)))
        else
          (sT_sideOf (sW_side vx_46 (vx_48.2.2.1) (vx_48.2.2.2)))
      | some vx_49 => (sT_sideBetween (sW_side vx_46 (vx_48.1) (vx_48.2.1)) (sW_side vx_46 (vx_48.2.2.1) (vx_48.2.2.2)) (if 0 < (sW_side vx_49 (vx_48.1) (vx_48.2.1)) then (sW_side vx_49 (vx_48.1) (vx_48.2.1)) else -(sW_side vx_49 (vx_48.1) (vx_48.2.1))) (if 0 < (sW_side vx_49 (vx_48.2.2.1) (vx_48.2.2.2)) then (sW_side vx_49 (vx_48.2.2.1) (vx_48.2.2.2)) else -(sW_side vx_49 (vx_48.2.2.1) (vx_48.2.2.2)))))))
set_option maxHeartbeats 4000000 in
set_option maxRecDepth 100000 in
theorem cT_sideOfEnd (l : Launch) (g : CX) (ad q cp : Nat → Nat) (f : Nat → Nat → Int32) (Rw : Nat → List Int32) (sl : Nat → Option Nat) (cnt h st : Int32) (LW : List Nat) (wv : Nat → WV) (hz : rowsT cp f Rw) (hsl : slOK sl LW) (i : Int32) (j : Int32) (k : Int32) (b : Int32) : Met l yT_sideOfEnd (wm yT_sideOfEnd kT_sideOfEnd 12 (some .int)) ({ frames := 2, cells := 0, slots := 0, locals := 57 }) (ro g [.ref (ad 0), .int i, .int j, .int k, .int b] (va_P g.1 vwCl (TW g ad q cp f Rw sl cnt h st LW wv))) (vp_Si (fun r => r = sT_sideOfEnd Rw (wOf sl wv) i j k b)) 0 0 (fun _ => False) := by
  refine Met.ofW (cc := kT_sideOfEnd) (maxL := 12) (ret := (some .int)) (by decide) rfl ?_
  intro p e s m args below meth c s₁ B hml hv
  obtain ⟨rfl, hK, hP⟩ := hv
  have hx := B.exec
  have hb := B.bytes
  have hr := B.returns
  have ht : ∀ w ∈ wT, w.before _ s = true := fun w h => atoms_spec (ws := wm yT_sideOfEnd kT_sideOfEnd 12 (some .int)) B.pre w (List.mem_cons_of_mem _ h)
  have hown : s.vm.findClass "NodeMaker$Tree" = some m.cls := findClass_of_methodNamed B.named
  have hlocks := B.notSynchronized
  have hl := lv_entry ([.ref (ad 0), .int i, .int j, .int k, .int b]) (n := 12) (Nat.le_of_ble_eq_true rfl)
  rw [lg_entry_eq]
  generalize (lg_sl ([.ref (ad 0), .int i, .int j, .int k, .int b]) ++ List.replicate (12 - (lg_sl ([.ref (ad 0), .int i, .int j, .int k, .int b])).length) Slot.unset).toArray = ls at hl ⊢
  have hl : lv_has ls 12 [(0, .ref (ad 0)), (1, .int i), (2, .int j), (3, .int k), (4, .int b)] := hl
  refine lv_aload_n hx hb dT_sideOfEnd_0 rfl (lv_at hl 0 rfl) ?_
  refine va_get (D := g.1) (ci := 4) (v := .ref (ad 1)) (C := "NodeMaker$Tree") (T := Fd_T) (N := 13) hx hb ht i_T hown hK.1 hP 0 rfl rfl 0 (by decide) (ht _ q_103) (fun _ h9 => h9) rfl dT_sideOfEnd_1 ?_
  refine lv_iload_n hx hb dT_sideOfEnd_4 rfl (lv_at hl 1 rfl) ?_
  have hPc := pl_P (cx := wsX g (ad 1) (ad 2) sl cnt) hP [1, 2] rfl
  refine ro_Vq (As := [.int i]) (rest := []) ⟨hx, hb, hml, hown, ht⟩ (cS_at l g (ad 1) (ad 2) sl cnt LW wv hsl i) (cwV 1 ht (g_V q_273 q_237 q_238 q_34 q_239) rfl rfl rfl hd_S_at ⟨Nat.le_of_ble_eq_true rfl, Nat.le_of_ble_eq_true rfl⟩) hK hPc (va_recv hK.1 hPc (ci := 3) (q0 := 0) rfl rfl) rfl hl.1 rfl (Nat.le_of_ble_eq_true rfl) dT_sideOfEnd_5 ⟨by show 0 ≤ 0; omega, by show 0 ≤ 0; omega⟩ (fun hq => ?_) (fun x_46 hq => ?_)
  · skip
    have hwx_46 : wAt (wOf sl wv) i = none := hq.1.symm
    refine lv_astoreN (lv' := [(5, .null), (0, .ref (ad 0)), (1, .int i), (2, .int j), (3, .int k), (4, .int b)]) hx hb dT_sideOfEnd_8 hl (by decide) rfl (fun ls hl => ?_)
    refine lv_aload_n hx hb dT_sideOfEnd_10 rfl (lv_at hl 1 rfl) ?_
    refine va_get (D := g.1) (ci := 4) (v := .ref (ad 1)) (C := "NodeMaker$Tree") (T := Fd_T) (N := 13) hx hb ht i_T hown hK.1 hP 0 rfl rfl 0 (by decide) (ht _ q_103) (fun _ h9 => h9) rfl dT_sideOfEnd_11 ?_
    refine lv_iload_n hx hb dT_sideOfEnd_14 rfl (lv_at hl 3 rfl) ?_
    have hPc := pl_P (cx := wsX g (ad 1) (ad 2) sl cnt) hP [1, 2] rfl
    refine ro_Vq (As := [.int j]) (rest := []) ⟨hx, hb, hml, hown, ht⟩ (cS_at l g (ad 1) (ad 2) sl cnt LW wv hsl j) (cwV 1 ht (g_V q_273 q_237 q_238 q_34 q_239) rfl rfl rfl hd_S_at ⟨Nat.le_of_ble_eq_true rfl, Nat.le_of_ble_eq_true rfl⟩) hK hPc (va_recv hK.1 hPc (ci := 3) (q0 := 0) rfl rfl) rfl hl.1 rfl (Nat.le_of_ble_eq_true rfl) dT_sideOfEnd_15 ⟨by show 0 ≤ 0; omega, by show 0 ≤ 0; omega⟩ (fun hq => ?_) (fun x_47 hq => ?_)
    · skip
      have hwx_47 : wAt (wOf sl wv) j = none := hq.1.symm
      refine lv_astoreN (lv' := [(6, .null), (5, .null), (0, .ref (ad 0)), (1, .int i), (2, .int j), (3, .int k), (4, .int b)]) hx hb dT_sideOfEnd_18 hl (by decide) rfl (fun ls hl => ?_)
      refine lv_aloadN hx hb dT_sideOfEnd_20 (lv_at hl 1 rfl) ?_
      refine lv_ifnullN (tgt := 30) hx hb dT_sideOfEnd_22 (by decide) ?_
      refine lv_iconst (v := 0) hx hb dT_sideOfEnd_30 (by decide) ?_
      exact W.iret hx hb hr (fun t ht9 hW => ⟨_, rfl, by simp only [sT_sideOfEnd, hwx_46, hwx_47], ht9⟩) (fun q h => by cases h) dT_sideOfEnd_31
    · skip
      have hwx_47 : wAt (wOf sl wv) j = some (wv x_47) := hq.1.symm
      have hxx_47 : x_47 ∈ LW := hq.2 _ rfl
      refine lv_astore (lv' := [(6, .ref x_47), (5, .null), (0, .ref (ad 0)), (1, .int i), (2, .int j), (3, .int k), (4, .int b)]) hx hb dT_sideOfEnd_18 hl (by decide) rfl (fun ls hl => ?_)
      refine lv_aloadN hx hb dT_sideOfEnd_20 (lv_at hl 1 rfl) ?_
      refine lv_ifnullN (tgt := 30) hx hb dT_sideOfEnd_22 (by decide) ?_
      refine lv_iconst (v := 0) hx hb dT_sideOfEnd_30 (by decide) ?_
      exact W.iret hx hb hr (fun t ht9 hW => ⟨_, rfl, by simp only [sT_sideOfEnd, hwx_46, hwx_47], ht9⟩) (fun q h => by cases h) dT_sideOfEnd_31
  · skip
    have hwx_46 : wAt (wOf sl wv) i = some (wv x_46) := hq.1.symm
    have hxx_46 : x_46 ∈ LW := hq.2 _ rfl
    refine lv_astore (lv' := [(5, .ref x_46), (0, .ref (ad 0)), (1, .int i), (2, .int j), (3, .int k), (4, .int b)]) hx hb dT_sideOfEnd_8 hl (by decide) rfl (fun ls hl => ?_)
    refine lv_aload_n hx hb dT_sideOfEnd_10 rfl (lv_at hl 1 rfl) ?_
    refine va_get (D := g.1) (ci := 4) (v := .ref (ad 1)) (C := "NodeMaker$Tree") (T := Fd_T) (N := 13) hx hb ht i_T hown hK.1 hP 0 rfl rfl 0 (by decide) (ht _ q_103) (fun _ h9 => h9) rfl dT_sideOfEnd_11 ?_
    refine lv_iload_n hx hb dT_sideOfEnd_14 rfl (lv_at hl 3 rfl) ?_
    have hPc := pl_P (cx := wsX g (ad 1) (ad 2) sl cnt) hP [1, 2] rfl
    refine ro_Vq (As := [.int j]) (rest := []) ⟨hx, hb, hml, hown, ht⟩ (cS_at l g (ad 1) (ad 2) sl cnt LW wv hsl j) (cwV 1 ht (g_V q_273 q_237 q_238 q_34 q_239) rfl rfl rfl hd_S_at ⟨Nat.le_of_ble_eq_true rfl, Nat.le_of_ble_eq_true rfl⟩) hK hPc (va_recv hK.1 hPc (ci := 3) (q0 := 0) rfl rfl) rfl hl.1 rfl (Nat.le_of_ble_eq_true rfl) dT_sideOfEnd_15 ⟨by show 0 ≤ 0; omega, by show 0 ≤ 0; omega⟩ (fun hq => ?_) (fun x_48 hq => ?_)
    · skip
      have hwx_48 : wAt (wOf sl wv) j = none := hq.1.symm
      refine lv_astoreN (lv' := [(6, .null), (5, .ref x_46), (0, .ref (ad 0)), (1, .int i), (2, .int j), (3, .int k), (4, .int b)]) hx hb dT_sideOfEnd_18 hl (by decide) rfl (fun ls hl => ?_)
      refine lv_aload hx hb dT_sideOfEnd_20 (lv_at hl 1 rfl) ?_
      refine lv_ifnull hx hb dT_sideOfEnd_22 ?_
      refine lv_aloadN hx hb dT_sideOfEnd_25 (lv_at hl 0 rfl) ?_
      refine lv_ifnonnullN hx hb dT_sideOfEnd_27 ?_
      refine lv_iconst (v := 0) hx hb dT_sideOfEnd_30 (by decide) ?_
      exact W.iret hx hb hr (fun t ht9 hW => ⟨_, rfl, by simp only [sT_sideOfEnd, hwx_46, hwx_48], ht9⟩) (fun q h => by cases h) dT_sideOfEnd_31
    · skip
      have hwx_48 : wAt (wOf sl wv) j = some (wv x_48) := hq.1.symm
      have hxx_48 : x_48 ∈ LW := hq.2 _ rfl
      refine lv_astore (lv' := [(6, .ref x_48), (5, .ref x_46), (0, .ref (ad 0)), (1, .int i), (2, .int j), (3, .int k), (4, .int b)]) hx hb dT_sideOfEnd_18 hl (by decide) rfl (fun ls hl => ?_)
      refine lv_aload hx hb dT_sideOfEnd_20 (lv_at hl 1 rfl) ?_
      refine lv_ifnull hx hb dT_sideOfEnd_22 ?_
      refine lv_aload hx hb dT_sideOfEnd_25 (lv_at hl 0 rfl) ?_
      refine lv_ifnonnull (tgt := 32) hx hb dT_sideOfEnd_27 (by decide) ?_
      refine lv_aload hx hb dT_sideOfEnd_32 (lv_at hl 1 rfl) ?_
      refine lv_aload hx hb dT_sideOfEnd_34 (lv_at hl 0 rfl) ?_
      have hPx := pl_one hP hxx_48
      refine va_getN (D := g.1) (ci := 2) (v := .int (wv x_48).1) (C := "NodeMaker$Wall") (T := Fd_W) (N := 4) hx hb ht i_W hown hK.1 hPx 0 rfl rfl 0 (by decide) (va_Nw.use rfl (nw_10 hK.2)) (fun _ h9 => h9) rfl dT_sideOfEnd_36 ?_
      refine lv_aload hx hb dT_sideOfEnd_39 (lv_at hl 0 rfl) ?_
      have hPx := pl_one hP hxx_48
      refine va_getN (D := g.1) (ci := 2) (v := .int (wv x_48).2.1) (C := "NodeMaker$Wall") (T := Fd_W) (N := 4) hx hb ht i_W hown hK.1 hPx 0 rfl rfl 1 (by decide) (va_Nw.use rfl (nw_11 hK.2)) (fun _ h9 => h9) rfl dT_sideOfEnd_41 ?_
      have hPx := pl_one hP hxx_46
      refine ro_Vl (v := sW_side (wv x_46) ((wv x_48).1) ((wv x_48).2.1)) (As := [.int (wv x_48).1, .int (wv x_48).2.1]) (rest := []) ⟨hx, hb, hml, hown, ht⟩ (cW_side l g x_46 (wv x_46) ((wv x_48).1) ((wv x_48).2.1)) (cwV 2 ht (g_V q_333 q_211 q_212 q_38 q_213) rfl rfl rfl hd_W_side ⟨Nat.le_of_ble_eq_true rfl, Nat.le_of_ble_eq_true rfl⟩) hK (hPx) (va_recv hK.1 hPx (ci := 2) (q0 := 0) rfl rfl) rfl hl.1 rfl (Nat.le_of_ble_eq_true rfl) dT_sideOfEnd_44 ⟨by show 0 ≤ 0; omega, by show 0 ≤ 0; omega⟩ ?_
      refine lv_lstore (lv' := [(7, .long (sW_side (wv x_46) ((wv x_48).1) ((wv x_48).2.1))), (6, .ref x_48), (5, .ref x_46), (0, .ref (ad 0)), (1, .int i), (2, .int j), (3, .int k), (4, .int b)]) hx hb dT_sideOfEnd_47 hl (by decide) rfl (fun ls hl => ?_)
      refine lv_aload hx hb dT_sideOfEnd_49 (lv_at hl 2 rfl) ?_
      refine lv_aload hx hb dT_sideOfEnd_51 (lv_at hl 1 rfl) ?_
      have hPx := pl_one hP hxx_48
      refine va_getN (D := g.1) (ci := 2) (v := .int (wv x_48).2.2.1) (C := "NodeMaker$Wall") (T := Fd_W) (N := 4) hx hb ht i_W hown hK.1 hPx 0 rfl rfl 2 (by decide) (va_Nw.use rfl (nw_12 hK.2)) (fun _ h9 => h9) rfl dT_sideOfEnd_53 ?_
      refine lv_aload hx hb dT_sideOfEnd_56 (lv_at hl 1 rfl) ?_
      have hPx := pl_one hP hxx_48
      refine va_getN (D := g.1) (ci := 2) (v := .int (wv x_48).2.2.2) (C := "NodeMaker$Wall") (T := Fd_W) (N := 4) hx hb ht i_W hown hK.1 hPx 0 rfl rfl 3 (by decide) (va_Nw.use rfl (nw_13 hK.2)) (fun _ h9 => h9) rfl dT_sideOfEnd_58 ?_
      have hPx := pl_one hP hxx_46
      refine ro_Vl (v := sW_side (wv x_46) ((wv x_48).2.2.1) ((wv x_48).2.2.2)) (As := [.int (wv x_48).2.2.1, .int (wv x_48).2.2.2]) (rest := []) ⟨hx, hb, hml, hown, ht⟩ (cW_side l g x_46 (wv x_46) ((wv x_48).2.2.1) ((wv x_48).2.2.2)) (cwV 2 ht (g_V q_333 q_211 q_212 q_38 q_213) rfl rfl rfl hd_W_side ⟨Nat.le_of_ble_eq_true rfl, Nat.le_of_ble_eq_true rfl⟩) hK (hPx) (va_recv hK.1 hPx (ci := 2) (q0 := 0) rfl rfl) rfl hl.1 rfl (Nat.le_of_ble_eq_true rfl) dT_sideOfEnd_61 ⟨by show 0 ≤ 0; omega, by show 0 ≤ 0; omega⟩ ?_
      refine lv_lstore (lv' := [(9, .long (sW_side (wv x_46) ((wv x_48).2.2.1) ((wv x_48).2.2.2))), (7, .long (sW_side (wv x_46) ((wv x_48).1) ((wv x_48).2.1))), (6, .ref x_48), (5, .ref x_46), (0, .ref (ad 0)), (1, .int i), (2, .int j), (3, .int k), (4, .int b)]) hx hb dT_sideOfEnd_64 hl (by decide) rfl (fun ls hl => ?_)
      refine lv_aload_n hx hb dT_sideOfEnd_66 rfl (lv_at hl 4 rfl) ?_
      refine va_get (D := g.1) (ci := 4) (v := .ref (ad 1)) (C := "NodeMaker$Tree") (T := Fd_T) (N := 13) hx hb ht i_T hown hK.1 hP 0 rfl rfl 0 (by decide) (ht _ q_103) (fun _ h9 => h9) rfl dT_sideOfEnd_67 ?_
      refine lv_iload_n hx hb dT_sideOfEnd_70 rfl (lv_at hl 7 rfl) ?_
      have hPc := pl_P (cx := wsX g (ad 1) (ad 2) sl cnt) hP [1, 2] rfl
      refine ro_Vq (As := [.int k]) (rest := []) ⟨hx, hb, hml, hown, ht⟩ (cS_at l g (ad 1) (ad 2) sl cnt LW wv hsl k) (cwV 1 ht (g_V q_273 q_237 q_238 q_34 q_239) rfl rfl rfl hd_S_at ⟨Nat.le_of_ble_eq_true rfl, Nat.le_of_ble_eq_true rfl⟩) hK hPc (va_recv hK.1 hPc (ci := 3) (q0 := 0) rfl rfl) rfl hl.1 rfl (Nat.le_of_ble_eq_true rfl) dT_sideOfEnd_71 ⟨by show 0 ≤ 0; omega, by show 0 ≤ 0; omega⟩ (fun hq => ?_) (fun x_49 hq => ?_)
      · skip
        have hwx_49 : wAt (wOf sl wv) k = none := hq.1.symm
        refine lv_astoreN (lv' := [(11, .null), (9, .long (sW_side (wv x_46) ((wv x_48).2.2.1) ((wv x_48).2.2.2))), (7, .long (sW_side (wv x_46) ((wv x_48).1) ((wv x_48).2.1))), (6, .ref x_48), (5, .ref x_46), (0, .ref (ad 0)), (1, .int i), (2, .int j), (3, .int k), (4, .int b)]) hx hb dT_sideOfEnd_74 hl (by decide) rfl (fun ls hl => ?_)
        refine lv_aloadN hx hb dT_sideOfEnd_76 (lv_at hl 0 rfl) ?_
        refine lv_ifnonnullN hx hb dT_sideOfEnd_78 ?_
        refine lv_iload hx hb dT_sideOfEnd_81 (lv_at hl 9 rfl) ?_
        refine lv_if_eq (tgt := 91) hx hb dT_sideOfEnd_83 (by decide) (fun c_50 => ?_) (fun c_50 => ?_)
        · skip
          refine lv_lload hx hb dT_sideOfEnd_91 (lv_at hl 2 rfl) ?_
          refine ro_Si (v := sT_sideOf (sW_side (wv x_46) ((wv x_48).1) ((wv x_48).2.1))) (As := [.long (sW_side (wv x_46) ((wv x_48).1) ((wv x_48).2.1))]) (rest := []) ⟨hx, hb, hml, hown, ht⟩ (cT_sideOf l g (sW_side (wv x_46) ((wv x_48).1) ((wv x_48).2.1))) (cwS 1 ht (g_S q_334 q_335 q_33 q_336) rfl rfl rfl hd_T_sideOf ⟨Nat.le_of_ble_eq_true rfl, Nat.le_of_ble_eq_true rfl⟩) hK (trivial) rfl hl.1 rfl (Nat.le_of_ble_eq_true rfl) dT_sideOfEnd_93 ⟨by show 0 ≤ 0; omega, by show 0 ≤ 0; omega⟩ ?_
          exact W.iret hx hb hr (fun t ht9 hW => ⟨_, rfl, by simp only [sT_sideOfEnd, hwx_46, hwx_48, hwx_49, if_pos c_50], ht9⟩) (fun q h => by cases h) dT_sideOfEnd_96
        · skip
          refine lv_lload hx hb dT_sideOfEnd_86 (lv_at hl 1 rfl) ?_
          refine lv_goto (tgt := 93) hx hb dT_sideOfEnd_88 (by decide) ?_
          refine ro_Si (v := sT_sideOf (sW_side (wv x_46) ((wv x_48).2.2.1) ((wv x_48).2.2.2))) (As := [.long (sW_side (wv x_46) ((wv x_48).2.2.1) ((wv x_48).2.2.2))]) (rest := []) ⟨hx, hb, hml, hown, ht⟩ (cT_sideOf l g (sW_side (wv x_46) ((wv x_48).2.2.1) ((wv x_48).2.2.2))) (cwS 1 ht (g_S q_334 q_335 q_33 q_336) rfl rfl rfl hd_T_sideOf ⟨Nat.le_of_ble_eq_true rfl, Nat.le_of_ble_eq_true rfl⟩) hK (trivial) rfl hl.1 rfl (Nat.le_of_ble_eq_true rfl) dT_sideOfEnd_93 ⟨by show 0 ≤ 0; omega, by show 0 ≤ 0; omega⟩ ?_
          exact W.iret hx hb hr (fun t ht9 hW => ⟨_, rfl, by simp only [sT_sideOfEnd, hwx_46, hwx_48, hwx_49, if_neg c_50], ht9⟩) (fun q h => by cases h) dT_sideOfEnd_96
      · skip
        have hwx_49 : wAt (wOf sl wv) k = some (wv x_49) := hq.1.symm
        have hxx_49 : x_49 ∈ LW := hq.2 _ rfl
        refine lv_astore (lv' := [(11, .ref x_49), (9, .long (sW_side (wv x_46) ((wv x_48).2.2.1) ((wv x_48).2.2.2))), (7, .long (sW_side (wv x_46) ((wv x_48).1) ((wv x_48).2.1))), (6, .ref x_48), (5, .ref x_46), (0, .ref (ad 0)), (1, .int i), (2, .int j), (3, .int k), (4, .int b)]) hx hb dT_sideOfEnd_74 hl (by decide) rfl (fun ls hl => ?_)
        refine lv_aload hx hb dT_sideOfEnd_76 (lv_at hl 0 rfl) ?_
        refine lv_ifnonnull (tgt := 97) hx hb dT_sideOfEnd_78 (by decide) ?_
        refine lv_lload hx hb dT_sideOfEnd_97 (lv_at hl 2 rfl) ?_
        refine lv_lload hx hb dT_sideOfEnd_99 (lv_at hl 1 rfl) ?_
        refine lv_aload hx hb dT_sideOfEnd_101 (lv_at hl 0 rfl) ?_
        refine lv_aload hx hb dT_sideOfEnd_103 (lv_at hl 3 rfl) ?_
        have hPx := pl_one hP hxx_48
        refine va_getN (D := g.1) (ci := 2) (v := .int (wv x_48).1) (C := "NodeMaker$Wall") (T := Fd_W) (N := 4) hx hb ht i_W hown hK.1 hPx 0 rfl rfl 0 (by decide) (va_Nw.use rfl (nw_10 hK.2)) (fun _ h9 => h9) rfl dT_sideOfEnd_105 ?_
        refine lv_aload hx hb dT_sideOfEnd_108 (lv_at hl 3 rfl) ?_
        have hPx := pl_one hP hxx_48
        refine va_getN (D := g.1) (ci := 2) (v := .int (wv x_48).2.1) (C := "NodeMaker$Wall") (T := Fd_W) (N := 4) hx hb ht i_W hown hK.1 hPx 0 rfl rfl 1 (by decide) (va_Nw.use rfl (nw_11 hK.2)) (fun _ h9 => h9) rfl dT_sideOfEnd_110 ?_
        have hPx := pl_one hP hxx_49
        refine ro_Vl (v := sW_side (wv x_49) ((wv x_48).1) ((wv x_48).2.1)) (As := [.int (wv x_48).1, .int (wv x_48).2.1]) (rest := [.long (sW_side (wv x_46) ((wv x_48).2.2.1) ((wv x_48).2.2.2)), .long (sW_side (wv x_46) ((wv x_48).1) ((wv x_48).2.1))]) ⟨hx, hb, hml, hown, ht⟩ (cW_side l g x_49 (wv x_49) ((wv x_48).1) ((wv x_48).2.1)) (cwV 2 ht (g_V q_333 q_211 q_212 q_38 q_213) rfl rfl rfl hd_W_side ⟨Nat.le_of_ble_eq_true rfl, Nat.le_of_ble_eq_true rfl⟩) hK (hPx) (va_recv hK.1 hPx (ci := 2) (q0 := 0) rfl rfl) rfl hl.1 rfl (Nat.le_of_ble_eq_true rfl) dT_sideOfEnd_113 ⟨by show 0 ≤ 0; omega, by show 0 ≤ 0; omega⟩ ?_
        refine va_mabs_long hx hb (by rw [hml]; exact hl.1.symm) hown (ht _ q_337) (ht _ q_338) (ht _ q_39) (ht _ q_339) (Nat.le_of_ble_eq_true rfl) (Nat.le_of_ble_eq_true rfl) (by show 0 ≤ 0; omega) (by show 0 ≤ 0; omega) dT_sideOfEnd_116 ?_
        refine lv_aload hx hb dT_sideOfEnd_119 (lv_at hl 0 rfl) ?_
        refine lv_aload hx hb dT_sideOfEnd_121 (lv_at hl 3 rfl) ?_
        have hPx := pl_one hP hxx_48
        refine va_getN (D := g.1) (ci := 2) (v := .int (wv x_48).2.2.1) (C := "NodeMaker$Wall") (T := Fd_W) (N := 4) hx hb ht i_W hown hK.1 hPx 0 rfl rfl 2 (by decide) (va_Nw.use rfl (nw_12 hK.2)) (fun _ h9 => h9) rfl dT_sideOfEnd_123 ?_
        refine lv_aload hx hb dT_sideOfEnd_126 (lv_at hl 3 rfl) ?_
        have hPx := pl_one hP hxx_48
        refine va_getN (D := g.1) (ci := 2) (v := .int (wv x_48).2.2.2) (C := "NodeMaker$Wall") (T := Fd_W) (N := 4) hx hb ht i_W hown hK.1 hPx 0 rfl rfl 3 (by decide) (va_Nw.use rfl (nw_13 hK.2)) (fun _ h9 => h9) rfl dT_sideOfEnd_128 ?_
        have hPx := pl_one hP hxx_49
        refine ro_Vl (v := sW_side (wv x_49) ((wv x_48).2.2.1) ((wv x_48).2.2.2)) (As := [.int (wv x_48).2.2.1, .int (wv x_48).2.2.2]) (rest := [.long (if 0 < (sW_side (wv x_49) ((wv x_48).1) ((wv x_48).2.1)) then (sW_side (wv x_49) ((wv x_48).1) ((wv x_48).2.1)) else -(sW_side (wv x_49) ((wv x_48).1) ((wv x_48).2.1))), .long (sW_side (wv x_46) ((wv x_48).2.2.1) ((wv x_48).2.2.2)), .long (sW_side (wv x_46) ((wv x_48).1) ((wv x_48).2.1))]) ⟨hx, hb, hml, hown, ht⟩ (cW_side l g x_49 (wv x_49) ((wv x_48).2.2.1) ((wv x_48).2.2.2)) (cwV 2 ht (g_V q_333 q_211 q_212 q_38 q_213) rfl rfl rfl hd_W_side ⟨Nat.le_of_ble_eq_true rfl, Nat.le_of_ble_eq_true rfl⟩) hK (hPx) (va_recv hK.1 hPx (ci := 2) (q0 := 0) rfl rfl) rfl hl.1 rfl (Nat.le_of_ble_eq_true rfl) dT_sideOfEnd_131 ⟨by show 0 ≤ 0; omega, by show 0 ≤ 0; omega⟩ ?_
        refine va_mabs_long hx hb (by rw [hml]; exact hl.1.symm) hown (ht _ q_337) (ht _ q_338) (ht _ q_39) (ht _ q_339) (Nat.le_of_ble_eq_true rfl) (Nat.le_of_ble_eq_true rfl) (by show 0 ≤ 0; omega) (by show 0 ≤ 0; omega) dT_sideOfEnd_134 ?_
        refine ro_Si (v := sT_sideBetween (sW_side (wv x_46) ((wv x_48).1) ((wv x_48).2.1)) (sW_side (wv x_46) ((wv x_48).2.2.1) ((wv x_48).2.2.2)) (if 0 < (sW_side (wv x_49) ((wv x_48).1) ((wv x_48).2.1)) then (sW_side (wv x_49) ((wv x_48).1) ((wv x_48).2.1)) else -(sW_side (wv x_49) ((wv x_48).1) ((wv x_48).2.1))) (if 0 < (sW_side (wv x_49) ((wv x_48).2.2.1) ((wv x_48).2.2.2)) then (sW_side (wv x_49) ((wv x_48).2.2.1) ((wv x_48).2.2.2)) else -(sW_side (wv x_49) ((wv x_48).2.2.1) ((wv x_48).2.2.2)))) (As := [.long (sW_side (wv x_46) ((wv x_48).1) ((wv x_48).2.1)), .long (sW_side (wv x_46) ((wv x_48).2.2.1) ((wv x_48).2.2.2)), .long (if 0 < (sW_side (wv x_49) ((wv x_48).1) ((wv x_48).2.1)) then (sW_side (wv x_49) ((wv x_48).1) ((wv x_48).2.1)) else -(sW_side (wv x_49) ((wv x_48).1) ((wv x_48).2.1))), .long (if 0 < (sW_side (wv x_49) ((wv x_48).2.2.1) ((wv x_48).2.2.2)) then (sW_side (wv x_49) ((wv x_48).2.2.1) ((wv x_48).2.2.2)) else -(sW_side (wv x_49) ((wv x_48).2.2.1) ((wv x_48).2.2.2)))]) (rest := []) ⟨hx, hb, hml, hown, ht⟩ (cT_sideBetween l g (sW_side (wv x_46) ((wv x_48).1) ((wv x_48).2.1)) (sW_side (wv x_46) ((wv x_48).2.2.1) ((wv x_48).2.2.2)) (if 0 < (sW_side (wv x_49) ((wv x_48).1) ((wv x_48).2.1)) then (sW_side (wv x_49) ((wv x_48).1) ((wv x_48).2.1)) else -(sW_side (wv x_49) ((wv x_48).1) ((wv x_48).2.1))) (if 0 < (sW_side (wv x_49) ((wv x_48).2.2.1) ((wv x_48).2.2.2)) then (sW_side (wv x_49) ((wv x_48).2.2.1) ((wv x_48).2.2.2)) else -(sW_side (wv x_49) ((wv x_48).2.2.1) ((wv x_48).2.2.2)))) (cwS 4 ht (g_S q_340 q_341 q_33 q_342) rfl rfl rfl hd_T_sideBetween ⟨Nat.le_of_ble_eq_true rfl, Nat.le_of_ble_eq_true rfl⟩) hK (trivial) rfl hl.1 rfl (Nat.le_of_ble_eq_true rfl) dT_sideOfEnd_137 ⟨by show 0 ≤ 0; omega, by show 0 ≤ 0; omega⟩ ?_
        exact W.iret hx hb hr (fun t ht9 hW => ⟨_, rfl, by simp only [sT_sideOfEnd, hwx_46, hwx_48, hwx_49], ht9⟩) (fun q h => by cases h) dT_sideOfEnd_140
def sT_whereLies (Rw : Nat → List Int32) (Wl : Nat → Option WV) (i : Int32) (j : Int32) : Int32 :=
  ((sT_sideOfEnd Rw Wl i (rAt (Rw 10) j) (rAt (Rw 11) j) 0) ||| (sT_sideOfEnd Rw Wl i (rAt (Rw 10) j) (rAt (Rw 12) j) 1))
set_option maxHeartbeats 4000000 in
set_option maxRecDepth 100000 in
theorem cT_whereLies (l : Launch) (g : CX) (ad q cp : Nat → Nat) (f : Nat → Nat → Int32) (Rw : Nat → List Int32) (sl : Nat → Option Nat) (cnt h st : Int32) (LW : List Nat) (wv : Nat → WV) (hz : rowsT cp f Rw) (hsl : slOK sl LW) (i : Int32) (j : Int32) : Met l yT_whereLies (wm yT_whereLies kT_whereLies 4 (some .int)) ({ frames := 3, cells := 0, slots := 0, locals := 88 }) (ro g [.ref (ad 0), .int i, .int j] (va_P g.1 vwCl (TW g ad q cp f Rw sl cnt h st LW wv))) (vp_Si (fun r => r = sT_whereLies Rw (wOf sl wv) i j)) 0 0 (fun _ => False) := by
  refine Met.ofW (cc := kT_whereLies) (maxL := 4) (ret := (some .int)) (by decide) rfl ?_
  intro p e s m args below meth c s₁ B hml hv
  obtain ⟨rfl, hK, hP⟩ := hv
  have hx := B.exec
  have hb := B.bytes
  have hr := B.returns
  have ht : ∀ w ∈ wT, w.before _ s = true := fun w h => atoms_spec (ws := wm yT_whereLies kT_whereLies 4 (some .int)) B.pre w (List.mem_cons_of_mem _ h)
  have hown : s.vm.findClass "NodeMaker$Tree" = some m.cls := findClass_of_methodNamed B.named
  have hlocks := B.notSynchronized
  have hl := lv_entry ([.ref (ad 0), .int i, .int j]) (n := 4) (Nat.le_of_ble_eq_true rfl)
  rw [lg_entry_eq]
  generalize (lg_sl ([.ref (ad 0), .int i, .int j]) ++ List.replicate (4 - (lg_sl ([.ref (ad 0), .int i, .int j])).length) Slot.unset).toArray = ls at hl ⊢
  have hl : lv_has ls 4 [(0, .ref (ad 0)), (1, .int i), (2, .int j)] := hl
  refine lv_aload_n hx hb dT_whereLies_0 rfl (lv_at hl 0 rfl) ?_
  refine va_get (D := g.1) (ci := 4) (v := .ref (ad 4)) (C := "NodeMaker$Tree") (T := Fd_T) (N := 13) hx hb ht i_T hown hK.1 hP 0 rfl rfl 9 (by decide) (ht _ q_112) (fun _ h9 => h9) rfl dT_whereLies_1 ?_
  refine lv_iload_n hx hb dT_whereLies_4 rfl (lv_at hl 2 rfl) ?_
  have hPc := hP.sub (ws' := (piW g (ad 4) (fun k => ad (16 + k)) (fun k => q (10 + k)) (fun k => cp (10 + k)) (fun k => f (10 + k)) (fun k => (Rw (10 + k)).length))) [4, 26, 27, 28, 29, 30, 31] rfl
  refine ro_Vi (v := rAt (Rw 10) j) (As := [.int j]) (rest := []) ⟨hx, hb, hml, hown, ht⟩ (cP_wallAt l g (ad 4) (fun k => ad (16 + k)) (fun k => q (10 + k)) (fun k => cp (10 + k)) (fun k => f (10 + k)) (fun k => Rw (10 + k)) (rows_3 10 (by decide) hz) j) (cwV 1 ht (g_V q_313 q_314 q_315 q_36 q_316) rfl rfl rfl hd_P_wallAt ⟨Nat.le_of_ble_eq_true rfl, Nat.le_of_ble_eq_true rfl⟩) hK (hPc) (va_recv hK.1 hPc (ci := 1) (q0 := 0) rfl rfl) rfl hl.1 rfl (Nat.le_of_ble_eq_true rfl) dT_whereLies_5 ⟨by show 0 ≤ 0; omega, by show 0 ≤ 0; omega⟩ ?_
  refine lv_istore_n (lv' := [(3, .int (rAt (Rw 10) j)), (0, .ref (ad 0)), (1, .int i), (2, .int j)]) hx hb dT_whereLies_8 rfl hl (by decide) rfl (fun ls hl => ?_)
  refine lv_aload_n hx hb dT_whereLies_9 rfl (lv_at hl 1 rfl) ?_
  refine lv_iload_n hx hb dT_whereLies_10 rfl (lv_at hl 2 rfl) ?_
  refine lv_iload_n hx hb dT_whereLies_11 rfl (lv_at hl 0 rfl) ?_
  refine lv_aload_n hx hb dT_whereLies_12 rfl (lv_at hl 1 rfl) ?_
  refine va_get (D := g.1) (ci := 4) (v := .ref (ad 4)) (C := "NodeMaker$Tree") (T := Fd_T) (N := 13) hx hb ht i_T hown hK.1 hP 0 rfl rfl 9 (by decide) (ht _ q_112) (fun _ h9 => h9) rfl dT_whereLies_13 ?_
  refine lv_iload_n hx hb dT_whereLies_16 rfl (lv_at hl 3 rfl) ?_
  have hPc := hP.sub (ws' := (piW g (ad 4) (fun k => ad (16 + k)) (fun k => q (10 + k)) (fun k => cp (10 + k)) (fun k => f (10 + k)) (fun k => (Rw (10 + k)).length))) [4, 26, 27, 28, 29, 30, 31] rfl
  refine ro_Vi (v := rAt (Rw 11) j) (As := [.int j]) (rest := [.int (rAt (Rw 10) j), .int i, .ref (ad 0)]) ⟨hx, hb, hml, hown, ht⟩ (cP_firstAt l g (ad 4) (fun k => ad (16 + k)) (fun k => q (10 + k)) (fun k => cp (10 + k)) (fun k => f (10 + k)) (fun k => Rw (10 + k)) (rows_3 10 (by decide) hz) j) (cwV 1 ht (g_V q_325 q_326 q_327 q_36 q_328) rfl rfl rfl hd_P_firstAt ⟨Nat.le_of_ble_eq_true rfl, Nat.le_of_ble_eq_true rfl⟩) hK (hPc) (va_recv hK.1 hPc (ci := 1) (q0 := 0) rfl rfl) rfl hl.1 rfl (Nat.le_of_ble_eq_true rfl) dT_whereLies_17 ⟨by show 0 ≤ 0; omega, by show 0 ≤ 0; omega⟩ ?_
  refine lv_iconst (v := 0) hx hb dT_whereLies_20 (by decide) ?_
  refine ro_Vi (v := sT_sideOfEnd Rw (wOf sl wv) i (rAt (Rw 10) j) (rAt (Rw 11) j) 0) (As := [.int i, .int (rAt (Rw 10) j), .int (rAt (Rw 11) j), .int 0]) (rest := []) ⟨hx, hb, hml, hown, ht⟩ (cT_sideOfEnd l g ad q cp f Rw sl cnt h st LW wv hz hsl i (rAt (Rw 10) j) (rAt (Rw 11) j) 0) (cwV 4 ht (g_V q_329 q_331 q_4 q_33 q_332) rfl rfl rfl hd_T_sideOfEnd ⟨Nat.le_of_ble_eq_true rfl, Nat.le_of_ble_eq_true rfl⟩) hK (hP) (va_recv hK.1 hP (ci := 4) (q0 := 0) rfl rfl) rfl hl.1 rfl (Nat.le_of_ble_eq_true rfl) dT_whereLies_21 ⟨by show 0 ≤ 0; omega, by show 0 ≤ 0; omega⟩ ?_
  refine lv_aload_n hx hb dT_whereLies_24 rfl (lv_at hl 1 rfl) ?_
  refine lv_iload_n hx hb dT_whereLies_25 rfl (lv_at hl 2 rfl) ?_
  refine lv_iload_n hx hb dT_whereLies_26 rfl (lv_at hl 0 rfl) ?_
  refine lv_aload_n hx hb dT_whereLies_27 rfl (lv_at hl 1 rfl) ?_
  refine va_get (D := g.1) (ci := 4) (v := .ref (ad 4)) (C := "NodeMaker$Tree") (T := Fd_T) (N := 13) hx hb ht i_T hown hK.1 hP 0 rfl rfl 9 (by decide) (ht _ q_112) (fun _ h9 => h9) rfl dT_whereLies_28 ?_
  refine lv_iload_n hx hb dT_whereLies_31 rfl (lv_at hl 3 rfl) ?_
  have hPc := hP.sub (ws' := (piW g (ad 4) (fun k => ad (16 + k)) (fun k => q (10 + k)) (fun k => cp (10 + k)) (fun k => f (10 + k)) (fun k => (Rw (10 + k)).length))) [4, 26, 27, 28, 29, 30, 31] rfl
  refine ro_Vi (v := rAt (Rw 12) j) (As := [.int j]) (rest := [.int (rAt (Rw 10) j), .int i, .ref (ad 0), .int (sT_sideOfEnd Rw (wOf sl wv) i (rAt (Rw 10) j) (rAt (Rw 11) j) 0)]) ⟨hx, hb, hml, hown, ht⟩ (cP_lastAt l g (ad 4) (fun k => ad (16 + k)) (fun k => q (10 + k)) (fun k => cp (10 + k)) (fun k => f (10 + k)) (fun k => Rw (10 + k)) (rows_3 10 (by decide) hz) j) (cwV 1 ht (g_V q_344 q_345 q_346 q_36 q_347) rfl rfl rfl hd_P_lastAt ⟨Nat.le_of_ble_eq_true rfl, Nat.le_of_ble_eq_true rfl⟩) hK (hPc) (va_recv hK.1 hPc (ci := 1) (q0 := 0) rfl rfl) rfl hl.1 rfl (Nat.le_of_ble_eq_true rfl) dT_whereLies_32 ⟨by show 0 ≤ 0; omega, by show 0 ≤ 0; omega⟩ ?_
  refine lv_iconst (v := 1) hx hb dT_whereLies_35 (by decide) ?_
  refine ro_Vi (v := sT_sideOfEnd Rw (wOf sl wv) i (rAt (Rw 10) j) (rAt (Rw 12) j) 1) (As := [.int i, .int (rAt (Rw 10) j), .int (rAt (Rw 12) j), .int 1]) (rest := [.int (sT_sideOfEnd Rw (wOf sl wv) i (rAt (Rw 10) j) (rAt (Rw 11) j) 0)]) ⟨hx, hb, hml, hown, ht⟩ (cT_sideOfEnd l g ad q cp f Rw sl cnt h st LW wv hz hsl i (rAt (Rw 10) j) (rAt (Rw 12) j) 1) (cwV 4 ht (g_V q_329 q_331 q_4 q_33 q_332) rfl rfl rfl hd_T_sideOfEnd ⟨Nat.le_of_ble_eq_true rfl, Nat.le_of_ble_eq_true rfl⟩) hK (hP) (va_recv hK.1 hP (ci := 4) (q0 := 0) rfl rfl) rfl hl.1 rfl (Nat.le_of_ble_eq_true rfl) dT_whereLies_36 ⟨by show 0 ≤ 0; omega, by show 0 ≤ 0; omega⟩ ?_
  refine lv_ior hx hb dT_whereLies_39 ?_
  exact W.iret hx hb hr (fun t ht9 hW => ⟨_, rfl, rfl, ht9⟩) (fun q h => by cases h) dT_whereLies_40
end
section
def sT_powL (Rw : Nat → List Int32) (num : Int32) : Nat → Int32 → Int32 → Int32
  | 0, _, fo => fo
  | n + 1, i, fo => sT_powL Rw num n (i + 1) (fo + if rAt (Rw 6) i = num then 1 else 0)
def sT_piecesOfWall (Rw : Nat → List Int32) (Wl : Nat → Option WV) (num : Int32) : Int32 := sT_powL Rw num (Rw 6).length 0 0
theorem rowsT_lt {cp : Nat → Nat} {f : Nat → Nat → Int32} {Rw : Nat → List Int32} (h : rowsT cp f Rw) (k : Nat) (hk : k < 16) : (Rw k).length ≤ 4096 := Nat.le_trans (h k hk).1 (h k hk).2.2.1
set_option maxHeartbeats 4000000 in
set_option maxRecDepth 100000 in
theorem cT_piecesOfWall (l : Launch) (g : CX) (ad q cp : Nat → Nat) (f : Nat → Nat → Int32) (Rw : Nat → List Int32) (sl : Nat → Option Nat) (cnt h st : Int32) (LW : List Nat) (wv : Nat → WV) (hz : rowsT cp f Rw) (hsl : slOK sl LW) (num : Int32) : Met l yT_piecesOfWall (wm yT_piecesOfWall kT_piecesOfWall 4 (some .int)) ({ frames := 2, cells := 0, slots := 0, locals := 42 }) (ro g [.ref (ad 0), .int num] (va_P g.1 vwCl (TW g ad q cp f Rw sl cnt h st LW wv))) (vp_Si (fun r => r = sT_piecesOfWall Rw (wOf sl wv) num)) 0 0 (fun _ => False) := by
  refine Met.ofW (cc := kT_piecesOfWall) (maxL := 4) (ret := (some .int)) (by decide) rfl ?_
  intro p e s m args below meth c s₁ B hml hv
  obtain ⟨rfl, hK, hP⟩ := hv
  have hx := B.exec
  have hb := B.bytes
  have hr := B.returns
  have ht : ∀ w ∈ wT, w.before _ s = true := fun w h => atoms_spec (ws := wm yT_piecesOfWall kT_piecesOfWall 4 (some .int)) B.pre w (List.mem_cons_of_mem _ h)
  have hown : s.vm.findClass "NodeMaker$Tree" = some m.cls := findClass_of_methodNamed B.named
  have hlocks := B.notSynchronized
  have hl := lv_entry ([.ref (ad 0), .int num]) (n := 4) (Nat.le_of_ble_eq_true rfl)
  rw [lg_entry_eq]
  generalize (lg_sl ([.ref (ad 0), .int num]) ++ List.replicate (4 - (lg_sl ([.ref (ad 0), .int num])).length) Slot.unset).toArray = ls at hl ⊢
  have hl : lv_has ls 4 [(0, .ref (ad 0)), (1, .int num)] := hl
  have hlen := rowsT_lt hz 6 (by decide)
  refine lv_iconst (v := 0) hx hb dT_piecesOfWall_0 (by decide) ?_
  refine lv_istore_n (lv' := [(2, .int 0), (0, .ref (ad 0)), (1, .int num)]) hx hb dT_piecesOfWall_1 rfl hl (by decide) rfl (fun ls hl => ?_)
  refine lv_iconst (v := 0) hx hb dT_piecesOfWall_2 (by decide) ?_
  refine lv_istore_n (lv' := [(3, .int 0), (2, .int 0), (0, .ref (ad 0)), (1, .int num)]) hx hb dT_piecesOfWall_3 rfl hl (by decide) rfl (fun ls hl => ?_)
  have loop4 : ∀ (n : Nat) (k : Nat) (fo i : Int32) (ls : Array Slot), k + n = (Rw 6).length → i = nI k → sT_powL Rw num n i fo = sT_piecesOfWall Rw (wOf sl wv) num → lv_has ls 4 [(3, .int i), (2, .int fo), (0, .ref (ad 0)), (1, .int num)] → W p l e (headSpec (wm yT_piecesOfWall kT_piecesOfWall 4 (some .int)) ({ frames := 2, cells := 0, slots := 0, locals := 42 })).room s m ([.ref (ad 0), .int num] : List Value).toArray below meth c s.heap [] (0) (0) (MQ below (vp_Si (fun r => r = sT_piecesOfWall Rw (wOf sl wv) num)) ([.ref (ad 0), .int num] : List Value).toArray s 0 0 (fun _ => False)) (F0 m 4 ls []) := by
    intro n
    induction n with
    | zero =>
      intro k fo i ls hk hi hR hl
      refine lv_iload_n hx hb dT_piecesOfWall_4 rfl (lv_at hl 0 rfl) ?_
      refine lv_aload_n hx hb dT_piecesOfWall_5 rfl (lv_at hl 2 rfl) ?_
      refine va_get (D := g.1) (ci := 4) (v := .ref (ad 3)) (C := "NodeMaker$Tree") (T := Fd_T) (N := 13) hx hb ht i_T hown hK.1 hP 0 rfl rfl 7 (by decide) (ht _ q_110) (fun _ h9 => h9) rfl dT_piecesOfWall_6 ?_
      have hPc := hP.sub (ws' := (piW g (ad 3) (fun k => ad (12 + k)) (fun k => q (6 + k)) (fun k => cp (6 + k)) (fun k => f (6 + k)) (fun k => (Rw (6 + k)).length))) [3, 18, 19, 20, 21, 22, 23] rfl
      refine ro_Vi (v := nI (Rw 6).length) (As := []) (rest := [.int i]) ⟨hx, hb, hml, hown, ht⟩ (cP_count l g (ad 3) (fun k => ad (12 + k)) (fun k => q (6 + k)) (fun k => cp (6 + k)) (fun k => f (6 + k)) (fun k => Rw (6 + k)) (rows_3 6 (by decide) hz) ) (cwV 0 ht (g_V q_300 q_301 q_302 q_36 q_303) rfl rfl rfl hd_P_count ⟨Nat.le_of_ble_eq_true rfl, Nat.le_of_ble_eq_true rfl⟩) hK (hPc) (va_recv hK.1 hPc (ci := 1) (q0 := 0) rfl rfl) rfl hl.1 rfl (Nat.le_of_ble_eq_true rfl) dT_piecesOfWall_9 ⟨by show 0 ≤ 0; omega, by show 0 ≤ 0; omega⟩ ?_
      refine lv_icmp_ge (tgt := 41) hx hb dT_piecesOfWall_12 (by decide) (fun c_1 => ?_) (fun c_1 => ?_)
      · skip
        refine lv_iload_n hx hb dT_piecesOfWall_41 rfl (lv_at hl 1 rfl) ?_
        exact W.iret hx hb hr (fun t ht9 hW => ⟨_, rfl, hR, ht9⟩) (fun q h => by cases h) dT_piecesOfWall_42
      · skip
        exact absurd (by rw [hi]; exact nI_le (by omega) (by omega)) c_1
    | succ n ih =>
      intro k fo i ls hk hi hR hl
      refine lv_iload_n hx hb dT_piecesOfWall_4 rfl (lv_at hl 0 rfl) ?_
      refine lv_aload_n hx hb dT_piecesOfWall_5 rfl (lv_at hl 2 rfl) ?_
      refine va_get (D := g.1) (ci := 4) (v := .ref (ad 3)) (C := "NodeMaker$Tree") (T := Fd_T) (N := 13) hx hb ht i_T hown hK.1 hP 0 rfl rfl 7 (by decide) (ht _ q_110) (fun _ h9 => h9) rfl dT_piecesOfWall_6 ?_
      have hPc := hP.sub (ws' := (piW g (ad 3) (fun k => ad (12 + k)) (fun k => q (6 + k)) (fun k => cp (6 + k)) (fun k => f (6 + k)) (fun k => (Rw (6 + k)).length))) [3, 18, 19, 20, 21, 22, 23] rfl
      refine ro_Vi (v := nI (Rw 6).length) (As := []) (rest := [.int i]) ⟨hx, hb, hml, hown, ht⟩ (cP_count l g (ad 3) (fun k => ad (12 + k)) (fun k => q (6 + k)) (fun k => cp (6 + k)) (fun k => f (6 + k)) (fun k => Rw (6 + k)) (rows_3 6 (by decide) hz) ) (cwV 0 ht (g_V q_300 q_301 q_302 q_36 q_303) rfl rfl rfl hd_P_count ⟨Nat.le_of_ble_eq_true rfl, Nat.le_of_ble_eq_true rfl⟩) hK (hPc) (va_recv hK.1 hPc (ci := 1) (q0 := 0) rfl rfl) rfl hl.1 rfl (Nat.le_of_ble_eq_true rfl) dT_piecesOfWall_9 ⟨by show 0 ≤ 0; omega, by show 0 ≤ 0; omega⟩ ?_
      refine lv_icmp_ge (tgt := 41) hx hb dT_piecesOfWall_12 (by decide) (fun c_2 => ?_) (fun c_2 => ?_)
      · skip
        exact absurd c_2 (by rw [hi]; exact nI_ge (by omega) (by omega))
      · skip
        refine lv_iload_n hx hb dT_piecesOfWall_15 rfl (lv_at hl 1 rfl) ?_
        refine lv_aload_n hx hb dT_piecesOfWall_16 rfl (lv_at hl 2 rfl) ?_
        refine va_get (D := g.1) (ci := 4) (v := .ref (ad 3)) (C := "NodeMaker$Tree") (T := Fd_T) (N := 13) hx hb ht i_T hown hK.1 hP 0 rfl rfl 7 (by decide) (ht _ q_110) (fun _ h9 => h9) rfl dT_piecesOfWall_17 ?_
        refine lv_iload_n hx hb dT_piecesOfWall_20 rfl (lv_at hl 0 rfl) ?_
        have hPc := hP.sub (ws' := (piW g (ad 3) (fun k => ad (12 + k)) (fun k => q (6 + k)) (fun k => cp (6 + k)) (fun k => f (6 + k)) (fun k => (Rw (6 + k)).length))) [3, 18, 19, 20, 21, 22, 23] rfl
        refine ro_Vi (v := rAt (Rw 6) i) (As := [.int i]) (rest := [.int fo]) ⟨hx, hb, hml, hown, ht⟩ (cP_wallAt l g (ad 3) (fun k => ad (12 + k)) (fun k => q (6 + k)) (fun k => cp (6 + k)) (fun k => f (6 + k)) (fun k => Rw (6 + k)) (rows_3 6 (by decide) hz) i) (cwV 1 ht (g_V q_313 q_314 q_315 q_36 q_316) rfl rfl rfl hd_P_wallAt ⟨Nat.le_of_ble_eq_true rfl, Nat.le_of_ble_eq_true rfl⟩) hK (hPc) (va_recv hK.1 hPc (ci := 1) (q0 := 0) rfl rfl) rfl hl.1 rfl (Nat.le_of_ble_eq_true rfl) dT_piecesOfWall_21 ⟨by show 0 ≤ 0; omega, by show 0 ≤ 0; omega⟩ ?_
        refine lv_iload_n hx hb dT_piecesOfWall_24 rfl (lv_at hl 3 rfl) ?_
        refine lv_icmp_ne (tgt := 32) hx hb dT_piecesOfWall_25 (by decide) (fun c_3 => ?_) (fun c_3 => ?_)
        · skip
          refine lv_iconst (v := 0) hx hb dT_piecesOfWall_32 (by decide) ?_
          refine lv_iadd hx hb dT_piecesOfWall_33 ?_
          refine lv_istore_n (lv' := [(2, .int (fo + 0)), (3, .int i), (0, .ref (ad 0)), (1, .int num)]) hx hb dT_piecesOfWall_34 rfl hl (by decide) rfl (fun ls hl => ?_)
          refine lv_iinc (v := i + 1) (lv' := [(3, .int (i + 1)), (2, .int (fo + 0)), (0, .ref (ad 0)), (1, .int num)]) hx hb dT_piecesOfWall_35 hl (k := 1) rfl rfl (by decide) rfl (fun ls hl => ?_)
          refine lv_goto (tgt := 4) hx hb dT_piecesOfWall_38 (by decide) ?_
          exact ih (k + 1) (fo + 0) (i + 1) ls (by omega) (by rw [hi]; exact nI_1 k) (by rw [← hR, sT_powL, if_neg c_3]) (lv_sub hl [0, 1, 2, 3] rfl)
        · skip
          refine lv_iconst (v := 1) hx hb dT_piecesOfWall_28 (by decide) ?_
          refine lv_goto (tgt := 33) hx hb dT_piecesOfWall_29 (by decide) ?_
          refine lv_iadd hx hb dT_piecesOfWall_33 ?_
          refine lv_istore_n (lv' := [(2, .int (fo + 1)), (3, .int i), (0, .ref (ad 0)), (1, .int num)]) hx hb dT_piecesOfWall_34 rfl hl (by decide) rfl (fun ls hl => ?_)
          refine lv_iinc (v := i + 1) (lv' := [(3, .int (i + 1)), (2, .int (fo + 1)), (0, .ref (ad 0)), (1, .int num)]) hx hb dT_piecesOfWall_35 hl (k := 1) rfl rfl (by decide) rfl (fun ls hl => ?_)
          refine lv_goto (tgt := 4) hx hb dT_piecesOfWall_38 (by decide) ?_
          exact ih (k + 1) (fo + 1) (i + 1) ls (by omega) (by rw [hi]; exact nI_1 k) (by rw [← hR, sT_powL, if_pos c_3]) (lv_sub hl [0, 1, 2, 3] rfl)
  exact loop4 (Rw 6).length 0 0 0 ls (by omega) rfl rfl (lv_sub hl [0, 1, 2, 3] rfl)
def sGcdL : Nat → Int64 → Int64 → Int64
  | 0, a, _ => a
  | n + 1, a, b => if b = 0 then a else sGcdL n b (a - a / b * b)
def sT_commonDivisor (x y : Int64) : Int64 := sGcdL 128 x y
set_option maxHeartbeats 4000000 in
set_option maxRecDepth 100000 in
theorem cT_commonDivisor (l : Launch) (g : CX) (x : Int64) (y : Int64) : Met l yT_commonDivisor (wm yT_commonDivisor kT_commonDivisor 11 (some .long)) ({ frames := 0, cells := 0, slots := 0, locals := 0 }) (ro g [.long x, .long y] (fun _ => True)) (vp_Sl (fun r => r = sT_commonDivisor x y)) 0 0 (fun _ => False) := by
  refine Met.ofW (cc := kT_commonDivisor) (maxL := 11) (ret := (some .long)) (by decide) rfl ?_
  intro p e s m args below meth c s₁ B hml hv
  obtain ⟨rfl, hK, hP⟩ := hv
  have hx := B.exec
  have hb := B.bytes
  have hr := B.returns
  have ht : ∀ w ∈ wT, w.before _ s = true := fun w h => atoms_spec (ws := wm yT_commonDivisor kT_commonDivisor 11 (some .long)) B.pre w (List.mem_cons_of_mem _ h)
  have hown : s.vm.findClass "NodeMaker$Tree" = some m.cls := findClass_of_methodNamed B.named
  have hlocks := B.notSynchronized
  have hl := lv_entry ([.long x, .long y]) (n := 11) (Nat.le_of_ble_eq_true rfl)
  rw [lg_entry_eq]
  generalize (lg_sl ([.long x, .long y]) ++ List.replicate (11 - (lg_sl ([.long x, .long y])).length) Slot.unset).toArray = ls at hl ⊢
  have hl : lv_has ls 11 [(0, .long x), (2, .long y)] := hl
  refine lv_lload_n hx hb dT_commonDivisor_0 rfl (lv_at hl 0 rfl) ?_
  refine lv_lstore (lv' := [(4, .long x), (0, .long x), (2, .long y)]) hx hb dT_commonDivisor_1 hl (by decide) rfl (fun ls hl => ?_)
  refine lv_lload_n hx hb dT_commonDivisor_3 rfl (lv_at hl 2 rfl) ?_
  refine lv_lstore (lv' := [(6, .long y), (4, .long x), (0, .long x), (2, .long y)]) hx hb dT_commonDivisor_4 hl (by decide) rfl (fun ls hl => ?_)
  refine lv_iconst (v := 0) hx hb dT_commonDivisor_6 (by decide) ?_
  refine lv_istore (lv' := [(8, .int 0), (6, .long y), (4, .long x), (0, .long x), (2, .long y)]) hx hb dT_commonDivisor_7 hl (by decide) rfl (fun ls hl => ?_)
  have loop9 : ∀ (n : Nat) (k : Nat) (a b : Int64) (i : Int32) (ls : Array Slot), k + n = 128 → i = nI k → sGcdL n a b = sT_commonDivisor x y → lv_has ls 11 [(8, .int i), (6, .long b), (4, .long a)] → W p l e (headSpec (wm yT_commonDivisor kT_commonDivisor 11 (some .long)) ({ frames := 0, cells := 0, slots := 0, locals := 0 })).room s m ([.long x, .long y] : List Value).toArray below meth c s.heap [] (0) (0) (MQ below (vp_Sl (fun r => r = sT_commonDivisor x y)) ([.long x, .long y] : List Value).toArray s 0 0 (fun _ => False)) (F0 m 9 ls []) := by
    intro n
    induction n with
    | zero =>
      intro k a b i ls hk hi hR hl
      refine lv_iload hx hb dT_commonDivisor_9 (lv_at hl 0 rfl) ?_
      refine lv_sipush (v := 128) hx hb dT_commonDivisor_11 (by decide) ?_
      refine lv_icmp_ge (tgt := 45) hx hb dT_commonDivisor_14 (by decide) (fun c_4 => ?_) (fun c_4 => ?_)
      · skip
        refine lv_lload hx hb dT_commonDivisor_45 (lv_at hl 2 rfl) ?_
        exact W.lret hx hb hr (fun t ht9 hW => ⟨_, rfl, hR, ht9⟩) (fun q h => by cases h) dT_commonDivisor_47
      · skip
        exact absurd (by rw [hi]; exact nI_le (a := 128) (by omega) (by omega)) c_4
    | succ n ih =>
      intro k a b i ls hk hi hR hl
      refine lv_iload hx hb dT_commonDivisor_9 (lv_at hl 0 rfl) ?_
      refine lv_sipush (v := 128) hx hb dT_commonDivisor_11 (by decide) ?_
      refine lv_icmp_ge (tgt := 45) hx hb dT_commonDivisor_14 (by decide) (fun c_5 => ?_) (fun c_5 => ?_)
      · skip
        exact absurd c_5 (by rw [hi]; exact nI_ge (b := 128) (by omega) (by omega))
      · skip
        refine lv_lload hx hb dT_commonDivisor_17 (lv_at hl 1 rfl) ?_
        refine lv_lconst (v := 0) hx hb dT_commonDivisor_19 (by decide) ?_
        refine W.lcmp hx hb dT_commonDivisor_20 ?_
        refine lv_if_eq (tgt := 45) hx hb dT_commonDivisor_21 (by decide) (fun c_6 => ?_) (fun c_6 => ?_)
        · skip
          rw [lg_cmp_eq] at c_6
          refine lv_lload hx hb dT_commonDivisor_45 (lv_at hl 2 rfl) ?_
          exact W.lret hx hb hr (fun t ht9 hW => ⟨_, rfl, by rw [← hR, sGcdL, if_pos c_6], ht9⟩) (fun q h => by cases h) dT_commonDivisor_47
        · skip
          rw [lg_cmp_eq] at c_6
          refine lv_lload hx hb dT_commonDivisor_24 (lv_at hl 2 rfl) ?_
          refine lv_lload hx hb dT_commonDivisor_26 (lv_at hl 1 rfl) ?_
          refine lv_lrem hx hb dT_commonDivisor_28 (c_6) ?_
          refine lv_lstore (lv' := [(9, .long (a - a / b * b)), (8, .int i), (6, .long b), (4, .long a)]) hx hb dT_commonDivisor_29 hl (by decide) rfl (fun ls hl => ?_)
          refine lv_lload hx hb dT_commonDivisor_31 (lv_at hl 2 rfl) ?_
          refine lv_lstore (lv' := [(4, .long b), (9, .long (a - a / b * b)), (8, .int i), (6, .long b)]) hx hb dT_commonDivisor_33 hl (by decide) rfl (fun ls hl => ?_)
          refine lv_lload hx hb dT_commonDivisor_35 (lv_at hl 1 rfl) ?_
          refine lv_lstore (lv' := [(6, .long (a - a / b * b)), (4, .long b), (9, .long (a - a / b * b)), (8, .int i)]) hx hb dT_commonDivisor_37 hl (by decide) rfl (fun ls hl => ?_)
          refine lv_iinc (v := i + 1) (lv' := [(8, .int (i + 1)), (6, .long (a - a / b * b)), (4, .long b), (9, .long (a - a / b * b))]) hx hb dT_commonDivisor_39 hl (k := 3) rfl rfl (by decide) rfl (fun ls hl => ?_)
          refine lv_goto (tgt := 9) hx hb dT_commonDivisor_42 (by decide) ?_
          exact ih (k + 1) b (a - a / b * b) (i + 1) ls (by omega) (by rw [hi]; exact nI_1 k) (by rw [← hR, sGcdL, if_neg c_6]) (lv_sub hl [0, 1, 2] rfl)
  exact loop9 128 0 x y 0 ls (by omega) rfl rfl (lv_sub hl [0, 1, 2] rfl)
def sLeafL (Rw : Nat → List Int32) (Wl : Nat → Option WV) (x y : Int32) : Nat → Int32 → Int32 → Int32
  | 0, b, _ => b
  | n + 1, b, k => if sT_hasNode Rw Wl k = 0 then b else if sT_liesLeft Rw Wl k x y = 0 then sLeafL Rw Wl x y n (b + (sT_nodesIn Rw Wl (rAt (Rw 1) k) + 1)) (rAt (Rw 2) k) else sLeafL Rw Wl x y n b (rAt (Rw 1) k)
def sT_leafAround (Rw : Nat → List Int32) (Wl : Nat → Option WV) (x y : Int32) : Int32 := sLeafL Rw Wl x y 64 0 0
set_option maxHeartbeats 4000000 in
set_option maxRecDepth 100000 in
theorem cT_leafAround (l : Launch) (g : CX) (ad q cp : Nat → Nat) (f : Nat → Nat → Int32) (Rw : Nat → List Int32) (sl : Nat → Option Nat) (cnt h st : Int32) (LW : List Nat) (wv : Nat → WV) (hz : rowsT cp f Rw) (hsl : slOK sl LW) (x : Int32) (y : Int32) : Met l yT_leafAround (wm yT_leafAround kT_leafAround 7 (some .int)) ({ frames := 3, cells := 0, slots := 0, locals := 62 }) (ro g [.ref (ad 0), .int x, .int y] (va_P g.1 vwCl (TW g ad q cp f Rw sl cnt h st LW wv))) (vp_Si (fun r => r = sT_leafAround Rw (wOf sl wv) x y)) 0 0 (fun _ => False) := by
  refine Met.ofW (cc := kT_leafAround) (maxL := 7) (ret := (some .int)) (by decide) rfl ?_
  intro p e s m args below meth c s₁ B hml hv
  obtain ⟨rfl, hK, hP⟩ := hv
  have hx := B.exec
  have hb := B.bytes
  have hr := B.returns
  have ht : ∀ w ∈ wT, w.before _ s = true := fun w h => atoms_spec (ws := wm yT_leafAround kT_leafAround 7 (some .int)) B.pre w (List.mem_cons_of_mem _ h)
  have hown : s.vm.findClass "NodeMaker$Tree" = some m.cls := findClass_of_methodNamed B.named
  have hlocks := B.notSynchronized
  have hl := lv_entry ([.ref (ad 0), .int x, .int y]) (n := 7) (Nat.le_of_ble_eq_true rfl)
  rw [lg_entry_eq]
  generalize (lg_sl ([.ref (ad 0), .int x, .int y]) ++ List.replicate (7 - (lg_sl ([.ref (ad 0), .int x, .int y])).length) Slot.unset).toArray = ls at hl ⊢
  have hl : lv_has ls 7 [(0, .ref (ad 0)), (1, .int x), (2, .int y)] := hl
  refine lv_iconst (v := 0) hx hb dT_leafAround_0 (by decide) ?_
  refine lv_istore_n (lv' := [(3, .int 0), (0, .ref (ad 0)), (1, .int x), (2, .int y)]) hx hb dT_leafAround_1 rfl hl (by decide) rfl (fun ls hl => ?_)
  refine lv_iconst (v := 0) hx hb dT_leafAround_2 (by decide) ?_
  refine lv_istore (lv' := [(4, .int 0), (3, .int 0), (0, .ref (ad 0)), (1, .int x), (2, .int y)]) hx hb dT_leafAround_3 hl (by decide) rfl (fun ls hl => ?_)
  refine lv_iconst (v := 0) hx hb dT_leafAround_5 (by decide) ?_
  refine lv_istore (lv' := [(5, .int 0), (4, .int 0), (3, .int 0), (0, .ref (ad 0)), (1, .int x), (2, .int y)]) hx hb dT_leafAround_6 hl (by decide) rfl (fun ls hl => ?_)
  have loop8 : ∀ (n : Nat) (j : Nat) (b k d : Int32) (ls : Array Slot), j + n = 64 → d = nI j → sLeafL Rw (wOf sl wv) x y n b k = sT_leafAround Rw (wOf sl wv) x y → lv_has ls 7 [(5, .int d), (4, .int k), (3, .int b), (0, .ref (ad 0)), (1, .int x), (2, .int y)] → W p l e (headSpec (wm yT_leafAround kT_leafAround 7 (some .int)) ({ frames := 3, cells := 0, slots := 0, locals := 62 })).room s m ([.ref (ad 0), .int x, .int y] : List Value).toArray below meth c s.heap [] (0) (0) (MQ below (vp_Si (fun r => r = sT_leafAround Rw (wOf sl wv) x y)) ([.ref (ad 0), .int x, .int y] : List Value).toArray s 0 0 (fun _ => False)) (F0 m 8 ls []) := by
    intro n
    induction n with
    | zero =>
      intro j b k d ls hk hi hR hl
      refine lv_iload hx hb dT_leafAround_8 (lv_at hl 0 rfl) ?_
      refine lv_bipush (v := 64) hx hb dT_leafAround_10 (by decide) ?_
      refine lv_icmp_ge (tgt := 81) hx hb dT_leafAround_12 (by decide) (fun c_7 => ?_) (fun c_7 => ?_)
      · skip
        refine lv_iload_n hx hb dT_leafAround_81 rfl (lv_at hl 2 rfl) ?_
        exact W.iret hx hb hr (fun t ht9 hW => ⟨_, rfl, hR, ht9⟩) (fun q h => by cases h) dT_leafAround_82
      · skip
        exact absurd (by rw [hi]; exact nI_le (a := 64) (by omega) (by omega)) c_7
    | succ n ih =>
      intro j b k d ls hk hi hR hl
      refine lv_iload hx hb dT_leafAround_8 (lv_at hl 0 rfl) ?_
      refine lv_bipush (v := 64) hx hb dT_leafAround_10 (by decide) ?_
      refine lv_icmp_ge (tgt := 81) hx hb dT_leafAround_12 (by decide) (fun c_8 => ?_) (fun c_8 => ?_)
      · skip
        exact absurd c_8 (by rw [hi]; exact nI_ge (b := 64) (by omega) (by omega))
      · skip
        refine lv_aload_n hx hb dT_leafAround_15 rfl (lv_at hl 3 rfl) ?_
        refine lv_iload hx hb dT_leafAround_16 (lv_at hl 1 rfl) ?_
        refine ro_Vi (v := sT_hasNode Rw (wOf sl wv) k) (As := [.int k]) (rest := []) ⟨hx, hb, hml, hown, ht⟩ (cT_hasNode l g ad q cp f Rw sl cnt h st LW wv hz hsl k) (cwV 1 ht (g_V q_387 q_367 q_368 q_33 q_369) rfl rfl rfl hd_T_hasNode ⟨Nat.le_of_ble_eq_true rfl, Nat.le_of_ble_eq_true rfl⟩) hK (hP) (va_recv hK.1 hP (ci := 4) (q0 := 0) rfl rfl) rfl hl.1 rfl (Nat.le_of_ble_eq_true rfl) dT_leafAround_18 ⟨by show 0 ≤ 0; omega, by show 0 ≤ 0; omega⟩ ?_
        refine lv_if_eq (tgt := 81) hx hb dT_leafAround_21 (by decide) (fun c_9 => ?_) (fun c_9 => ?_)
        · skip
          refine lv_iload_n hx hb dT_leafAround_81 rfl (lv_at hl 2 rfl) ?_
          exact W.iret hx hb hr (fun t ht9 hW => ⟨_, rfl, by rw [← hR, sLeafL, if_pos c_9], ht9⟩) (fun q h => by cases h) dT_leafAround_82
        · skip
          refine lv_aload_n hx hb dT_leafAround_24 rfl (lv_at hl 3 rfl) ?_
          refine va_get (D := g.1) (ci := 4) (v := .ref (ad 7)) (C := "NodeMaker$Tree") (T := Fd_T) (N := 13) hx hb ht i_T hown hK.1 hP 0 rfl rfl 2 (by decide) (ht _ q_105) (fun _ h9 => h9) rfl dT_leafAround_25 ?_
          refine lv_iload hx hb dT_leafAround_28 (lv_at hl 1 rfl) ?_
          have hPc := hP.sub (ws' := rowW g (ad 7) (q 1) (cp 1) (f 1) (Rw 1).length) [8, 9] rfl
          refine ro_Vi (v := rAt (Rw 1) k) (As := [.int k]) (rest := []) ⟨hx, hb, hml, hown, ht⟩ (cR_at l g (ad 7) (q 1) (cp 1) (f 1) (Rw 1) (hz 1 (by decide)) k) (cwV 1 ht (g_V q_374 q_318 q_319 q_35 q_320) rfl rfl rfl hd_R_at ⟨Nat.le_of_ble_eq_true rfl, Nat.le_of_ble_eq_true rfl⟩) hK (hPc) (va_recv hK.1 hPc (ci := 0) (q0 := 0) rfl rfl) rfl hl.1 rfl (Nat.le_of_ble_eq_true rfl) dT_leafAround_30 ⟨by show 0 ≤ 0; omega, by show 0 ≤ 0; omega⟩ ?_
          refine lv_istore (lv' := [(6, .int (rAt (Rw 1) k)), (5, .int d), (4, .int k), (3, .int b), (0, .ref (ad 0)), (1, .int x), (2, .int y)]) hx hb dT_leafAround_33 hl (by decide) rfl (fun ls hl => ?_)
          refine lv_aload_n hx hb dT_leafAround_35 rfl (lv_at hl 4 rfl) ?_
          refine lv_iload hx hb dT_leafAround_36 (lv_at hl 2 rfl) ?_
          refine lv_iload_n hx hb dT_leafAround_38 rfl (lv_at hl 5 rfl) ?_
          refine lv_iload_n hx hb dT_leafAround_39 rfl (lv_at hl 6 rfl) ?_
          refine ro_Vi (v := sT_liesLeft Rw (wOf sl wv) k x y) (As := [.int k, .int x, .int y]) (rest := []) ⟨hx, hb, hml, hown, ht⟩ (cT_liesLeft l g ad q cp f Rw sl cnt h st LW wv hz hsl k x y) (cwV 3 ht (g_V q_434 q_436 q_7 q_33 q_437) rfl rfl rfl hd_T_liesLeft ⟨Nat.le_of_ble_eq_true rfl, Nat.le_of_ble_eq_true rfl⟩) hK (hP) (va_recv hK.1 hP (ci := 4) (q0 := 0) rfl rfl) rfl hl.1 rfl (Nat.le_of_ble_eq_true rfl) dT_leafAround_40 ⟨by show 0 ≤ 0; omega, by show 0 ≤ 0; omega⟩ ?_
          refine lv_if_eq (tgt := 53) hx hb dT_leafAround_43 (by decide) (fun c_10 => ?_) (fun c_10 => ?_)
          · skip
            refine lv_iload_n hx hb dT_leafAround_53 rfl (lv_at hl 3 rfl) ?_
            refine lv_aload_n hx hb dT_leafAround_54 rfl (lv_at hl 4 rfl) ?_
            refine lv_iload hx hb dT_leafAround_55 (lv_at hl 0 rfl) ?_
            refine ro_Vi (v := sT_nodesIn Rw (wOf sl wv) (rAt (Rw 1) k)) (As := [.int (rAt (Rw 1) k)]) (rest := [.int b]) ⟨hx, hb, hml, hown, ht⟩ (cT_nodesIn l g ad q cp f Rw sl cnt h st LW wv hz hsl (rAt (Rw 1) k)) (cwV 1 ht (g_V q_438 q_393 q_394 q_33 q_395) rfl rfl rfl hd_T_nodesIn ⟨Nat.le_of_ble_eq_true rfl, Nat.le_of_ble_eq_true rfl⟩) hK (hP) (va_recv hK.1 hP (ci := 4) (q0 := 0) rfl rfl) rfl hl.1 rfl (Nat.le_of_ble_eq_true rfl) dT_leafAround_57 ⟨by show 0 ≤ 0; omega, by show 0 ≤ 0; omega⟩ ?_
            refine lv_iconst (v := 1) hx hb dT_leafAround_60 (by decide) ?_
            refine lv_iadd hx hb dT_leafAround_61 ?_
            refine lv_iadd hx hb dT_leafAround_62 ?_
            refine lv_istore_n (lv' := [(3, .int (b + ((sT_nodesIn Rw (wOf sl wv) (rAt (Rw 1) k)) + 1))), (6, .int (rAt (Rw 1) k)), (5, .int d), (4, .int k), (0, .ref (ad 0)), (1, .int x), (2, .int y)]) hx hb dT_leafAround_63 rfl hl (by decide) rfl (fun ls hl => ?_)
            refine lv_aload_n hx hb dT_leafAround_64 rfl (lv_at hl 4 rfl) ?_
            refine va_get (D := g.1) (ci := 4) (v := .ref (ad 8)) (C := "NodeMaker$Tree") (T := Fd_T) (N := 13) hx hb ht i_T hown hK.1 hP 0 rfl rfl 3 (by decide) (ht _ q_106) (fun _ h9 => h9) rfl dT_leafAround_65 ?_
            refine lv_iload hx hb dT_leafAround_68 (lv_at hl 3 rfl) ?_
            have hPc := hP.sub (ws' := rowW g (ad 8) (q 2) (cp 2) (f 2) (Rw 2).length) [10, 11] rfl
            refine ro_Vi (v := rAt (Rw 2) k) (As := [.int k]) (rest := []) ⟨hx, hb, hml, hown, ht⟩ (cR_at l g (ad 8) (q 2) (cp 2) (f 2) (Rw 2) (hz 2 (by decide)) k) (cwV 1 ht (g_V q_374 q_318 q_319 q_35 q_320) rfl rfl rfl hd_R_at ⟨Nat.le_of_ble_eq_true rfl, Nat.le_of_ble_eq_true rfl⟩) hK (hPc) (va_recv hK.1 hPc (ci := 0) (q0 := 0) rfl rfl) rfl hl.1 rfl (Nat.le_of_ble_eq_true rfl) dT_leafAround_70 ⟨by show 0 ≤ 0; omega, by show 0 ≤ 0; omega⟩ ?_
            refine lv_istore (lv' := [(4, .int (rAt (Rw 2) k)), (3, .int (b + ((sT_nodesIn Rw (wOf sl wv) (rAt (Rw 1) k)) + 1))), (6, .int (rAt (Rw 1) k)), (5, .int d), (0, .ref (ad 0)), (1, .int x), (2, .int y)]) hx hb dT_leafAround_73 hl (by decide) rfl (fun ls hl => ?_)
            refine lv_iinc (v := d + 1) (lv' := [(5, .int (d + 1)), (4, .int (rAt (Rw 2) k)), (3, .int (b + ((sT_nodesIn Rw (wOf sl wv) (rAt (Rw 1) k)) + 1))), (6, .int (rAt (Rw 1) k)), (0, .ref (ad 0)), (1, .int x), (2, .int y)]) hx hb dT_leafAround_75 hl (k := 3) rfl rfl (by decide) rfl (fun ls hl => ?_)
            refine lv_goto (tgt := 8) hx hb dT_leafAround_78 (by decide) ?_
            exact ih (j + 1) (b + ((sT_nodesIn Rw (wOf sl wv) (rAt (Rw 1) k)) + 1)) (rAt (Rw 2) k) (d + 1) ls (by omega) (by rw [hi]; exact nI_1 j) (by rw [← hR, sLeafL, if_neg c_9, if_pos c_10]) (lv_sub hl [0, 1, 2, 4, 5, 6] rfl)
          · skip
            refine lv_iload hx hb dT_leafAround_46 (lv_at hl 0 rfl) ?_
            refine lv_istore (lv' := [(4, .int (rAt (Rw 1) k)), (6, .int (rAt (Rw 1) k)), (5, .int d), (3, .int b), (0, .ref (ad 0)), (1, .int x), (2, .int y)]) hx hb dT_leafAround_48 hl (by decide) rfl (fun ls hl => ?_)
            refine lv_goto (tgt := 75) hx hb dT_leafAround_50 (by decide) ?_
            refine lv_iinc (v := d + 1) (lv' := [(5, .int (d + 1)), (4, .int (rAt (Rw 1) k)), (6, .int (rAt (Rw 1) k)), (3, .int b), (0, .ref (ad 0)), (1, .int x), (2, .int y)]) hx hb dT_leafAround_75 hl (k := 2) rfl rfl (by decide) rfl (fun ls hl => ?_)
            refine lv_goto (tgt := 8) hx hb dT_leafAround_78 (by decide) ?_
            exact ih (j + 1) b (rAt (Rw 1) k) (d + 1) ls (by omega) (by rw [hi]; exact nI_1 j) (by rw [← hR, sLeafL, if_neg c_9, if_neg c_10]) (lv_sub hl [0, 1, 3, 4, 5, 6] rfl)
  exact loop8 64 0 0 0 0 ls (by omega) rfl rfl (lv_sub hl [0, 1, 2, 3, 4, 5] rfl)
def sBlIn (Rw : Nat → List Int32) (Wl : Nat → Option WV) (ln : Int32) : Nat → Int32 → Int32 → Int32 → Int32 × Int32
  | 0, _, c, b => (c, b)
  | n + 1, j, c, b => sBlIn Rw Wl ln n (j + 1) (c + if sT_whereLies Rw Wl ln j = 3 then 1 else 0) ((b + if sT_whereLies Rw Wl ln j &&& 1 = 0 then 0 else 1) - if sT_whereLies Rw Wl ln j &&& 2 = 0 then 0 else 1)
/-- 4 times the cuts, and the difference of the sides -/
def sBlP (p : Int32 × Int32) : Int32 := 4 * p.1 + if 0 ≤ p.2 then p.2 else 0 - p.2
def sBlOut (Rw : Nat → List Int32) (Wl : Nat → Option WV) (fr : Nat) : Nat → Int32 → Int32 → Int32 → Int32
  | 0, _, be, _ => be
  | n + 1, i, be, le => if be = -1 then sBlOut Rw Wl fr n (i + 1) (rAt (Rw 10) i) (sBlP (sBlIn Rw Wl (rAt (Rw 10) i) ((Rw 10).length - fr) (nI fr) 0 0)) else if le ≤ sBlP (sBlIn Rw Wl (rAt (Rw 10) i) ((Rw 10).length - fr) (nI fr) 0 0) then sBlOut Rw Wl fr n (i + 1) be le else sBlOut Rw Wl fr n (i + 1) (rAt (Rw 10) i) (sBlP (sBlIn Rw Wl (rAt (Rw 10) i) ((Rw 10).length - fr) (nI fr) 0 0))
def sT_bestLine (Rw : Nat → List Int32) (Wl : Nat → Option WV) (fr : Nat) : Int32 := sBlOut Rw Wl fr (min 16 ((Rw 10).length - fr)) (nI fr) (-1) 0
set_option maxHeartbeats 4000000 in
set_option maxRecDepth 100000 in
theorem cT_bestLine (l : Launch) (g : CX) (ad q cp : Nat → Nat) (f : Nat → Nat → Int32) (Rw : Nat → List Int32) (sl : Nat → Option Nat) (cnt h st : Int32) (LW : List Nat) (wv : Nat → WV) (hz : rowsT cp f Rw) (hsl : slOK sl LW) (fr : Nat) (hfr : fr ≤ (Rw 10).length) : Met l yT_bestLine (wm yT_bestLine kT_bestLine 11 (some .int)) ({ frames := 4, cells := 0, slots := 0, locals := 111 }) (ro g [.ref (ad 0), .int (nI fr)] (va_P g.1 vwCl (TW g ad q cp f Rw sl cnt h st LW wv))) (vp_Si (fun r => r = sT_bestLine Rw (wOf sl wv) fr)) 0 0 (fun _ => False) := by
  refine Met.ofW (cc := kT_bestLine) (maxL := 11) (ret := (some .int)) (by decide) rfl ?_
  intro p e s m args below meth c s₁ B hml hv
  obtain ⟨rfl, hK, hP⟩ := hv
  have hx := B.exec
  have hb := B.bytes
  have hr := B.returns
  have ht : ∀ w ∈ wT, w.before _ s = true := fun w h => atoms_spec (ws := wm yT_bestLine kT_bestLine 11 (some .int)) B.pre w (List.mem_cons_of_mem _ h)
  have hown : s.vm.findClass "NodeMaker$Tree" = some m.cls := findClass_of_methodNamed B.named
  have hlocks := B.notSynchronized
  have hl := lv_entry ([.ref (ad 0), .int (nI fr)]) (n := 11) (Nat.le_of_ble_eq_true rfl)
  rw [lg_entry_eq]
  generalize (lg_sl ([.ref (ad 0), .int (nI fr)]) ++ List.replicate (11 - (lg_sl ([.ref (ad 0), .int (nI fr)])).length) Slot.unset).toArray = ls at hl ⊢
  have hl : lv_has ls 11 [(0, .ref (ad 0)), (1, .int (nI fr))] := hl
  have hlen := rowsT_lt hz 10 (by decide)
  refine lv_aload_n hx hb dT_bestLine_0 rfl (lv_at hl 0 rfl) ?_
  refine va_get (D := g.1) (ci := 4) (v := .ref (ad 4)) (C := "NodeMaker$Tree") (T := Fd_T) (N := 13) hx hb ht i_T hown hK.1 hP 0 rfl rfl 9 (by decide) (ht _ q_112) (fun _ h9 => h9) rfl dT_bestLine_1 ?_
  have hPc := hP.sub (ws' := (piW g (ad 4) (fun k => ad (16 + k)) (fun k => q (10 + k)) (fun k => cp (10 + k)) (fun k => f (10 + k)) (fun k => (Rw (10 + k)).length))) [4, 26, 27, 28, 29, 30, 31] rfl
  refine ro_Vi (v := nI (Rw 10).length) (As := []) (rest := []) ⟨hx, hb, hml, hown, ht⟩ (cP_count l g (ad 4) (fun k => ad (16 + k)) (fun k => q (10 + k)) (fun k => cp (10 + k)) (fun k => f (10 + k)) (fun k => Rw (10 + k)) (rows_3 10 (by decide) hz) ) (cwV 0 ht (g_V q_300 q_301 q_302 q_36 q_303) rfl rfl rfl hd_P_count ⟨Nat.le_of_ble_eq_true rfl, Nat.le_of_ble_eq_true rfl⟩) hK (hPc) (va_recv hK.1 hPc (ci := 1) (q0 := 0) rfl rfl) rfl hl.1 rfl (Nat.le_of_ble_eq_true rfl) dT_bestLine_4 ⟨by show 0 ≤ 0; omega, by show 0 ≤ 0; omega⟩ ?_
  refine lv_istore_n (lv' := [(2, .int (nI (Rw 10).length)), (0, .ref (ad 0)), (1, .int (nI fr))]) hx hb dT_bestLine_7 rfl hl (by decide) rfl (fun ls hl => ?_)
  refine lv_iconst (v := -1) hx hb dT_bestLine_8 (by decide) ?_
  refine lv_istore_n (lv' := [(3, .int (-1)), (2, .int (nI (Rw 10).length)), (0, .ref (ad 0)), (1, .int (nI fr))]) hx hb dT_bestLine_9 rfl hl (by decide) rfl (fun ls hl => ?_)
  refine lv_iconst (v := 0) hx hb dT_bestLine_10 (by decide) ?_
  refine lv_istore (lv' := [(4, .int 0), (3, .int (-1)), (2, .int (nI (Rw 10).length)), (0, .ref (ad 0)), (1, .int (nI fr))]) hx hb dT_bestLine_11 hl (by decide) rfl (fun ls hl => ?_)
  refine lv_iload_n hx hb dT_bestLine_13 rfl (lv_at hl 4 rfl) ?_
  refine lv_istore (lv' := [(5, .int (nI fr)), (4, .int 0), (3, .int (-1)), (2, .int (nI (Rw 10).length)), (0, .ref (ad 0)), (1, .int (nI fr))]) hx hb dT_bestLine_14 hl (by decide) rfl (fun ls hl => ?_)
  have loop16 : ∀ (n : Nat) (k0 : Nat) (i be le : Int32) (ls : Array Slot), fr ≤ k0 → n = min 16 ((Rw 10).length - fr) - (k0 - fr) ∧ k0 - fr ≤ min 16 ((Rw 10).length - fr) → i = nI k0 → sBlOut Rw (wOf sl wv) fr n i be le = sT_bestLine Rw (wOf sl wv) fr → lv_has ls 11 [(5, .int i), (4, .int le), (3, .int be), (2, .int (nI (Rw 10).length)), (0, .ref (ad 0)), (1, .int (nI fr))] → W p l e (headSpec (wm yT_bestLine kT_bestLine 11 (some .int)) ({ frames := 4, cells := 0, slots := 0, locals := 111 })).room s m ([.ref (ad 0), .int (nI fr)] : List Value).toArray below meth c s.heap [] (0) (0) (MQ below (vp_Si (fun r => r = sT_bestLine Rw (wOf sl wv) fr)) ([.ref (ad 0), .int (nI fr)] : List Value).toArray s 0 0 (fun _ => False)) (F0 m 16 ls []) := by
    intro n
    induction n with
    | zero =>
      intro k0 i be le ls hk0 hk hi hR hl
      refine lv_iload hx hb dT_bestLine_16 (lv_at hl 0 rfl) ?_
      refine lv_iload_n hx hb dT_bestLine_18 rfl (lv_at hl 3 rfl) ?_
      refine lv_icmp_ge (tgt := 160) hx hb dT_bestLine_19 (by decide) (fun c_11 => ?_) (fun c_11 => ?_)
      · skip
        refine lv_iload_n hx hb dT_bestLine_160 rfl (lv_at hl 2 rfl) ?_
        exact W.iret hx hb hr (fun t ht9 hW => ⟨_, rfl, hR, ht9⟩) (fun q h => by cases h) dT_bestLine_161
      · skip
        refine lv_iload hx hb dT_bestLine_22 (lv_at hl 0 rfl) ?_
        refine lv_iload_n hx hb dT_bestLine_24 rfl (lv_at hl 5 rfl) ?_
        refine lv_bipush (v := 16) hx hb dT_bestLine_25 (by decide) ?_
        refine lv_iadd hx hb dT_bestLine_27 ?_
        refine lv_icmp_ge (tgt := 160) hx hb dT_bestLine_28 (by decide) (fun c_12 => ?_) (fun c_12 => ?_)
        · skip
          refine lv_iload_n hx hb dT_bestLine_160 rfl (lv_at hl 2 rfl) ?_
          exact W.iret hx hb hr (fun t ht9 hW => ⟨_, rfl, hR, ht9⟩) (fun q h => by cases h) dT_bestLine_161
        · skip
          exact absurd (by rw [hi, show (nI fr + 16 : Int32) = nI (fr + 16) from nI_add fr 16]; exact nI_le (by have hlt : ¬ (Rw 10).length ≤ k0 := fun h => c_11 (by rw [hi]; exact nI_le h (by omega)); omega) (by omega)) c_12
    | succ n ih =>
      intro k0 i be le ls hk0 hk hi hR hl
      refine lv_iload hx hb dT_bestLine_16 (lv_at hl 0 rfl) ?_
      refine lv_iload_n hx hb dT_bestLine_18 rfl (lv_at hl 3 rfl) ?_
      refine lv_icmp_ge (tgt := 160) hx hb dT_bestLine_19 (by decide) (fun c_13 => ?_) (fun c_13 => ?_)
      · skip
        exact absurd c_13 (by rw [hi]; exact nI_ge (by omega) (by omega))
      · skip
        refine lv_iload hx hb dT_bestLine_22 (lv_at hl 0 rfl) ?_
        refine lv_iload_n hx hb dT_bestLine_24 rfl (lv_at hl 5 rfl) ?_
        refine lv_bipush (v := 16) hx hb dT_bestLine_25 (by decide) ?_
        refine lv_iadd hx hb dT_bestLine_27 ?_
        refine lv_icmp_ge (tgt := 160) hx hb dT_bestLine_28 (by decide) (fun c_14 => ?_) (fun c_14 => ?_)
        · skip
          exact absurd c_14 (by rw [hi, show (nI fr + 16 : Int32) = nI (fr + 16) from nI_add fr 16]; exact nI_ge (by omega) (by omega))
        · skip
          refine lv_aload_n hx hb dT_bestLine_31 rfl (lv_at hl 4 rfl) ?_
          refine va_get (D := g.1) (ci := 4) (v := .ref (ad 4)) (C := "NodeMaker$Tree") (T := Fd_T) (N := 13) hx hb ht i_T hown hK.1 hP 0 rfl rfl 9 (by decide) (ht _ q_112) (fun _ h9 => h9) rfl dT_bestLine_32 ?_
          refine lv_iload hx hb dT_bestLine_35 (lv_at hl 0 rfl) ?_
          have hPc := hP.sub (ws' := (piW g (ad 4) (fun k => ad (16 + k)) (fun k => q (10 + k)) (fun k => cp (10 + k)) (fun k => f (10 + k)) (fun k => (Rw (10 + k)).length))) [4, 26, 27, 28, 29, 30, 31] rfl
          refine ro_Vi (v := rAt (Rw 10) i) (As := [.int i]) (rest := []) ⟨hx, hb, hml, hown, ht⟩ (cP_wallAt l g (ad 4) (fun k => ad (16 + k)) (fun k => q (10 + k)) (fun k => cp (10 + k)) (fun k => f (10 + k)) (fun k => Rw (10 + k)) (rows_3 10 (by decide) hz) i) (cwV 1 ht (g_V q_313 q_314 q_315 q_36 q_316) rfl rfl rfl hd_P_wallAt ⟨Nat.le_of_ble_eq_true rfl, Nat.le_of_ble_eq_true rfl⟩) hK (hPc) (va_recv hK.1 hPc (ci := 1) (q0 := 0) rfl rfl) rfl hl.1 rfl (Nat.le_of_ble_eq_true rfl) dT_bestLine_37 ⟨by show 0 ≤ 0; omega, by show 0 ≤ 0; omega⟩ ?_
          refine lv_istore (lv' := [(6, .int (rAt (Rw 10) i)), (5, .int i), (4, .int le), (3, .int be), (2, .int (nI (Rw 10).length)), (0, .ref (ad 0)), (1, .int (nI fr))]) hx hb dT_bestLine_40 hl (by decide) rfl (fun ls hl => ?_)
          refine lv_iconst (v := 0) hx hb dT_bestLine_42 (by decide) ?_
          refine lv_istore (lv' := [(7, .int 0), (6, .int (rAt (Rw 10) i)), (5, .int i), (4, .int le), (3, .int be), (2, .int (nI (Rw 10).length)), (0, .ref (ad 0)), (1, .int (nI fr))]) hx hb dT_bestLine_43 hl (by decide) rfl (fun ls hl => ?_)
          refine lv_iconst (v := 0) hx hb dT_bestLine_45 (by decide) ?_
          refine lv_istore (lv' := [(8, .int 0), (7, .int 0), (6, .int (rAt (Rw 10) i)), (5, .int i), (4, .int le), (3, .int be), (2, .int (nI (Rw 10).length)), (0, .ref (ad 0)), (1, .int (nI fr))]) hx hb dT_bestLine_46 hl (by decide) rfl (fun ls hl => ?_)
          refine lv_iload_n hx hb dT_bestLine_48 rfl (lv_at hl 8 rfl) ?_
          refine lv_istore (lv' := [(9, .int (nI fr)), (8, .int 0), (7, .int 0), (6, .int (rAt (Rw 10) i)), (5, .int i), (4, .int le), (3, .int be), (2, .int (nI (Rw 10).length)), (0, .ref (ad 0)), (1, .int (nI fr))]) hx hb dT_bestLine_49 hl (by decide) rfl (fun ls hl => ?_)
          have loop51 : ∀ (n : Nat) (k : Nat) (j c9 b : Int32) (ls : Array Slot), k + n = (Rw 10).length → j = nI k → sBlIn Rw (wOf sl wv) (rAt (Rw 10) i) n j c9 b = sBlIn Rw (wOf sl wv) (rAt (Rw 10) i) ((Rw 10).length - fr) (nI fr) 0 0 → lv_has ls 11 [(9, .int j), (8, .int b), (7, .int c9), (6, .int (rAt (Rw 10) i)), (5, .int i), (4, .int le), (3, .int be), (2, .int (nI (Rw 10).length)), (0, .ref (ad 0)), (1, .int (nI fr))] → W p l e (headSpec (wm yT_bestLine kT_bestLine 11 (some .int)) ({ frames := 4, cells := 0, slots := 0, locals := 111 })).room s m ([.ref (ad 0), .int (nI fr)] : List Value).toArray below meth c s.heap [] (0) (0) (MQ below (vp_Si (fun r => r = sT_bestLine Rw (wOf sl wv) fr)) ([.ref (ad 0), .int (nI fr)] : List Value).toArray s 0 0 (fun _ => False)) (F0 m 51 ls []) := by
            intro n
            induction n with
            | zero =>
              intro k j c9 b ls hk hj hI hl
              have hI2 : sBlP (c9, b) = sBlP (sBlIn Rw (wOf sl wv) (rAt (Rw 10) i) ((Rw 10).length - fr) (nI fr) 0 0) := by rw [← hI]; rfl
              refine lv_iload hx hb dT_bestLine_51 (lv_at hl 0 rfl) ?_
              refine lv_iload_n hx hb dT_bestLine_53 rfl (lv_at hl 7 rfl) ?_
              refine lv_icmp_ge (tgt := 123) hx hb dT_bestLine_54 (by decide) (fun c_15 => ?_) (fun c_15 => ?_)
              · skip
                refine lv_iconst (v := 4) hx hb dT_bestLine_123 (by decide) ?_
                refine lv_iload hx hb dT_bestLine_124 (lv_at hl 2 rfl) ?_
                refine lv_imul hx hb dT_bestLine_126 ?_
                refine lv_iload hx hb dT_bestLine_127 (lv_at hl 1 rfl) ?_
                refine va_mabs hx hb (by rw [hml]; exact hl.1.symm) hown (ht _ q_348) (ht _ q_349) (ht _ q_39) (ht _ q_350) (Nat.le_of_ble_eq_true rfl) (Nat.le_of_ble_eq_true rfl) (by show 0 ≤ 0; omega) (by show 0 ≤ 0; omega) dT_bestLine_129 ?_
                refine lv_iadd hx hb dT_bestLine_132 ?_
                refine lv_istore (lv' := [(9, .int ((4 * c9) + (if 0 ≤ b then b else 0 - b))), (8, .int b), (7, .int c9), (6, .int (rAt (Rw 10) i)), (5, .int i), (4, .int le), (3, .int be), (2, .int (nI (Rw 10).length)), (0, .ref (ad 0)), (1, .int (nI fr))]) hx hb dT_bestLine_133 hl (by decide) rfl (fun ls hl => ?_)
                refine lv_iload_n hx hb dT_bestLine_135 rfl (lv_at hl 6 rfl) ?_
                refine lv_iconst (v := -1) hx hb dT_bestLine_136 (by decide) ?_
                refine lv_icmp_eq (tgt := 147) hx hb dT_bestLine_137 (by decide) (fun c_16 => ?_) (fun c_16 => ?_)
                · skip
                  refine lv_iload hx hb dT_bestLine_147 (lv_at hl 0 rfl) ?_
                  refine lv_istore (lv' := [(4, .int ((4 * c9) + (if 0 ≤ b then b else 0 - b))), (9, .int ((4 * c9) + (if 0 ≤ b then b else 0 - b))), (8, .int b), (7, .int c9), (6, .int (rAt (Rw 10) i)), (5, .int i), (3, .int be), (2, .int (nI (Rw 10).length)), (0, .ref (ad 0)), (1, .int (nI fr))]) hx hb dT_bestLine_149 hl (by decide) rfl (fun ls hl => ?_)
                  refine lv_iload hx hb dT_bestLine_151 (lv_at hl 4 rfl) ?_
                  refine lv_istore_n (lv' := [(3, .int (rAt (Rw 10) i)), (4, .int ((4 * c9) + (if 0 ≤ b then b else 0 - b))), (9, .int ((4 * c9) + (if 0 ≤ b then b else 0 - b))), (8, .int b), (7, .int c9), (6, .int (rAt (Rw 10) i)), (5, .int i), (2, .int (nI (Rw 10).length)), (0, .ref (ad 0)), (1, .int (nI fr))]) hx hb dT_bestLine_153 rfl hl (by decide) rfl (fun ls hl => ?_)
                  refine lv_iinc (v := i + 1) (lv' := [(5, .int (i + 1)), (3, .int (rAt (Rw 10) i)), (4, .int ((4 * c9) + (if 0 ≤ b then b else 0 - b))), (9, .int ((4 * c9) + (if 0 ≤ b then b else 0 - b))), (8, .int b), (7, .int c9), (6, .int (rAt (Rw 10) i)), (2, .int (nI (Rw 10).length)), (0, .ref (ad 0)), (1, .int (nI fr))]) hx hb dT_bestLine_154 hl (k := 6) rfl rfl (by decide) rfl (fun ls hl => ?_)
                  refine lv_goto (tgt := 16) hx hb dT_bestLine_157 (by decide) ?_
                  exact ih (k0 + 1) (i + 1) (rAt (Rw 10) i) (sBlP (sBlIn Rw (wOf sl wv) (rAt (Rw 10) i) ((Rw 10).length - fr) (nI fr) 0 0)) ls (by omega) (by omega) (by rw [hi]; exact nI_1 k0) (by rw [← hR, sBlOut, if_pos c_16]) (hI2 ▸ (lv_sub hl [0, 2, 1, 7, 8, 9] rfl))
                · skip
                  refine lv_iload hx hb dT_bestLine_140 (lv_at hl 0 rfl) ?_
                  refine lv_iload hx hb dT_bestLine_142 (lv_at hl 5 rfl) ?_
                  refine lv_icmp_ge (tgt := 154) hx hb dT_bestLine_144 (by decide) (fun c_17 => ?_) (fun c_17 => ?_)
                  · skip
                    refine lv_iinc (v := i + 1) (lv' := [(5, .int (i + 1)), (9, .int ((4 * c9) + (if 0 ≤ b then b else 0 - b))), (8, .int b), (7, .int c9), (6, .int (rAt (Rw 10) i)), (4, .int le), (3, .int be), (2, .int (nI (Rw 10).length)), (0, .ref (ad 0)), (1, .int (nI fr))]) hx hb dT_bestLine_154 hl (k := 4) rfl rfl (by decide) rfl (fun ls hl => ?_)
                    refine lv_goto (tgt := 16) hx hb dT_bestLine_157 (by decide) ?_
                    exact ih (k0 + 1) (i + 1) be le ls (by omega) (by omega) (by rw [hi]; exact nI_1 k0) (by rw [← hR, sBlOut, if_neg c_16, if_pos (hI2 ▸ c_17)]) (lv_sub hl [0, 5, 6, 7, 8, 9] rfl)
                  · skip
                    refine lv_iload hx hb dT_bestLine_147 (lv_at hl 0 rfl) ?_
                    refine lv_istore (lv' := [(4, .int ((4 * c9) + (if 0 ≤ b then b else 0 - b))), (9, .int ((4 * c9) + (if 0 ≤ b then b else 0 - b))), (8, .int b), (7, .int c9), (6, .int (rAt (Rw 10) i)), (5, .int i), (3, .int be), (2, .int (nI (Rw 10).length)), (0, .ref (ad 0)), (1, .int (nI fr))]) hx hb dT_bestLine_149 hl (by decide) rfl (fun ls hl => ?_)
                    refine lv_iload hx hb dT_bestLine_151 (lv_at hl 4 rfl) ?_
                    refine lv_istore_n (lv' := [(3, .int (rAt (Rw 10) i)), (4, .int ((4 * c9) + (if 0 ≤ b then b else 0 - b))), (9, .int ((4 * c9) + (if 0 ≤ b then b else 0 - b))), (8, .int b), (7, .int c9), (6, .int (rAt (Rw 10) i)), (5, .int i), (2, .int (nI (Rw 10).length)), (0, .ref (ad 0)), (1, .int (nI fr))]) hx hb dT_bestLine_153 rfl hl (by decide) rfl (fun ls hl => ?_)
                    refine lv_iinc (v := i + 1) (lv' := [(5, .int (i + 1)), (3, .int (rAt (Rw 10) i)), (4, .int ((4 * c9) + (if 0 ≤ b then b else 0 - b))), (9, .int ((4 * c9) + (if 0 ≤ b then b else 0 - b))), (8, .int b), (7, .int c9), (6, .int (rAt (Rw 10) i)), (2, .int (nI (Rw 10).length)), (0, .ref (ad 0)), (1, .int (nI fr))]) hx hb dT_bestLine_154 hl (k := 6) rfl rfl (by decide) rfl (fun ls hl => ?_)
                    refine lv_goto (tgt := 16) hx hb dT_bestLine_157 (by decide) ?_
                    exact ih (k0 + 1) (i + 1) (rAt (Rw 10) i) (sBlP (sBlIn Rw (wOf sl wv) (rAt (Rw 10) i) ((Rw 10).length - fr) (nI fr) 0 0)) ls (by omega) (by omega) (by rw [hi]; exact nI_1 k0) (by rw [← hR, sBlOut, if_neg c_16, if_neg (hI2 ▸ c_17)]) (hI2 ▸ (lv_sub hl [0, 2, 1, 7, 8, 9] rfl))
              · skip
                exact absurd (by rw [hj]; exact nI_le (by omega) (by omega)) c_15
            | succ n ih =>
              intro k j c9 b ls hk hj hI hl
              refine lv_iload hx hb dT_bestLine_51 (lv_at hl 0 rfl) ?_
              refine lv_iload_n hx hb dT_bestLine_53 rfl (lv_at hl 7 rfl) ?_
              refine lv_icmp_ge (tgt := 123) hx hb dT_bestLine_54 (by decide) (fun c_18 => ?_) (fun c_18 => ?_)
              · skip
                exact absurd c_18 (by rw [hj]; exact nI_ge (by omega) (by omega))
              · skip
                refine lv_aload_n hx hb dT_bestLine_57 rfl (lv_at hl 8 rfl) ?_
                refine lv_iload hx hb dT_bestLine_58 (lv_at hl 3 rfl) ?_
                refine lv_iload hx hb dT_bestLine_60 (lv_at hl 0 rfl) ?_
                refine ro_Vi (v := sT_whereLies Rw (wOf sl wv) (rAt (Rw 10) i) j) (As := [.int (rAt (Rw 10) i), .int j]) (rest := []) ⟨hx, hb, hml, hown, ht⟩ (cT_whereLies l g ad q cp f Rw sl cnt h st LW wv hz hsl (rAt (Rw 10) i) j) (cwV 2 ht (g_V q_321 q_323 q_3 q_33 q_324) rfl rfl rfl hd_T_whereLies ⟨Nat.le_of_ble_eq_true rfl, Nat.le_of_ble_eq_true rfl⟩) hK (hP) (va_recv hK.1 hP (ci := 4) (q0 := 0) rfl rfl) rfl hl.1 rfl (Nat.le_of_ble_eq_true rfl) dT_bestLine_62 ⟨by show 0 ≤ 0; omega, by show 0 ≤ 0; omega⟩ ?_
                refine lv_istore (lv' := [(10, .int (sT_whereLies Rw (wOf sl wv) (rAt (Rw 10) i) j)), (9, .int j), (8, .int b), (7, .int c9), (6, .int (rAt (Rw 10) i)), (5, .int i), (4, .int le), (3, .int be), (2, .int (nI (Rw 10).length)), (0, .ref (ad 0)), (1, .int (nI fr))]) hx hb dT_bestLine_65 hl (by decide) rfl (fun ls hl => ?_)
                refine lv_iload hx hb dT_bestLine_67 (lv_at hl 3 rfl) ?_
                refine lv_iload hx hb dT_bestLine_69 (lv_at hl 0 rfl) ?_
                refine lv_iconst (v := 3) hx hb dT_bestLine_71 (by decide) ?_
                refine lv_icmp_ne (tgt := 79) hx hb dT_bestLine_72 (by decide) (fun c_19 => ?_) (fun c_19 => ?_)
                · skip
                  refine lv_iconst (v := 0) hx hb dT_bestLine_79 (by decide) ?_
                  refine lv_iadd hx hb dT_bestLine_80 ?_
                  refine lv_istore (lv' := [(7, .int (c9 + 0)), (10, .int (sT_whereLies Rw (wOf sl wv) (rAt (Rw 10) i) j)), (9, .int j), (8, .int b), (6, .int (rAt (Rw 10) i)), (5, .int i), (4, .int le), (3, .int be), (2, .int (nI (Rw 10).length)), (0, .ref (ad 0)), (1, .int (nI fr))]) hx hb dT_bestLine_81 hl (by decide) rfl (fun ls hl => ?_)
                  refine lv_iload hx hb dT_bestLine_83 (lv_at hl 3 rfl) ?_
                  refine lv_iload hx hb dT_bestLine_85 (lv_at hl 1 rfl) ?_
                  refine lv_iconst (v := 1) hx hb dT_bestLine_87 (by decide) ?_
                  refine lv_iand hx hb dT_bestLine_88 ?_
                  refine lv_if_eq (tgt := 96) hx hb dT_bestLine_89 (by decide) (fun c_20 => ?_) (fun c_20 => ?_)
                  · skip
                    refine lv_iconst (v := 0) hx hb dT_bestLine_96 (by decide) ?_
                    refine lv_iadd hx hb dT_bestLine_97 ?_
                    refine lv_istore (lv' := [(8, .int (b + 0)), (7, .int (c9 + 0)), (10, .int (sT_whereLies Rw (wOf sl wv) (rAt (Rw 10) i) j)), (9, .int j), (6, .int (rAt (Rw 10) i)), (5, .int i), (4, .int le), (3, .int be), (2, .int (nI (Rw 10).length)), (0, .ref (ad 0)), (1, .int (nI fr))]) hx hb dT_bestLine_98 hl (by decide) rfl (fun ls hl => ?_)
                    refine lv_iload hx hb dT_bestLine_100 (lv_at hl 0 rfl) ?_
                    refine lv_iload hx hb dT_bestLine_102 (lv_at hl 2 rfl) ?_
                    refine lv_iconst (v := 2) hx hb dT_bestLine_104 (by decide) ?_
                    refine lv_iand hx hb dT_bestLine_105 ?_
                    refine lv_if_eq (tgt := 113) hx hb dT_bestLine_106 (by decide) (fun c_21 => ?_) (fun c_21 => ?_)
                    · skip
                      refine lv_iconst (v := 0) hx hb dT_bestLine_113 (by decide) ?_
                      refine lv_isub hx hb dT_bestLine_114 ?_
                      refine lv_istore (lv' := [(8, .int ((b + 0) - 0)), (7, .int (c9 + 0)), (10, .int (sT_whereLies Rw (wOf sl wv) (rAt (Rw 10) i) j)), (9, .int j), (6, .int (rAt (Rw 10) i)), (5, .int i), (4, .int le), (3, .int be), (2, .int (nI (Rw 10).length)), (0, .ref (ad 0)), (1, .int (nI fr))]) hx hb dT_bestLine_115 hl (by decide) rfl (fun ls hl => ?_)
                      refine lv_iinc (v := j + 1) (lv' := [(9, .int (j + 1)), (8, .int ((b + 0) - 0)), (7, .int (c9 + 0)), (10, .int (sT_whereLies Rw (wOf sl wv) (rAt (Rw 10) i) j)), (6, .int (rAt (Rw 10) i)), (5, .int i), (4, .int le), (3, .int be), (2, .int (nI (Rw 10).length)), (0, .ref (ad 0)), (1, .int (nI fr))]) hx hb dT_bestLine_117 hl (k := 3) rfl rfl (by decide) rfl (fun ls hl => ?_)
                      refine lv_goto (tgt := 51) hx hb dT_bestLine_120 (by decide) ?_
                      exact ih (k + 1) (j + 1) (c9 + 0) ((b + 0) - 0) ls (by omega) (by rw [hj]; exact nI_1 k) (by rw [← hI, sBlIn, if_neg c_19, if_pos c_20, if_pos c_21]) (lv_sub hl [0, 1, 2, 4, 5, 6, 7, 8, 9, 10] rfl)
                    · skip
                      refine lv_iconst (v := 1) hx hb dT_bestLine_109 (by decide) ?_
                      refine lv_goto (tgt := 114) hx hb dT_bestLine_110 (by decide) ?_
                      refine lv_isub hx hb dT_bestLine_114 ?_
                      refine lv_istore (lv' := [(8, .int ((b + 0) - 1)), (7, .int (c9 + 0)), (10, .int (sT_whereLies Rw (wOf sl wv) (rAt (Rw 10) i) j)), (9, .int j), (6, .int (rAt (Rw 10) i)), (5, .int i), (4, .int le), (3, .int be), (2, .int (nI (Rw 10).length)), (0, .ref (ad 0)), (1, .int (nI fr))]) hx hb dT_bestLine_115 hl (by decide) rfl (fun ls hl => ?_)
                      refine lv_iinc (v := j + 1) (lv' := [(9, .int (j + 1)), (8, .int ((b + 0) - 1)), (7, .int (c9 + 0)), (10, .int (sT_whereLies Rw (wOf sl wv) (rAt (Rw 10) i) j)), (6, .int (rAt (Rw 10) i)), (5, .int i), (4, .int le), (3, .int be), (2, .int (nI (Rw 10).length)), (0, .ref (ad 0)), (1, .int (nI fr))]) hx hb dT_bestLine_117 hl (k := 3) rfl rfl (by decide) rfl (fun ls hl => ?_)
                      refine lv_goto (tgt := 51) hx hb dT_bestLine_120 (by decide) ?_
                      exact ih (k + 1) (j + 1) (c9 + 0) ((b + 0) - 1) ls (by omega) (by rw [hj]; exact nI_1 k) (by rw [← hI, sBlIn, if_neg c_19, if_pos c_20, if_neg c_21]) (lv_sub hl [0, 1, 2, 4, 5, 6, 7, 8, 9, 10] rfl)
                  · skip
                    refine lv_iconst (v := 1) hx hb dT_bestLine_92 (by decide) ?_
                    refine lv_goto (tgt := 97) hx hb dT_bestLine_93 (by decide) ?_
                    refine lv_iadd hx hb dT_bestLine_97 ?_
                    refine lv_istore (lv' := [(8, .int (b + 1)), (7, .int (c9 + 0)), (10, .int (sT_whereLies Rw (wOf sl wv) (rAt (Rw 10) i) j)), (9, .int j), (6, .int (rAt (Rw 10) i)), (5, .int i), (4, .int le), (3, .int be), (2, .int (nI (Rw 10).length)), (0, .ref (ad 0)), (1, .int (nI fr))]) hx hb dT_bestLine_98 hl (by decide) rfl (fun ls hl => ?_)
                    refine lv_iload hx hb dT_bestLine_100 (lv_at hl 0 rfl) ?_
                    refine lv_iload hx hb dT_bestLine_102 (lv_at hl 2 rfl) ?_
                    refine lv_iconst (v := 2) hx hb dT_bestLine_104 (by decide) ?_
                    refine lv_iand hx hb dT_bestLine_105 ?_
                    refine lv_if_eq (tgt := 113) hx hb dT_bestLine_106 (by decide) (fun c_22 => ?_) (fun c_22 => ?_)
                    · skip
                      refine lv_iconst (v := 0) hx hb dT_bestLine_113 (by decide) ?_
                      refine lv_isub hx hb dT_bestLine_114 ?_
                      refine lv_istore (lv' := [(8, .int ((b + 1) - 0)), (7, .int (c9 + 0)), (10, .int (sT_whereLies Rw (wOf sl wv) (rAt (Rw 10) i) j)), (9, .int j), (6, .int (rAt (Rw 10) i)), (5, .int i), (4, .int le), (3, .int be), (2, .int (nI (Rw 10).length)), (0, .ref (ad 0)), (1, .int (nI fr))]) hx hb dT_bestLine_115 hl (by decide) rfl (fun ls hl => ?_)
                      refine lv_iinc (v := j + 1) (lv' := [(9, .int (j + 1)), (8, .int ((b + 1) - 0)), (7, .int (c9 + 0)), (10, .int (sT_whereLies Rw (wOf sl wv) (rAt (Rw 10) i) j)), (6, .int (rAt (Rw 10) i)), (5, .int i), (4, .int le), (3, .int be), (2, .int (nI (Rw 10).length)), (0, .ref (ad 0)), (1, .int (nI fr))]) hx hb dT_bestLine_117 hl (k := 3) rfl rfl (by decide) rfl (fun ls hl => ?_)
                      refine lv_goto (tgt := 51) hx hb dT_bestLine_120 (by decide) ?_
                      exact ih (k + 1) (j + 1) (c9 + 0) ((b + 1) - 0) ls (by omega) (by rw [hj]; exact nI_1 k) (by rw [← hI, sBlIn, if_neg c_19, if_neg c_20, if_pos c_22]) (lv_sub hl [0, 1, 2, 4, 5, 6, 7, 8, 9, 10] rfl)
                    · skip
                      refine lv_iconst (v := 1) hx hb dT_bestLine_109 (by decide) ?_
                      refine lv_goto (tgt := 114) hx hb dT_bestLine_110 (by decide) ?_
                      refine lv_isub hx hb dT_bestLine_114 ?_
                      refine lv_istore (lv' := [(8, .int ((b + 1) - 1)), (7, .int (c9 + 0)), (10, .int (sT_whereLies Rw (wOf sl wv) (rAt (Rw 10) i) j)), (9, .int j), (6, .int (rAt (Rw 10) i)), (5, .int i), (4, .int le), (3, .int be), (2, .int (nI (Rw 10).length)), (0, .ref (ad 0)), (1, .int (nI fr))]) hx hb dT_bestLine_115 hl (by decide) rfl (fun ls hl => ?_)
                      refine lv_iinc (v := j + 1) (lv' := [(9, .int (j + 1)), (8, .int ((b + 1) - 1)), (7, .int (c9 + 0)), (10, .int (sT_whereLies Rw (wOf sl wv) (rAt (Rw 10) i) j)), (6, .int (rAt (Rw 10) i)), (5, .int i), (4, .int le), (3, .int be), (2, .int (nI (Rw 10).length)), (0, .ref (ad 0)), (1, .int (nI fr))]) hx hb dT_bestLine_117 hl (k := 3) rfl rfl (by decide) rfl (fun ls hl => ?_)
                      refine lv_goto (tgt := 51) hx hb dT_bestLine_120 (by decide) ?_
                      exact ih (k + 1) (j + 1) (c9 + 0) ((b + 1) - 1) ls (by omega) (by rw [hj]; exact nI_1 k) (by rw [← hI, sBlIn, if_neg c_19, if_neg c_20, if_neg c_22]) (lv_sub hl [0, 1, 2, 4, 5, 6, 7, 8, 9, 10] rfl)
                · skip
                  refine lv_iconst (v := 1) hx hb dT_bestLine_75 (by decide) ?_
                  refine lv_goto (tgt := 80) hx hb dT_bestLine_76 (by decide) ?_
                  refine lv_iadd hx hb dT_bestLine_80 ?_
                  refine lv_istore (lv' := [(7, .int (c9 + 1)), (10, .int (sT_whereLies Rw (wOf sl wv) (rAt (Rw 10) i) j)), (9, .int j), (8, .int b), (6, .int (rAt (Rw 10) i)), (5, .int i), (4, .int le), (3, .int be), (2, .int (nI (Rw 10).length)), (0, .ref (ad 0)), (1, .int (nI fr))]) hx hb dT_bestLine_81 hl (by decide) rfl (fun ls hl => ?_)
                  refine lv_iload hx hb dT_bestLine_83 (lv_at hl 3 rfl) ?_
                  refine lv_iload hx hb dT_bestLine_85 (lv_at hl 1 rfl) ?_
                  refine lv_iconst (v := 1) hx hb dT_bestLine_87 (by decide) ?_
                  refine lv_iand hx hb dT_bestLine_88 ?_
                  refine lv_if_eq (tgt := 96) hx hb dT_bestLine_89 (by decide) (fun c_23 => ?_) (fun c_23 => ?_)
                  · skip
                    refine lv_iconst (v := 0) hx hb dT_bestLine_96 (by decide) ?_
                    refine lv_iadd hx hb dT_bestLine_97 ?_
                    refine lv_istore (lv' := [(8, .int (b + 0)), (7, .int (c9 + 1)), (10, .int (sT_whereLies Rw (wOf sl wv) (rAt (Rw 10) i) j)), (9, .int j), (6, .int (rAt (Rw 10) i)), (5, .int i), (4, .int le), (3, .int be), (2, .int (nI (Rw 10).length)), (0, .ref (ad 0)), (1, .int (nI fr))]) hx hb dT_bestLine_98 hl (by decide) rfl (fun ls hl => ?_)
                    refine lv_iload hx hb dT_bestLine_100 (lv_at hl 0 rfl) ?_
                    refine lv_iload hx hb dT_bestLine_102 (lv_at hl 2 rfl) ?_
                    refine lv_iconst (v := 2) hx hb dT_bestLine_104 (by decide) ?_
                    refine lv_iand hx hb dT_bestLine_105 ?_
                    refine lv_if_eq (tgt := 113) hx hb dT_bestLine_106 (by decide) (fun c_24 => ?_) (fun c_24 => ?_)
                    · skip
                      refine lv_iconst (v := 0) hx hb dT_bestLine_113 (by decide) ?_
                      refine lv_isub hx hb dT_bestLine_114 ?_
                      refine lv_istore (lv' := [(8, .int ((b + 0) - 0)), (7, .int (c9 + 1)), (10, .int (sT_whereLies Rw (wOf sl wv) (rAt (Rw 10) i) j)), (9, .int j), (6, .int (rAt (Rw 10) i)), (5, .int i), (4, .int le), (3, .int be), (2, .int (nI (Rw 10).length)), (0, .ref (ad 0)), (1, .int (nI fr))]) hx hb dT_bestLine_115 hl (by decide) rfl (fun ls hl => ?_)
                      refine lv_iinc (v := j + 1) (lv' := [(9, .int (j + 1)), (8, .int ((b + 0) - 0)), (7, .int (c9 + 1)), (10, .int (sT_whereLies Rw (wOf sl wv) (rAt (Rw 10) i) j)), (6, .int (rAt (Rw 10) i)), (5, .int i), (4, .int le), (3, .int be), (2, .int (nI (Rw 10).length)), (0, .ref (ad 0)), (1, .int (nI fr))]) hx hb dT_bestLine_117 hl (k := 3) rfl rfl (by decide) rfl (fun ls hl => ?_)
                      refine lv_goto (tgt := 51) hx hb dT_bestLine_120 (by decide) ?_
                      exact ih (k + 1) (j + 1) (c9 + 1) ((b + 0) - 0) ls (by omega) (by rw [hj]; exact nI_1 k) (by rw [← hI, sBlIn, if_pos c_19, if_pos c_23, if_pos c_24]) (lv_sub hl [0, 1, 2, 4, 5, 6, 7, 8, 9, 10] rfl)
                    · skip
                      refine lv_iconst (v := 1) hx hb dT_bestLine_109 (by decide) ?_
                      refine lv_goto (tgt := 114) hx hb dT_bestLine_110 (by decide) ?_
                      refine lv_isub hx hb dT_bestLine_114 ?_
                      refine lv_istore (lv' := [(8, .int ((b + 0) - 1)), (7, .int (c9 + 1)), (10, .int (sT_whereLies Rw (wOf sl wv) (rAt (Rw 10) i) j)), (9, .int j), (6, .int (rAt (Rw 10) i)), (5, .int i), (4, .int le), (3, .int be), (2, .int (nI (Rw 10).length)), (0, .ref (ad 0)), (1, .int (nI fr))]) hx hb dT_bestLine_115 hl (by decide) rfl (fun ls hl => ?_)
                      refine lv_iinc (v := j + 1) (lv' := [(9, .int (j + 1)), (8, .int ((b + 0) - 1)), (7, .int (c9 + 1)), (10, .int (sT_whereLies Rw (wOf sl wv) (rAt (Rw 10) i) j)), (6, .int (rAt (Rw 10) i)), (5, .int i), (4, .int le), (3, .int be), (2, .int (nI (Rw 10).length)), (0, .ref (ad 0)), (1, .int (nI fr))]) hx hb dT_bestLine_117 hl (k := 3) rfl rfl (by decide) rfl (fun ls hl => ?_)
                      refine lv_goto (tgt := 51) hx hb dT_bestLine_120 (by decide) ?_
                      exact ih (k + 1) (j + 1) (c9 + 1) ((b + 0) - 1) ls (by omega) (by rw [hj]; exact nI_1 k) (by rw [← hI, sBlIn, if_pos c_19, if_pos c_23, if_neg c_24]) (lv_sub hl [0, 1, 2, 4, 5, 6, 7, 8, 9, 10] rfl)
                  · skip
                    refine lv_iconst (v := 1) hx hb dT_bestLine_92 (by decide) ?_
                    refine lv_goto (tgt := 97) hx hb dT_bestLine_93 (by decide) ?_
                    refine lv_iadd hx hb dT_bestLine_97 ?_
                    refine lv_istore (lv' := [(8, .int (b + 1)), (7, .int (c9 + 1)), (10, .int (sT_whereLies Rw (wOf sl wv) (rAt (Rw 10) i) j)), (9, .int j), (6, .int (rAt (Rw 10) i)), (5, .int i), (4, .int le), (3, .int be), (2, .int (nI (Rw 10).length)), (0, .ref (ad 0)), (1, .int (nI fr))]) hx hb dT_bestLine_98 hl (by decide) rfl (fun ls hl => ?_)
                    refine lv_iload hx hb dT_bestLine_100 (lv_at hl 0 rfl) ?_
                    refine lv_iload hx hb dT_bestLine_102 (lv_at hl 2 rfl) ?_
                    refine lv_iconst (v := 2) hx hb dT_bestLine_104 (by decide) ?_
                    refine lv_iand hx hb dT_bestLine_105 ?_
                    refine lv_if_eq (tgt := 113) hx hb dT_bestLine_106 (by decide) (fun c_25 => ?_) (fun c_25 => ?_)
                    · skip
                      refine lv_iconst (v := 0) hx hb dT_bestLine_113 (by decide) ?_
                      refine lv_isub hx hb dT_bestLine_114 ?_
                      refine lv_istore (lv' := [(8, .int ((b + 1) - 0)), (7, .int (c9 + 1)), (10, .int (sT_whereLies Rw (wOf sl wv) (rAt (Rw 10) i) j)), (9, .int j), (6, .int (rAt (Rw 10) i)), (5, .int i), (4, .int le), (3, .int be), (2, .int (nI (Rw 10).length)), (0, .ref (ad 0)), (1, .int (nI fr))]) hx hb dT_bestLine_115 hl (by decide) rfl (fun ls hl => ?_)
                      refine lv_iinc (v := j + 1) (lv' := [(9, .int (j + 1)), (8, .int ((b + 1) - 0)), (7, .int (c9 + 1)), (10, .int (sT_whereLies Rw (wOf sl wv) (rAt (Rw 10) i) j)), (6, .int (rAt (Rw 10) i)), (5, .int i), (4, .int le), (3, .int be), (2, .int (nI (Rw 10).length)), (0, .ref (ad 0)), (1, .int (nI fr))]) hx hb dT_bestLine_117 hl (k := 3) rfl rfl (by decide) rfl (fun ls hl => ?_)
                      refine lv_goto (tgt := 51) hx hb dT_bestLine_120 (by decide) ?_
                      exact ih (k + 1) (j + 1) (c9 + 1) ((b + 1) - 0) ls (by omega) (by rw [hj]; exact nI_1 k) (by rw [← hI, sBlIn, if_pos c_19, if_neg c_23, if_pos c_25]) (lv_sub hl [0, 1, 2, 4, 5, 6, 7, 8, 9, 10] rfl)
                    · skip
                      refine lv_iconst (v := 1) hx hb dT_bestLine_109 (by decide) ?_
                      refine lv_goto (tgt := 114) hx hb dT_bestLine_110 (by decide) ?_
                      refine lv_isub hx hb dT_bestLine_114 ?_
                      refine lv_istore (lv' := [(8, .int ((b + 1) - 1)), (7, .int (c9 + 1)), (10, .int (sT_whereLies Rw (wOf sl wv) (rAt (Rw 10) i) j)), (9, .int j), (6, .int (rAt (Rw 10) i)), (5, .int i), (4, .int le), (3, .int be), (2, .int (nI (Rw 10).length)), (0, .ref (ad 0)), (1, .int (nI fr))]) hx hb dT_bestLine_115 hl (by decide) rfl (fun ls hl => ?_)
                      refine lv_iinc (v := j + 1) (lv' := [(9, .int (j + 1)), (8, .int ((b + 1) - 1)), (7, .int (c9 + 1)), (10, .int (sT_whereLies Rw (wOf sl wv) (rAt (Rw 10) i) j)), (6, .int (rAt (Rw 10) i)), (5, .int i), (4, .int le), (3, .int be), (2, .int (nI (Rw 10).length)), (0, .ref (ad 0)), (1, .int (nI fr))]) hx hb dT_bestLine_117 hl (k := 3) rfl rfl (by decide) rfl (fun ls hl => ?_)
                      refine lv_goto (tgt := 51) hx hb dT_bestLine_120 (by decide) ?_
                      exact ih (k + 1) (j + 1) (c9 + 1) ((b + 1) - 1) ls (by omega) (by rw [hj]; exact nI_1 k) (by rw [← hI, sBlIn, if_pos c_19, if_neg c_23, if_neg c_25]) (lv_sub hl [0, 1, 2, 4, 5, 6, 7, 8, 9, 10] rfl)
          exact loop51 ((Rw 10).length - fr) fr (nI fr) 0 0 ls (by omega) rfl rfl (lv_sub hl [0, 1, 2, 3, 4, 5, 6, 7, 8, 9] rfl)
  exact loop16 (min 16 ((Rw 10).length - fr)) fr (nI fr) (-1) 0 ls (by omega) (by omega) rfl rfl (lv_sub hl [0, 1, 2, 3, 4, 5] rfl)
end
