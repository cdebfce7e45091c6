theorem hd_R_count : yR_count.cls = "NodeMaker$Row" ∧ yR_count.cls ≠ "java/lang/invoke/MethodHandle" ∧ yR_count.cls ≠ "java/lang/invoke/VarHandle" ∧ (parseMethodDescriptor yR_count.desc).map (fun d => d.parameters.length) = some 0 := by decide +kernel
theorem hd_R_at : yR_at.cls = "NodeMaker$Row" ∧ yR_at.cls ≠ "java/lang/invoke/MethodHandle" ∧ yR_at.cls ≠ "java/lang/invoke/VarHandle" ∧ (parseMethodDescriptor yR_at.desc).map (fun d => d.parameters.length) = some 1 := by decide +kernel
theorem hd_R_set : yR_set.cls = "NodeMaker$Row" ∧ yR_set.cls ≠ "java/lang/invoke/MethodHandle" ∧ yR_set.cls ≠ "java/lang/invoke/VarHandle" ∧ (parseMethodDescriptor yR_set.desc).map (fun d => d.parameters.length) = some 2 := by decide +kernel
theorem hd_R_add : yR_add.cls = "NodeMaker$Row" ∧ yR_add.cls ≠ "java/lang/invoke/MethodHandle" ∧ yR_add.cls ≠ "java/lang/invoke/VarHandle" ∧ (parseMethodDescriptor yR_add.desc).map (fun d => d.parameters.length) = some 1 := by decide +kernel
theorem hd_R_shorten : yR_shorten.cls = "NodeMaker$Row" ∧ yR_shorten.cls ≠ "java/lang/invoke/MethodHandle" ∧ yR_shorten.cls ≠ "java/lang/invoke/VarHandle" ∧ (parseMethodDescriptor yR_shorten.desc).map (fun d => d.parameters.length) = some 1 := by decide +kernel
theorem hd_R_init : yR_init.cls ≠ "java/lang/invoke/MethodHandle" ∧ yR_init.cls ≠ "java/lang/invoke/VarHandle" ∧ (parseMethodDescriptor yR_init.desc).map (fun d => d.parameters.length) = some 0 := by decide +kernel
set_option maxHeartbeats 4000000 in
set_option maxRecDepth 100000 in
theorem cR_count (l : Launch) (g : CX) (a q cap : Nat) (f : Nat → Int32) (L : List Int32) : Met l yR_count (wm yR_count kR_count 1 (some .int)) ({ frames := 0, cells := 0, slots := 0, locals := 0 }) (ro g [.ref a] (va_P g.1 vwCl (rowW g a q cap f L.length))) (vp_Si (fun r => r = nI L.length)) 0 0 (fun _ => False) := by
  refine Met.ofW (cc := kR_count) (maxL := 1) (ret := (some .int)) (by decide) rfl ?_
  intro p e s m args below meth c s₁ B hml hv
  obtain ⟨rfl, hK, hP⟩ := hv
  have hx := B.exec
  have hb := B.bytes
  have hr := B.returns
  have ht : ∀ w ∈ wT, w.before _ s = true := fun w h => atoms_spec (ws := wm yR_count kR_count 1 (some .int)) B.pre w (List.mem_cons_of_mem _ h)
  have hown : s.vm.findClass "NodeMaker$Row" = some m.cls := findClass_of_methodNamed B.named
  have hlocks := B.notSynchronized
  have hl := lv_entry ([.ref a]) (n := 1) (Nat.le_of_ble_eq_true rfl)
  rw [lg_entry_eq]
  generalize (lg_sl ([.ref a]) ++ List.replicate (1 - (lg_sl ([.ref a])).length) Slot.unset).toArray = ls at hl ⊢
  have hl : lv_has ls 1 [(0, .ref a)] := hl
  refine lv_aload_n hx hb dR_count_0 rfl (lv_at hl 0 rfl) ?_
  refine va_get (D := g.1) (ci := 0) (v := .int (nI L.length)) (C := "NodeMaker$Row") (T := Fd_R) (N := 2) hx hb ht i_R hown hK.1 hP 0 rfl rfl 1 (by decide) (ht _ q_80) (fun _ h9 => h9) rfl dR_count_1 ?_
  exact W.iret hx hb hr (fun t ht9 hW => ⟨_, rfl, rfl, ht9⟩) (fun q h => by cases h) dR_count_4
set_option maxHeartbeats 4000000 in
set_option maxRecDepth 100000 in
theorem cR_at (l : Launch) (g : CX) (a q cap : Nat) (f : Nat → Int32) (L : List Int32) (hrow : rowR cap f L) (i : Int32) : Met l yR_at (wm yR_at kR_at 2 (some .int)) ({ frames := 0, cells := 0, slots := 0, locals := 0 }) (ro g [.ref a, .int i] (va_P g.1 vwCl (rowW g a q cap f L.length))) (vp_Si (fun r => r = rAt L i)) 0 0 (fun _ => False) := by
  refine Met.ofW (cc := kR_at) (maxL := 2) (ret := (some .int)) (by decide) rfl ?_
  intro p e s m args below meth c s₁ B hml hv
  obtain ⟨rfl, hK, hP⟩ := hv
  have hx := B.exec
  have hb := B.bytes
  have hr := B.returns
  have ht : ∀ w ∈ wT, w.before _ s = true := fun w h => atoms_spec (ws := wm yR_at kR_at 2 (some .int)) B.pre w (List.mem_cons_of_mem _ h)
  have hown : s.vm.findClass "NodeMaker$Row" = some m.cls := findClass_of_methodNamed B.named
  have hlocks := B.notSynchronized
  have hl := lv_entry ([.ref a, .int i]) (n := 2) (Nat.le_of_ble_eq_true rfl)
  rw [lg_entry_eq]
  generalize (lg_sl ([.ref a, .int i]) ++ List.replicate (2 - (lg_sl ([.ref a, .int i])).length) Slot.unset).toArray = ls at hl ⊢
  have hl : lv_has ls 2 [(0, .ref a), (1, .int i)] := hl
  refine lv_iload_n hx hb dR_at_0 rfl (lv_at hl 1 rfl) ?_
  refine lv_if_lt (tgt := 21) hx hb dR_at_1 (by decide) (fun c_1 => ?_) (fun c_1 => ?_)
  · skip
    refine lv_iconst (v := -1) hx hb dR_at_21 (by decide) ?_
    exact W.iret hx hb hr (fun t ht9 hW => ⟨_, rfl, by rw [rAt, if_pos c_1], ht9⟩) (fun q h => by cases h) dR_at_22
  · skip
    refine lv_iload_n hx hb dR_at_4 rfl (lv_at hl 1 rfl) ?_
    refine lv_aload_n hx hb dR_at_5 rfl (lv_at hl 0 rfl) ?_
    refine va_get (D := g.1) (ci := 0) (v := .int (nI L.length)) (C := "NodeMaker$Row") (T := Fd_R) (N := 2) hx hb ht i_R hown hK.1 hP 0 rfl rfl 1 (by decide) (ht _ q_80) (fun _ h9 => h9) rfl dR_at_6 ?_
    refine lv_icmp_ge (tgt := 21) hx hb dR_at_9 (by decide) (fun c_2 => ?_) (fun c_2 => ?_)
    · skip
      refine lv_iconst (v := -1) hx hb dR_at_21 (by decide) ?_
      exact W.iret hx hb hr (fun t ht9 hW => ⟨_, rfl, by rw [rAt, if_neg c_1, if_pos c_2], ht9⟩) (fun q h => by cases h) dR_at_22
    · skip
      refine lv_aload_n hx hb dR_at_12 rfl (lv_at hl 0 rfl) ?_
      refine va_get (D := g.1) (ci := 0) (v := .ref q) (C := "NodeMaker$Row") (T := Fd_R) (N := 2) hx hb ht i_R hown hK.1 hP 0 rfl rfl 0 (by decide) (ht _ q_79) (fun _ h9 => h9) rfl dR_at_13 ?_
      refine lv_iload_n hx hb dR_at_16 rfl (lv_at hl 1 rfl) ?_
      refine va_iald hx hb hK.1 hP 1 0 rfl rfl (row_in hrow c_1 c_2) dR_at_17 ?_
      refine lv_goto (tgt := 22) hx hb dR_at_18 (by decide) ?_
      exact W.iret hx hb hr (fun t ht9 hW => ⟨_, rfl, by rw [rAt, if_neg c_1, if_neg c_2]; exact row_at hrow c_1 c_2, ht9⟩) (fun q h => by cases h) dR_at_22
/-- a Row with a value set at a place; nothing outside -/
def rSet (L : List Int32) (i v : Int32) : List Int32 := if i < 0 then L else if nI L.length ≤ i then L else L.set i.toNatClampNeg v
theorem rSet_len (L : List Int32) (i v : Int32) : (rSet L i v).length = L.length := by
  unfold rSet
  split
  · rfl
  · split
    · rfl
    · exact List.length_set
theorem rowR_set {cap : Nat} {f : Nat → Int32} {L : List Int32} {i v : Int32} (h : rowR cap f L) (h0 : ¬ i < 0) (h1 : ¬ nI L.length ≤ i) : rowR cap (upd f i.toNatClampNeg v) (rSet L i v) := by
  obtain ⟨a, b, c, d⟩ := h
  refine ⟨by rw [rSet_len]; exact a, b, c, fun j hj => ?_⟩
  rw [rSet_len] at hj
  rw [rSet, if_neg h0, if_neg h1]
  rcases pk_ix i (n := L.length) (by omega) with q | q | ⟨k, hk, rfl⟩
  · exact absurd q h0
  · exact absurd q h1
  · rw [nI_clamp (by omega)]
    by_cases e : j = k
    · subst e
      rw [pk_us]
      simp [hj]
    · rw [pk_un e, d j hj]
      simp [List.getD_eq_getElem?_getD, List.getElem?_set, Ne.symm e]
set_option maxHeartbeats 4000000 in
set_option maxRecDepth 100000 in
theorem cR_set (l : Launch) (g : CX) (sz : Nat) (a q cap : Nat) (f : Nat → Int32) (L : List Int32) (hrow : rowR cap f L) (i v : Int32) : Met l yR_set (wm yR_set kR_set 3 none) ({ frames := 0, cells := 0, slots := 0, locals := 0 }) (rw g [.ref a, .int i, .int v] (rowW g a q cap f L.length) sz) (va_Qv (fun (u : Nat → Int32) => rowR cap u (rSet L i v)) (rB g (va_A (rowW g a q cap f L.length) sz) (fun u => (rowW g a q cap u (rSet L i v).length))) (va_A (rowW g a q cap f L.length) sz)) 0 0 (va_A (rowW g a q cap f L.length) sz) := by
  refine Met.ofW (cc := kR_set) (maxL := 3) (ret := none) (by decide) rfl ?_
  intro p e s m args below meth c s₁ B hml hv
  obtain ⟨rfl, hsz, hK, hP, hD0⟩ := hv
  have hx := B.exec
  have hb := B.bytes
  have hr := B.returns
  have ht : ∀ w ∈ wT, w.before _ s = true := fun w h => atoms_spec (ws := wm yR_set kR_set 3 none) B.pre w (List.mem_cons_of_mem _ h)
  have hown : s.vm.findClass "NodeMaker$Row" = some m.cls := findClass_of_methodNamed B.named
  have hlocks := B.notSynchronized
  subst hsz
  have hD := hD0.self (sz := s.heap.size)
  generalize hAe : va_A (rowW g a q cap f L.length) s.heap.size = A at hD ⊢
  have hA : ∀ q : Nat, s.heap.size ≤ q → A q := fun q h => by rw [← hAe]; exact Or.inr h
  have hS : va_S A s.heap s.heap [] := va_S.rf
  have hl := lv_entry ([.ref a, .int i, .int v]) (n := 3) (Nat.le_of_ble_eq_true rfl)
  rw [lg_entry_eq]
  generalize (lg_sl ([.ref a, .int i, .int v]) ++ List.replicate (3 - (lg_sl ([.ref a, .int i, .int v])).length) Slot.unset).toArray = ls at hl ⊢
  have hl : lv_has ls 3 [(0, .ref a), (1, .int i), (2, .int v)] := hl
  refine lv_iload_n hx hb dR_set_0 rfl (lv_at hl 1 rfl) ?_
  refine lv_if_lt (tgt := 19) hx hb dR_set_1 (by decide) (fun c_3 => ?_) (fun c_3 => ?_)
  · skip
    have hP9 : va_P g.1 vwCl (rowW g a q cap (f) (rSet L i v).length) s.heap := by rw [rSet_len]; exact hP
    have hD9 : va_D A (rowW g a q cap (f) (rSet L i v).length) := by rw [rSet_len]; exact hD
    exact W.vret hx hb hr (fun t ht9 hW => ⟨⟨f, rfl, by rw [rSet, if_pos c_3]; exact hrow, by rw [ht9]; exact hP9, hD9⟩, hS.F ht9⟩) hS.2.2 dR_set_19
  · skip
    refine lv_iload_n hx hb dR_set_4 rfl (lv_at hl 1 rfl) ?_
    refine lv_aload_n hx hb dR_set_5 rfl (lv_at hl 0 rfl) ?_
    refine va_get (D := g.1) (ci := 0) (v := .int (nI L.length)) (C := "NodeMaker$Row") (T := Fd_R) (N := 2) hx hb ht i_R hown hK.1 hP 0 rfl rfl 1 (by decide) (ht _ q_80) (fun _ h9 => h9) rfl dR_set_6 ?_
    refine lv_icmp_ge (tgt := 19) hx hb dR_set_9 (by decide) (fun c_4 => ?_) (fun c_4 => ?_)
    · skip
      have hP9 : va_P g.1 vwCl (rowW g a q cap (f) (rSet L i v).length) s.heap := by rw [rSet_len]; exact hP
      have hD9 : va_D A (rowW g a q cap (f) (rSet L i v).length) := by rw [rSet_len]; exact hD
      exact W.vret hx hb hr (fun t ht9 hW => ⟨⟨f, rfl, by rw [rSet, if_neg c_3, if_pos c_4]; exact hrow, by rw [ht9]; exact hP9, hD9⟩, hS.F ht9⟩) hS.2.2 dR_set_19
    · skip
      refine lv_aload_n hx hb dR_set_12 rfl (lv_at hl 0 rfl) ?_
      refine va_get (D := g.1) (ci := 0) (v := .ref q) (C := "NodeMaker$Row") (T := Fd_R) (N := 2) hx hb ht i_R hown hK.1 hP 0 rfl rfl 0 (by decide) (ht _ q_79) (fun _ h9 => h9) rfl dR_set_13 ?_
      refine lv_iload_n hx hb dR_set_16 rfl (lv_at hl 1 rfl) ?_
      refine lv_iload_n hx hb dR_set_17 rfl (lv_at hl 2 rfl) ?_
      refine va_iast hx hb hK.1 hP hD hS 1 0 rfl rfl (row_in hrow c_3 c_4) dR_set_18 (fun H locs hP hD hS => ?_)
      have hP : va_P g.1 vwCl [(a, .inr (0, [.ref q, .int (nI L.length)])), (q, .inl (g.2 0, cap, .inl (upd f i.toNatClampNeg v)))] H := hP
      have hD : va_D A [(a, .inr (0, [.ref q, .int (nI L.length)])), (q, .inl (g.2 0, cap, .inl (upd f i.toNatClampNeg v)))] := hD
      have hP9 : va_P g.1 vwCl (rowW g a q cap (upd f i.toNatClampNeg v) (rSet L i v).length) H := by rw [rSet_len]; exact hP
      have hD9 : va_D A (rowW g a q cap (upd f i.toNatClampNeg v) (rSet L i v).length) := by rw [rSet_len]; exact hD
      exact W.vret hx hb hr (fun t ht9 hW => ⟨⟨upd f i.toNatClampNeg v, rfl, rowR_set hrow c_3 c_4, by rw [ht9]; exact hP9, hD9⟩, hS.F ht9⟩) hS.2.2 dR_set_19
/-- a Row cut down to its first n -/
def rCut (L : List Int32) (n : Int32) : List Int32 := if n < 0 then L else if nI L.length ≤ n then L else L.take n.toNatClampNeg
theorem rCut_len {L : List Int32} {n : Int32} (hL : L.length < 2 ^ 31) (h0 : ¬ n < 0) (h1 : ¬ nI L.length ≤ n) : n = nI (rCut L n).length := by
  rw [rCut, if_neg h0, if_neg h1]
  rcases pk_ix n hL with q | q | ⟨k, hk, rfl⟩
  · exact absurd q h0
  · exact absurd q h1
  · rw [nI_clamp (by omega), List.length_take, Nat.min_eq_left (Nat.le_of_lt hk)]
theorem rowR_cut {cap : Nat} {f : Nat → Int32} {L : List Int32} (n : Int32) (h : rowR cap f L) : rowR cap f (rCut L n) := by
  obtain ⟨a, b, c, d⟩ := h
  unfold rCut
  split
  · exact ⟨a, b, c, d⟩
  split
  · exact ⟨a, b, c, d⟩
  · refine ⟨Nat.le_trans (by rw [List.length_take]; omega) a, b, c, fun j hj => ?_⟩
    rw [List.length_take] at hj
    rw [d j (by omega)]
    simp [List.getD_eq_getElem?_getD, List.getElem?_take, show j < n.toNatClampNeg by omega]
set_option maxHeartbeats 4000000 in
set_option maxRecDepth 100000 in
theorem cR_shorten (l : Launch) (g : CX) (sz : Nat) (a q cap : Nat) (f : Nat → Int32) (L : List Int32) (hrow : rowR cap f L) (i : Int32) : Met l yR_shorten (wm yR_shorten kR_shorten 2 none) ({ frames := 0, cells := 0, slots := 0, locals := 0 }) (rw g [.ref a, .int i] (rowW g a q cap f L.length) sz) (va_Qv (fun (_u : Unit) => rowR cap f (rCut L i)) (rB g (va_A (rowW g a q cap f L.length) sz) (fun _u => (rowW g a q cap f (rCut L i).length))) (va_A (rowW g a q cap f L.length) sz)) 0 0 (va_A (rowW g a q cap f L.length) sz) := by
  refine Met.ofW (cc := kR_shorten) (maxL := 2) (ret := none) (by decide) rfl ?_
  intro p e s m args below meth c s₁ B hml hv
  obtain ⟨rfl, hsz, hK, hP, hD0⟩ := hv
  have hx := B.exec
  have hb := B.bytes
  have hr := B.returns
  have ht : ∀ w ∈ wT, w.before _ s = true := fun w h => atoms_spec (ws := wm yR_shorten kR_shorten 2 none) B.pre w (List.mem_cons_of_mem _ h)
  have hown : s.vm.findClass "NodeMaker$Row" = some m.cls := findClass_of_methodNamed B.named
  have hlocks := B.notSynchronized
  subst hsz
  have hD := hD0.self (sz := s.heap.size)
  generalize hAe : va_A (rowW g a q cap f L.length) s.heap.size = A at hD ⊢
  have hA : ∀ q : Nat, s.heap.size ≤ q → A q := fun q h => by rw [← hAe]; exact Or.inr h
  have hS : va_S A s.heap s.heap [] := va_S.rf
  have hl := lv_entry ([.ref a, .int i]) (n := 2) (Nat.le_of_ble_eq_true rfl)
  rw [lg_entry_eq]
  generalize (lg_sl ([.ref a, .int i]) ++ List.replicate (2 - (lg_sl ([.ref a, .int i])).length) Slot.unset).toArray = ls at hl ⊢
  have hl : lv_has ls 2 [(0, .ref a), (1, .int i)] := hl
  refine lv_iload_n hx hb dR_shorten_0 rfl (lv_at hl 1 rfl) ?_
  refine lv_if_lt (tgt := 17) hx hb dR_shorten_1 (by decide) (fun c_5 => ?_) (fun c_5 => ?_)
  · skip
    have hP9 : va_P g.1 vwCl (rowW g a q cap f (rCut L i).length) s.heap := by rw [rCut, if_pos c_5]; exact hP
    have hD9 : va_D A (rowW g a q cap f (rCut L i).length) := by rw [rCut, if_pos c_5]; exact hD
    exact W.vret hx hb hr (fun t ht9 hW => ⟨⟨(), rfl, rowR_cut i hrow, by rw [ht9]; exact hP9, hD9⟩, hS.F ht9⟩) hS.2.2 dR_shorten_17
  · skip
    refine lv_iload_n hx hb dR_shorten_4 rfl (lv_at hl 1 rfl) ?_
    refine lv_aload_n hx hb dR_shorten_5 rfl (lv_at hl 0 rfl) ?_
    refine va_get (D := g.1) (ci := 0) (v := .int (nI L.length)) (C := "NodeMaker$Row") (T := Fd_R) (N := 2) hx hb ht i_R hown hK.1 hP 0 rfl rfl 1 (by decide) (ht _ q_80) (fun _ h9 => h9) rfl dR_shorten_6 ?_
    refine lv_icmp_ge (tgt := 17) hx hb dR_shorten_9 (by decide) (fun c_6 => ?_) (fun c_6 => ?_)
    · skip
      have hP9 : va_P g.1 vwCl (rowW g a q cap f (rCut L i).length) s.heap := by rw [rCut, if_neg c_5, if_pos c_6]; exact hP
      have hD9 : va_D A (rowW g a q cap f (rCut L i).length) := by rw [rCut, if_neg c_5, if_pos c_6]; exact hD
      exact W.vret hx hb hr (fun t ht9 hW => ⟨⟨(), rfl, rowR_cut i hrow, by rw [ht9]; exact hP9, hD9⟩, hS.F ht9⟩) hS.2.2 dR_shorten_17
    · skip
      refine lv_aload_n hx hb dR_shorten_12 rfl (lv_at hl 0 rfl) ?_
      refine lv_iload_n hx hb dR_shorten_13 rfl (lv_at hl 1 rfl) ?_
      refine va_put (D := g.1) (ci := 0) (v := .int i) (ty := .int) (C := "NodeMaker$Row") (T := Fd_R) (N := 2) hx hb ht i_R ty_R ty_R_ok nm_R hown hK.1 hP hD hS 0 rfl rfl 1 (by decide) (ht _ q_80) (fun _ h9 => h9) rfl (by decide +kernel) rfl rfl (Nat.le_of_ble_eq_true rfl) dR_shorten_14 (fun H locs hP hD hS => ?_)
      have hP : va_P g.1 vwCl [(a, .inr (0, [.ref q, .int i])), (q, .inl (g.2 0, cap, .inl f))] H := hP
      have hD : va_D A [(a, .inr (0, [.ref q, .int i])), (q, .inl (g.2 0, cap, .inl f))] := hD
      have hn := rCut_len (L := L) (n := i) (by have := hrow.1; have := hrow.2.2.1; omega) c_5 c_6
      have hP9 : va_P g.1 vwCl (rowW g a q cap f (rCut L i).length) H := by rw [rowW, ← hn]; exact hP
      have hD9 : va_D A (rowW g a q cap f (rCut L i).length) := by rw [rowW, ← hn]; exact hD
      exact W.vret hx hb hr (fun t ht9 hW => ⟨⟨(), rfl, rowR_cut i hrow, by rw [ht9]; exact hP9, hD9⟩, hS.F ht9⟩) hS.2.2 dR_shorten_17
