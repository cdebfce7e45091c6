theorem wE_up {wv : Nat → WV} {x : Nat} {v : WV} : (fun y => wE (va_up wv x v y)) = va_up (fun y => wE (wv y)) x (wE v) := by
  funext y
  unfold va_up
  split <;> rfl
/-- a new wall's object joins the pool -/
theorem pool_new {X : va_W} {LW : List Nat} {wv : Nat → WV} {x : Nat} {v : WV} (h : x ∉ LW) : (X ++ plW LW wv) ++ [(x, wE v)] = X ++ plW (LW ++ [x]) (va_up wv x v) := by
  rw [List.append_assoc]
  show X ++ (va_pl LW (fun y => wE (wv y)) ++ [(x, wE v)]) = X ++ va_pl (LW ++ [x]) (fun y => wE (va_up wv x v y))
  rw [va_pl_push h, wE_up]
theorem pool_notin {A : Nat → Prop} {X : va_W} {LW : List Nat} {f : Nat → va_E} {x : Nat} {e : va_E} (hD : va_D A ((X ++ va_pl LW f) ++ [(x, e)])) : x ∉ LW := by
  intro h
  obtain ⟨k, hk⟩ := va_pl_get (X := X) (f := f) h
  have hlt : k < (X ++ va_pl LW f).length := (List.getElem?_eq_some_iff.mp hk).1
  have h1 : ((X ++ va_pl LW f) ++ [(x, e)])[k]? = some (x, f x) := by rw [List.getElem?_append_left hlt]; exact hk
  have h2 : ((X ++ va_pl LW f) ++ [(x, e)])[(X ++ va_pl LW f).length]? = some (x, e) := by rw [List.getElem?_append_right (Nat.le_refl _), Nat.sub_self]; rfl
  have := hD.1 k _ _ _ h1 h2 rfl
  omega
theorem last_P {D : va_G} {cl : List vw_C} {Y : va_W} {c : Nat × va_E} {H : Heap} (h : va_P D cl (Y ++ [c]) H) : va_P D cl ([c] ++ Y) H := by
  refine va_P.app ?_ ?_
  · intro k q hk
    match k, hk with
    | 0, hk => exact h Y.length q (by rw [List.getElem?_append_right (Nat.le_refl _), Nat.sub_self]; exact hk)
  · intro k q hk
    exact h k q (by rw [List.getElem?_append_left (List.getElem?_eq_some_iff.mp hk).1]; exact hk)
theorem last_D {A : Nat → Prop} {Y : va_W} {c : Nat × va_E} (h : va_D A (Y ++ [c])) : va_D A ([c] ++ Y) := by
  refine h.by (fun k => if k = 0 then Y.length else k - 1) ?_ ?_
  · intro k q hk
    cases k with
    | zero => show (Y ++ [c])[Y.length]? = some q; rw [List.getElem?_append_right (Nat.le_refl _), Nat.sub_self]; exact hk
    | succ k => show (Y ++ [c])[k]? = some q; have hk' : Y[k]? = some q := hk; rw [List.getElem?_append_left (List.getElem?_eq_some_iff.mp hk').1]; exact hk'
  · intro i j hi hj e
    simp only [List.length_append, List.length_singleton] at hi hj
    split at e <;> split at e <;> omega
theorem first_P {D : va_G} {cl : List vw_C} {Y : va_W} {c : Nat × va_E} {H : Heap} (h : va_P D cl ([c] ++ Y) H) : va_P D cl (Y ++ [c]) H := by
  refine va_P.app (fun k q hk => h (k + 1) q hk) ?_
  intro k q hk
  match k, hk with
  | 0, hk => exact h 0 q hk
theorem first_D {A : Nat → Prop} {Y : va_W} {c : Nat × va_E} (h : va_D A ([c] ++ Y)) : va_D A (Y ++ [c]) := by
  refine h.by (fun k => if k = Y.length then 0 else k + 1) ?_ ?_
  · intro k q hk
    by_cases e : k = Y.length
    · subst e
      rw [if_pos rfl]
      rw [List.getElem?_append_right (Nat.le_refl _), Nat.sub_self] at hk
      exact hk
    · rw [if_neg e]
      have hl := (List.getElem?_eq_some_iff.mp hk).1
      simp only [List.length_append, List.length_singleton] at hl
      rw [List.getElem?_append_left (by omega)] at hk
      exact hk
  · intro i j hi hj e
    split at e <;> split at e <;> omega
theorem wOf_new {sl : Nat → Option Nat} {wv : Nat → WV} {LW : List Nat} {x : Nat} {v : WV} (hsl : slOK sl LW) (h : x ∉ LW) : wOf sl (va_up wv x v) = wOf sl wv := by
  funext i
  show (sl i).map _ = (sl i).map _
  cases e : sl i with
  | none => rfl
  | some y =>
    have hy : y ≠ x := fun q => h (q ▸ hsl i y e)
    show some (va_up wv x v y) = some (wv y)
    rw [va_up_ne _ _ hy]
theorem slOK_new {sl : Nat → Option Nat} {LW : List Nat} {x : Nat} (h : slOK sl LW) : slOK sl (LW ++ [x]) := fun i y e => List.mem_append_left _ (h i y e)
/-- the walls with one more, with one less -/
def wlAdd (Wl : Nat → Option WV) (r : Int32) (v : WV) : Nat → Option WV := if r = -1 then Wl else va_up Wl r.toNatClampNeg (some v)
def wlDrop (Wl : Nat → Option WV) (i : Int32) : Nat → Option WV := if wAt Wl i = none then Wl else va_up Wl i.toNatClampNeg none
theorem wOf_add {sl : Nat → Option Nat} {wv : Nat → WV} {LW : List Nat} {x : Nat} {v : WV} {r : Int32} (hsl : slOK sl LW) (h : x ∉ LW) : wOf (slAdd sl r x) (va_up wv x v) = wlAdd (wOf sl wv) r v := by
  unfold slAdd wlAdd
  split
  · exact wOf_new hsl h
  · funext i
    have h0 := congrFun (wOf_new (v := v) hsl h (wv := wv)) i
    show ((va_up sl r.toNatClampNeg (some x)) i).map (va_up wv x v) = va_up (wOf sl wv) r.toNatClampNeg (some v) i
    by_cases e : i = r.toNatClampNeg
    · rw [e, va_up_self, va_up_self]; show some (va_up wv x v x) = some v; rw [va_up_self]
    · rw [va_up_ne _ _ e, va_up_ne _ _ e]; exact h0
theorem wOf_drop {sl : Nat → Option Nat} {wv : Nat → WV} {i : Int32} : wOf (slDrop (wOf sl wv) sl i) wv = wlDrop (wOf sl wv) i := by
  unfold slDrop wlDrop
  split
  · rfl
  · funext j
    show ((va_up sl i.toNatClampNeg none) j).map wv = va_up (wOf sl wv) i.toNatClampNeg none j
    by_cases e : j = i.toNatClampNeg
    · rw [e, va_up_self, va_up_self]; rfl
    · rw [va_up_ne _ _ e, va_up_ne _ _ e]
set_option maxHeartbeats 4000000 in
set_option maxRecDepth 100000 in
theorem cN_take (l : Launch) (g : CX) (sz : Nat) (aN : Nat) (hw wx wy : Int32) (ad q : Nat → Nat) (f : Nat → Nat → Int32) (s0 : TSt) (sl : Nat → Option Nat) (cnt h st : Int32) (LW : List Nat) (wv : Nat → WV) (hz : rowsT s0.1 f s0.2) (hsl : slOK sl LW) (i : Int32) : Met l yN_take (wm yN_take kN_take 2 (some .boolean)) ({ frames := 3, cells := 0, slots := 0, locals := 64 }) (rw g [.ref aN, .int i] (nX g aN hw wx wy ad q s0.1 f s0.2 sl cnt h st ++ plW LW wv) sz) (va_Qi (fun (r : Int32) (u : (Nat → Nat) × (Nat → Nat → Int32)) => r = (if wAt (wOf sl wv) i = none then 0 else 1 : Int32) ∧ rowsT s0.1 u.2 s0.2) (rB g (va_A (nX g aN hw wx wy ad q s0.1 f s0.2 sl cnt h st ++ plW LW wv) sz) (fun u => (nX g aN hw wx wy ad u.1 s0.1 u.2 s0.2 (slDrop (wOf sl wv) sl i) (if wAt (wOf sl wv) i = none then cnt else cnt - 1) h (if st = 0 then (if (if wAt (wOf sl wv) i = none then 0 else 1 : Int32) = 0 then 0 else 1) else 1 : Int32) ++ plW LW wv))) (va_A (nX g aN hw wx wy ad q s0.1 f s0.2 sl cnt h st ++ plW LW wv) sz)) 0 0 (va_A (nX g aN hw wx wy ad q s0.1 f s0.2 sl cnt h st ++ plW LW wv) sz) := by
  refine Met.ofW (cc := kN_take) (maxL := 2) (ret := (some .boolean)) (by decide) rfl ?_
  intro p e s m args below meth c s₁ B hml hv
  obtain ⟨rfl, hsz, hK, hP, hD0⟩ := hv
  have hx := B.exec
  have hb := B.bytes
  have hr := B.returns
  have ht : ∀ w ∈ wT, w.before _ s = true := fun w h => atoms_spec (ws := wm yN_take kN_take 2 (some .boolean)) B.pre w (List.mem_cons_of_mem _ h)
  have hown : s.vm.findClass "NodeMaker" = some m.cls := findClass_of_methodNamed B.named
  have hlocks := B.notSynchronized
  subst hsz
  have hD := hD0.self (sz := s.heap.size)
  generalize hAe : va_A (nX g aN hw wx wy ad q s0.1 f s0.2 sl cnt h st ++ plW LW wv) s.heap.size = A at hD ⊢
  have hA : ∀ q : Nat, s.heap.size ≤ q → A q := fun q h => by rw [← hAe]; exact Or.inr h
  have hS : va_S A s.heap s.heap [] := va_S.rf
  have hl := lv_entry ([.ref aN, .int i]) (n := 2) (Nat.le_of_ble_eq_true rfl)
  rw [lg_entry_eq]
  generalize (lg_sl ([.ref aN, .int i]) ++ List.replicate (2 - (lg_sl ([.ref aN, .int i])).length) Slot.unset).toArray = ls at hl ⊢
  have hl : lv_has ls 2 [(0, .ref aN), (1, .int i)] := hl
  refine lv_aload_n hx hb dN_take_0 rfl (lv_at hl 0 rfl) ?_
  refine va_get (D := g.1) (ci := 5) (v := .ref (ad 0)) (C := "NodeMaker") (T := Fd_N) (N := 4) hx hb ht i_N hown hK.1 hP 0 rfl rfl 0 (by decide) (ht _ q_154) (fun _ h9 => h9) rfl dN_take_1 ?_
  refine lv_iload_n hx hb dN_take_4 rfl (lv_at hl 1 rfl) ?_
  have hPt : va_P g.1 vwCl (treeX g ad q s0.1 f s0.2 sl cnt h st ++ plW LW wv) s.heap := pl_P hP [1, 2, 3, 4, 5, 6, 7, 8, 9, 10, 11, 12, 13, 14, 15, 16, 17, 18, 19, 20, 21, 22, 23, 24, 25, 26, 27, 28, 29, 30, 31, 32, 33, 34, 35, 36, 37, 38, 39, 40, 41, 42, 43, 44] rfl
  have hDt : va_D A (treeX g ad q s0.1 f s0.2 sl cnt h st ++ plW LW wv) := pl_D hD [1, 2, 3, 4, 5, 6, 7, 8, 9, 10, 11, 12, 13, 14, 15, 16, 17, 18, 19, 20, 21, 22, 23, 24, 25, 26, 27, 28, 29, 30, 31, 32, 33, 34, 35, 36, 37, 38, 39, 40, 41, 42, 43, 44] (by decide) rfl
  refine rw_iP (X := nX g aN hw wx wy ad q s0.1 f s0.2 sl cnt h st) (pl := plW LW wv) (cx := treeX g ad q s0.1 f s0.2 sl cnt h st) (rx := fun (u : (Nat → Nat) × (Nat → Nat → Int32)) => treeX g ad u.1 s0.1 u.2 s0.2 (slDrop (wOf sl wv) sl i) (if wAt (wOf sl wv) i = none then cnt else cnt - 1) h (if st = 0 then (if (if wAt (wOf sl wv) i = none then 0 else 1 : Int32) = 0 then 0 else 1) else 1 : Int32)) (pl1 := fun _ => plW LW wv) (wr := [(aN, .inr (5, [.ref (ad 0), .int hw, .int wx, .int wy]))]) (va_runV (As := [.int i]) (rest := []) ⟨hx, hb, hml, hown, ht⟩ (cT_dropWall l g s.heap.size ad q f s0 sl cnt h st LW wv hz hsl i) (cwV 1 ht (g_V q_239 q_240 q_241 q_35 q_242) rfl rfl rfl hd_T_dropWall ⟨Nat.le_of_ble_eq_true rfl, Nat.le_of_ble_eq_true rfl⟩) (rw_V hK hPt hDt (va_recv hK.1 hPt (ci := 4) (q0 := 0) rfl rfl)) rfl rfl hl.1 rfl (lv_room (Nat.le_of_ble_eq_true rfl)) dN_take_5 ⟨Nat.zero_le _, Nat.zero_le _⟩) hP hD hS hA [1, 2, 3, 4, 5, 6, 7, 8, 9, 10, 11, 12, 13, 14, 15, 16, 17, 18, 19, 20, 21, 22, 23, 24, 25, 26, 27, 28, 29, 30, 31, 32, 33, 34, 35, 36, 37, 38, 39, 40, 41, 42, 43, 44] [0] rfl rfl (by decide) (by decide) (fun r u H locs hw9 hP hD hS => ?_)
  obtain ⟨rfl, hz⟩ := hw9
  exact W.zret hx hb hr (by split <;> rfl) (fun t ht9 hW => ⟨⟨_, u, rfl, ⟨rfl, hz⟩, by rw [ht9]; exact hP, hD⟩, hS.F ht9⟩) hS.2.2 dN_take_8
set_option maxHeartbeats 4000000 in
set_option maxRecDepth 100000 in
theorem cN_clear (l : Launch) (g : CX) (sz : Nat) (aN : Nat) (hw wx wy : Int32) (ad q : Nat → Nat) (f : Nat → Nat → Int32) (s0 : TSt) (sl : Nat → Option Nat) (cnt h st : Int32) (LW : List Nat) (wv : Nat → WV) (hz : rowsT s0.1 f s0.2) (hsl : slOK sl LW)  : Met l yN_clear (wm yN_clear kN_clear 1 none) ({ frames := 2, cells := 0, slots := 0, locals := 41 }) (rw g [.ref aN] (nX g aN hw wx wy ad q s0.1 f s0.2 sl cnt h st ++ plW LW wv) sz) (va_Qv (fun (u : ((Nat → Nat) × (Nat → Nat → Int32)) × (Nat → Option Nat)) => rowsT s0.1 u.1.2 s0.2 ∧ (∀ j, j < 64 → u.2 j = none) ∧ slOK u.2 LW) (rB g (va_A (nX g aN hw wx wy ad q s0.1 f s0.2 sl cnt h st ++ plW LW wv) sz) (fun u => (nX g aN hw wx wy ad u.1.1 s0.1 u.1.2 s0.2 u.2 0 h 1 ++ plW LW wv))) (va_A (nX g aN hw wx wy ad q s0.1 f s0.2 sl cnt h st ++ plW LW wv) sz)) 0 0 (va_A (nX g aN hw wx wy ad q s0.1 f s0.2 sl cnt h st ++ plW LW wv) sz) := by
  refine Met.ofW (cc := kN_clear) (maxL := 1) (ret := none) (by decide) rfl ?_
  intro p e s m args below meth c s₁ B hml hv
  obtain ⟨rfl, hsz, hK, hP, hD0⟩ := hv
  have hx := B.exec
  have hb := B.bytes
  have hr := B.returns
  have ht : ∀ w ∈ wT, w.before _ s = true := fun w h => atoms_spec (ws := wm yN_clear kN_clear 1 none) B.pre w (List.mem_cons_of_mem _ h)
  have hown : s.vm.findClass "NodeMaker" = some m.cls := findClass_of_methodNamed B.named
  have hlocks := B.notSynchronized
  subst hsz
  have hD := hD0.self (sz := s.heap.size)
  generalize hAe : va_A (nX g aN hw wx wy ad q s0.1 f s0.2 sl cnt h st ++ plW LW wv) s.heap.size = A at hD ⊢
  have hA : ∀ q : Nat, s.heap.size ≤ q → A q := fun q h => by rw [← hAe]; exact Or.inr h
  have hS : va_S A s.heap s.heap [] := va_S.rf
  have hl := lv_entry ([.ref aN]) (n := 1) (Nat.le_of_ble_eq_true rfl)
  rw [lg_entry_eq]
  generalize (lg_sl ([.ref aN]) ++ List.replicate (1 - (lg_sl ([.ref aN])).length) Slot.unset).toArray = ls at hl ⊢
  have hl : lv_has ls 1 [(0, .ref aN)] := hl
  refine lv_aload_n hx hb dN_clear_0 rfl (lv_at hl 0 rfl) ?_
  refine va_get (D := g.1) (ci := 5) (v := .ref (ad 0)) (C := "NodeMaker") (T := Fd_N) (N := 4) hx hb ht i_N hown hK.1 hP 0 rfl rfl 0 (by decide) (ht _ q_154) (fun _ h9 => h9) rfl dN_clear_1 ?_
  have hPt : va_P g.1 vwCl (treeX g ad q s0.1 f s0.2 sl cnt h st ++ plW LW wv) s.heap := pl_P hP [1, 2, 3, 4, 5, 6, 7, 8, 9, 10, 11, 12, 13, 14, 15, 16, 17, 18, 19, 20, 21, 22, 23, 24, 25, 26, 27, 28, 29, 30, 31, 32, 33, 34, 35, 36, 37, 38, 39, 40, 41, 42, 43, 44] rfl
  have hDt : va_D A (treeX g ad q s0.1 f s0.2 sl cnt h st ++ plW LW wv) := pl_D hD [1, 2, 3, 4, 5, 6, 7, 8, 9, 10, 11, 12, 13, 14, 15, 16, 17, 18, 19, 20, 21, 22, 23, 24, 25, 26, 27, 28, 29, 30, 31, 32, 33, 34, 35, 36, 37, 38, 39, 40, 41, 42, 43, 44] (by decide) rfl
  refine rw_vP (X := nX g aN hw wx wy ad q s0.1 f s0.2 sl cnt h st) (pl := plW LW wv) (cx := treeX g ad q s0.1 f s0.2 sl cnt h st) (rx := fun (u : ((Nat → Nat) × (Nat → Nat → Int32)) × (Nat → Option Nat)) => treeX g ad u.1.1 s0.1 u.1.2 s0.2 u.2 0 h 1) (pl1 := fun _ => plW LW wv) (wr := [(aN, .inr (5, [.ref (ad 0), .int hw, .int wx, .int wy]))]) (va_runV (As := []) (rest := []) ⟨hx, hb, hml, hown, ht⟩ (cT_dropAllWalls l g s.heap.size ad q f s0 sl cnt h st LW wv hz hsl) (cwV 0 ht (g_V q_255 q_256 q_257 q_35 q_258) rfl rfl rfl hd_T_dropAllWalls ⟨Nat.le_of_ble_eq_true rfl, Nat.le_of_ble_eq_true rfl⟩) (rw_V hK hPt hDt (va_recv hK.1 hPt (ci := 4) (q0 := 0) rfl rfl)) rfl rfl hl.1 rfl (lv_room (Nat.le_of_ble_eq_true rfl)) dN_clear_4 ⟨Nat.zero_le _, Nat.zero_le _⟩) hP hD hS hA [1, 2, 3, 4, 5, 6, 7, 8, 9, 10, 11, 12, 13, 14, 15, 16, 17, 18, 19, 20, 21, 22, 23, 24, 25, 26, 27, 28, 29, 30, 31, 32, 33, 34, 35, 36, 37, 38, 39, 40, 41, 42, 43, 44] [0] rfl rfl (by decide) (by decide) (fun u H locs hw9 hP hD hS => ?_)
  exact W.vret hx hb hr (fun t ht9 hW => ⟨⟨u, rfl, hw9, by rw [ht9]; exact hP, hD⟩, hS.F ht9⟩) hS.2.2 dN_clear_7
set_option maxHeartbeats 4000000 in
set_option maxRecDepth 100000 in
theorem cN_init (l : Launch) (g : CX) (sz : Nat) (a : Nat) : Met l yN_init (wm yN_init kN_init 1 none) ({ frames := 4, cells := 44, slots := 1345, locals := 72 }) (rw g [.ref a] [(a, .inr (5, [.null, .int 0, .int 0, .int 0]))] sz) (va_Qv (fun (u : (Nat → Nat) × (Nat → Nat)) => True) (rB g (va_A [(a, .inr (5, [.null, .int 0, .int 0, .int 0]))] sz) (fun u => (nX g a 0 0 0 u.1 u.2 (fun _ => 64) (fun _ _ => 0) (fun _ => []) (fun _ => none) 0 0 0))) (va_A [(a, .inr (5, [.null, .int 0, .int 0, .int 0]))] sz)) 44 1345 (va_A [(a, .inr (5, [.null, .int 0, .int 0, .int 0]))] sz) := by
  refine Met.ofW (cc := kN_init) (maxL := 1) (ret := none) (by decide) rfl ?_
  intro p e s m args below meth c s₁ B hml hv
  obtain ⟨rfl, hsz, hK, hP, hD0⟩ := hv
  have hx := B.exec
  have hb := B.bytes
  have hr := B.returns
  have ht : ∀ w ∈ wT, w.before _ s = true := fun w h => atoms_spec (ws := wm yN_init kN_init 1 none) B.pre w (List.mem_cons_of_mem _ h)
  have hown : s.vm.findClass "NodeMaker" = some m.cls := findClass_of_methodNamed B.named
  have hlocks := B.notSynchronized
  have hin : meth.name = "<init>" := (name_of_methodNamed B.named B.method).1
  subst hsz
  have hD := hD0.self (sz := s.heap.size)
  generalize hAe : va_A [(a, .inr (5, [.null, .int 0, .int 0, .int 0]))] s.heap.size = A at hD ⊢
  have hA : ∀ q : Nat, s.heap.size ≤ q → A q := fun q h => by rw [← hAe]; exact Or.inr h
  have hS : va_S A s.heap s.heap [] := va_S.rf
  have hl := lv_entry ([.ref a]) (n := 1) (Nat.le_of_ble_eq_true rfl)
  rw [lg_entry_eq]
  generalize (lg_sl ([.ref a]) ++ List.replicate (1 - (lg_sl ([.ref a])).length) Slot.unset).toArray = ls at hl ⊢
  have hl : lv_has ls 1 [(0, .ref a)] := hl
  refine lv_aload_n hx hb dN_init_0 rfl (lv_at hl 0 rfl) ?_
  refine W.objInit hx hb hown (ht _ q_49) (ht _ q_50) (ht _ q_51) rfl (by rw [hml]; exact hl.1) rfl dN_init_1 (Nat.le_of_ble_eq_true rfl) (Nat.le_of_ble_eq_true rfl) ?_
  refine W.eq (g2 := F0 m 4 ls []) rfl ?_
  refine lv_aload_n hx hb dN_init_4 rfl (lv_at hl 0 rfl) ?_
  refine va_new (ci := 4) (fs := [.null, .null, .null, .null, .null, .null, .null, .null, .null, .null, .null, .null, .null, .null, .int 0, .int 0]) (C := "NodeMaker$Tree") (T := Fd_T) (N := 16) hx hb ht i_T ty_T ty_T_ok hown (ht _ q_52) (ht _ q_53) (ht _ q_35) hK.1 hP hD hS hA rfl (fun j hj => by rcases (show j = 0 ∨ j = 1 ∨ j = 2 ∨ j = 3 ∨ j = 4 ∨ j = 5 ∨ j = 6 ∨ j = 7 ∨ j = 8 ∨ j = 9 ∨ j = 10 ∨ j = 11 ∨ j = 12 ∨ j = 13 ∨ j = 14 ∨ j = 15 by omega) with rfl | rfl | rfl | rfl | rfl | rfl | rfl | rfl | rfl | rfl | rfl | rfl | rfl | rfl | rfl | rfl <;> rfl) (by show 0 + 1 ≤ 44; omega) (by show 0 + 16 ≤ 1345; omega) dN_init_5 (fun o_1 H hP hD hS => ?_)
  have hP : va_P g.1 vwCl [(a, .inr (5, [.null, .int 0, .int 0, .int 0])), (o_1, .inr (4, [.null, .null, .null, .null, .null, .null, .null, .null, .null, .null, .null, .null, .null, .null, .int 0, .int 0]))] H := hP
  have hD : va_D A [(a, .inr (5, [.null, .int 0, .int 0, .int 0])), (o_1, .inr (4, [.null, .null, .null, .null, .null, .null, .null, .null, .null, .null, .null, .null, .null, .null, .int 0, .int 0]))] := hD
  refine lv_dup hx hb dN_init_8 rfl ?_
  have hPc := hP.sub (ws' := [(o_1, .inr (4, [.null, .null, .null, .null, .null, .null, .null, .null, .null, .null, .null, .null, .null, .null, .int 0, .int 0]))]) [1] rfl
  have hDc := hD.sub (ws' := [(o_1, .inr (4, [.null, .null, .null, .null, .null, .null, .null, .null, .null, .null, .null, .null, .null, .null, .int 0, .int 0]))]) [1] (by decide) rfl
  refine rw_v (wr := [(a, .inr (5, [.null, .int 0, .int 0, .int 0]))]) (va_runIN (As := []) (rest := [.ref o_1, .ref a]) ⟨hx, hb, hml, hown, ht⟩ (cT_init l g H.size o_1) ⟨va_cnB 0 ht (g_all q_56) rfl rfl rfl (nwm_N_11 hK.2) (ht _ q_35) hd_T_init ⟨Nat.le_of_ble_eq_true rfl, Nat.le_of_ble_eq_true rfl⟩, rfl, ht _ q_55⟩ (rw_S hK hPc hDc) rfl rfl hl.1 rfl (lv_room (Nat.le_of_ble_eq_true rfl)) dN_init_9 ⟨by show 0 + 1 + 43 ≤ 44; omega, by show 0 + 16 + 1329 ≤ 1345; omega⟩) hP hD hS hA [1] [0] rfl rfl (by decide) (by decide) (fun u_2 H locs hw hP hD hS => ?_)
  have hP : va_P g.1 vwCl [(a, .inr (5, [.null, .int 0, .int 0, .int 0])), ((u_2.1 0), .inr (4, [.ref (u_2.1 1), .ref (u_2.1 6), .ref (u_2.1 7), .ref (u_2.1 8), .ref (u_2.1 9), .ref (u_2.1 10), .ref (u_2.1 11), .ref (u_2.1 3), .ref (u_2.1 15), .ref (u_2.1 4), .ref (u_2.1 22), .ref (u_2.1 23), .ref (u_2.1 24), .ref (u_2.1 5), .int 0, .int 0])), ((u_2.1 1), .inr (3, [.ref (u_2.1 2), .int 0])), ((u_2.1 2), .inl (g.2 1, 64, .inr (.inr (.inr (.inr (fun _ => none)))))), ((u_2.1 3), .inr (1, [.ref (u_2.1 12), .ref (u_2.1 13), .ref (u_2.1 14)])), ((u_2.1 4), .inr (1, [.ref (u_2.1 16), .ref (u_2.1 17), .ref (u_2.1 18)])), ((u_2.1 5), .inr (1, [.ref (u_2.1 19), .ref (u_2.1 20), .ref (u_2.1 21)])), ((u_2.1 6), .inr (0, [.ref (u_2.2 0), .int (nI ((fun _ => ([] : List Int32)) 0).length)])), ((u_2.2 0), .inl (g.2 0, 64, .inl (fun _ => 0))), ((u_2.1 7), .inr (0, [.ref (u_2.2 1), .int (nI ((fun _ => ([] : List Int32)) 1).length)])), ((u_2.2 1), .inl (g.2 0, 64, .inl (fun _ => 0))), ((u_2.1 8), .inr (0, [.ref (u_2.2 2), .int (nI ((fun _ => ([] : List Int32)) 2).length)])), ((u_2.2 2), .inl (g.2 0, 64, .inl (fun _ => 0))), ((u_2.1 9), .inr (0, [.ref (u_2.2 3), .int (nI ((fun _ => ([] : List Int32)) 3).length)])), ((u_2.2 3), .inl (g.2 0, 64, .inl (fun _ => 0))), ((u_2.1 10), .inr (0, [.ref (u_2.2 4), .int (nI ((fun _ => ([] : List Int32)) 4).length)])), ((u_2.2 4), .inl (g.2 0, 64, .inl (fun _ => 0))), ((u_2.1 11), .inr (0, [.ref (u_2.2 5), .int (nI ((fun _ => ([] : List Int32)) 5).length)])), ((u_2.2 5), .inl (g.2 0, 64, .inl (fun _ => 0))), ((u_2.1 12), .inr (0, [.ref (u_2.2 6), .int (nI ((fun _ => ([] : List Int32)) 6).length)])), ((u_2.2 6), .inl (g.2 0, 64, .inl (fun _ => 0))), ((u_2.1 13), .inr (0, [.ref (u_2.2 7), .int (nI ((fun _ => ([] : List Int32)) 7).length)])), ((u_2.2 7), .inl (g.2 0, 64, .inl (fun _ => 0))), ((u_2.1 14), .inr (0, [.ref (u_2.2 8), .int (nI ((fun _ => ([] : List Int32)) 8).length)])), ((u_2.2 8), .inl (g.2 0, 64, .inl (fun _ => 0))), ((u_2.1 15), .inr (0, [.ref (u_2.2 9), .int (nI ((fun _ => ([] : List Int32)) 9).length)])), ((u_2.2 9), .inl (g.2 0, 64, .inl (fun _ => 0))), ((u_2.1 16), .inr (0, [.ref (u_2.2 10), .int (nI ((fun _ => ([] : List Int32)) 10).length)])), ((u_2.2 10), .inl (g.2 0, 64, .inl (fun _ => 0))), ((u_2.1 17), .inr (0, [.ref (u_2.2 11), .int (nI ((fun _ => ([] : List Int32)) 11).length)])), ((u_2.2 11), .inl (g.2 0, 64, .inl (fun _ => 0))), ((u_2.1 18), .inr (0, [.ref (u_2.2 12), .int (nI ((fun _ => ([] : List Int32)) 12).length)])), ((u_2.2 12), .inl (g.2 0, 64, .inl (fun _ => 0))), ((u_2.1 19), .inr (0, [.ref (u_2.2 13), .int (nI ((fun _ => ([] : List Int32)) 13).length)])), ((u_2.2 13), .inl (g.2 0, 64, .inl (fun _ => 0))), ((u_2.1 20), .inr (0, [.ref (u_2.2 14), .int (nI ((fun _ => ([] : List Int32)) 14).length)])), ((u_2.2 14), .inl (g.2 0, 64, .inl (fun _ => 0))), ((u_2.1 21), .inr (0, [.ref (u_2.2 15), .int (nI ((fun _ => ([] : List Int32)) 15).length)])), ((u_2.2 15), .inl (g.2 0, 64, .inl (fun _ => 0))), ((u_2.1 22), .inr (0, [.ref (u_2.2 16), .int (nI ((fun _ => ([] : List Int32)) 16).length)])), ((u_2.2 16), .inl (g.2 0, 64, .inl (fun _ => 0))), ((u_2.1 23), .inr (0, [.ref (u_2.2 17), .int (nI ((fun _ => ([] : List Int32)) 17).length)])), ((u_2.2 17), .inl (g.2 0, 64, .inl (fun _ => 0))), ((u_2.1 24), .inr (0, [.ref (u_2.2 18), .int (nI ((fun _ => ([] : List Int32)) 18).length)])), ((u_2.2 18), .inl (g.2 0, 64, .inl (fun _ => 0)))] H := hP
  have hD : va_D A [(a, .inr (5, [.null, .int 0, .int 0, .int 0])), ((u_2.1 0), .inr (4, [.ref (u_2.1 1), .ref (u_2.1 6), .ref (u_2.1 7), .ref (u_2.1 8), .ref (u_2.1 9), .ref (u_2.1 10), .ref (u_2.1 11), .ref (u_2.1 3), .ref (u_2.1 15), .ref (u_2.1 4), .ref (u_2.1 22), .ref (u_2.1 23), .ref (u_2.1 24), .ref (u_2.1 5), .int 0, .int 0])), ((u_2.1 1), .inr (3, [.ref (u_2.1 2), .int 0])), ((u_2.1 2), .inl (g.2 1, 64, .inr (.inr (.inr (.inr (fun _ => none)))))), ((u_2.1 3), .inr (1, [.ref (u_2.1 12), .ref (u_2.1 13), .ref (u_2.1 14)])), ((u_2.1 4), .inr (1, [.ref (u_2.1 16), .ref (u_2.1 17), .ref (u_2.1 18)])), ((u_2.1 5), .inr (1, [.ref (u_2.1 19), .ref (u_2.1 20), .ref (u_2.1 21)])), ((u_2.1 6), .inr (0, [.ref (u_2.2 0), .int (nI ((fun _ => ([] : List Int32)) 0).length)])), ((u_2.2 0), .inl (g.2 0, 64, .inl (fun _ => 0))), ((u_2.1 7), .inr (0, [.ref (u_2.2 1), .int (nI ((fun _ => ([] : List Int32)) 1).length)])), ((u_2.2 1), .inl (g.2 0, 64, .inl (fun _ => 0))), ((u_2.1 8), .inr (0, [.ref (u_2.2 2), .int (nI ((fun _ => ([] : List Int32)) 2).length)])), ((u_2.2 2), .inl (g.2 0, 64, .inl (fun _ => 0))), ((u_2.1 9), .inr (0, [.ref (u_2.2 3), .int (nI ((fun _ => ([] : List Int32)) 3).length)])), ((u_2.2 3), .inl (g.2 0, 64, .inl (fun _ => 0))), ((u_2.1 10), .inr (0, [.ref (u_2.2 4), .int (nI ((fun _ => ([] : List Int32)) 4).length)])), ((u_2.2 4), .inl (g.2 0, 64, .inl (fun _ => 0))), ((u_2.1 11), .inr (0, [.ref (u_2.2 5), .int (nI ((fun _ => ([] : List Int32)) 5).length)])), ((u_2.2 5), .inl (g.2 0, 64, .inl (fun _ => 0))), ((u_2.1 12), .inr (0, [.ref (u_2.2 6), .int (nI ((fun _ => ([] : List Int32)) 6).length)])), ((u_2.2 6), .inl (g.2 0, 64, .inl (fun _ => 0))), ((u_2.1 13), .inr (0, [.ref (u_2.2 7), .int (nI ((fun _ => ([] : List Int32)) 7).length)])), ((u_2.2 7), .inl (g.2 0, 64, .inl (fun _ => 0))), ((u_2.1 14), .inr (0, [.ref (u_2.2 8), .int (nI ((fun _ => ([] : List Int32)) 8).length)])), ((u_2.2 8), .inl (g.2 0, 64, .inl (fun _ => 0))), ((u_2.1 15), .inr (0, [.ref (u_2.2 9), .int (nI ((fun _ => ([] : List Int32)) 9).length)])), ((u_2.2 9), .inl (g.2 0, 64, .inl (fun _ => 0))), ((u_2.1 16), .inr (0, [.ref (u_2.2 10), .int (nI ((fun _ => ([] : List Int32)) 10).length)])), ((u_2.2 10), .inl (g.2 0, 64, .inl (fun _ => 0))), ((u_2.1 17), .inr (0, [.ref (u_2.2 11), .int (nI ((fun _ => ([] : List Int32)) 11).length)])), ((u_2.2 11), .inl (g.2 0, 64, .inl (fun _ => 0))), ((u_2.1 18), .inr (0, [.ref (u_2.2 12), .int (nI ((fun _ => ([] : List Int32)) 12).length)])), ((u_2.2 12), .inl (g.2 0, 64, .inl (fun _ => 0))), ((u_2.1 19), .inr (0, [.ref (u_2.2 13), .int (nI ((fun _ => ([] : List Int32)) 13).length)])), ((u_2.2 13), .inl (g.2 0, 64, .inl (fun _ => 0))), ((u_2.1 20), .inr (0, [.ref (u_2.2 14), .int (nI ((fun _ => ([] : List Int32)) 14).length)])), ((u_2.2 14), .inl (g.2 0, 64, .inl (fun _ => 0))), ((u_2.1 21), .inr (0, [.ref (u_2.2 15), .int (nI ((fun _ => ([] : List Int32)) 15).length)])), ((u_2.2 15), .inl (g.2 0, 64, .inl (fun _ => 0))), ((u_2.1 22), .inr (0, [.ref (u_2.2 16), .int (nI ((fun _ => ([] : List Int32)) 16).length)])), ((u_2.2 16), .inl (g.2 0, 64, .inl (fun _ => 0))), ((u_2.1 23), .inr (0, [.ref (u_2.2 17), .int (nI ((fun _ => ([] : List Int32)) 17).length)])), ((u_2.2 17), .inl (g.2 0, 64, .inl (fun _ => 0))), ((u_2.1 24), .inr (0, [.ref (u_2.2 18), .int (nI ((fun _ => ([] : List Int32)) 18).length)])), ((u_2.2 18), .inl (g.2 0, 64, .inl (fun _ => 0)))] := hD
  refine va_putF (D := g.1) (ci := 5) (v := .ref o_1) (ty := (.object "NodeMaker$Tree")) (C := "NodeMaker") (T := Fd_N) (N := 4) hx hb ht i_N ty_N ty_N_ok nm_N hown hK.1 hP hD hS 0 rfl rfl 0 (by decide) (ht _ q_154) (fun _ h9 => h9) rfl hin rfl (by decide +kernel) rfl rfl (Nat.le_of_ble_eq_true rfl) dN_init_12 (fun H locs hP hD hS => ?_)
  have hP : va_P g.1 vwCl [(a, .inr (5, [.ref o_1, .int 0, .int 0, .int 0])), ((u_2.1 0), .inr (4, [.ref (u_2.1 1), .ref (u_2.1 6), .ref (u_2.1 7), .ref (u_2.1 8), .ref (u_2.1 9), .ref (u_2.1 10), .ref (u_2.1 11), .ref (u_2.1 3), .ref (u_2.1 15), .ref (u_2.1 4), .ref (u_2.1 22), .ref (u_2.1 23), .ref (u_2.1 24), .ref (u_2.1 5), .int 0, .int 0])), ((u_2.1 1), .inr (3, [.ref (u_2.1 2), .int 0])), ((u_2.1 2), .inl (g.2 1, 64, .inr (.inr (.inr (.inr (fun _ => none)))))), ((u_2.1 3), .inr (1, [.ref (u_2.1 12), .ref (u_2.1 13), .ref (u_2.1 14)])), ((u_2.1 4), .inr (1, [.ref (u_2.1 16), .ref (u_2.1 17), .ref (u_2.1 18)])), ((u_2.1 5), .inr (1, [.ref (u_2.1 19), .ref (u_2.1 20), .ref (u_2.1 21)])), ((u_2.1 6), .inr (0, [.ref (u_2.2 0), .int (nI ((fun _ => ([] : List Int32)) 0).length)])), ((u_2.2 0), .inl (g.2 0, 64, .inl (fun _ => 0))), ((u_2.1 7), .inr (0, [.ref (u_2.2 1), .int (nI ((fun _ => ([] : List Int32)) 1).length)])), ((u_2.2 1), .inl (g.2 0, 64, .inl (fun _ => 0))), ((u_2.1 8), .inr (0, [.ref (u_2.2 2), .int (nI ((fun _ => ([] : List Int32)) 2).length)])), ((u_2.2 2), .inl (g.2 0, 64, .inl (fun _ => 0))), ((u_2.1 9), .inr (0, [.ref (u_2.2 3), .int (nI ((fun _ => ([] : List Int32)) 3).length)])), ((u_2.2 3), .inl (g.2 0, 64, .inl (fun _ => 0))), ((u_2.1 10), .inr (0, [.ref (u_2.2 4), .int (nI ((fun _ => ([] : List Int32)) 4).length)])), ((u_2.2 4), .inl (g.2 0, 64, .inl (fun _ => 0))), ((u_2.1 11), .inr (0, [.ref (u_2.2 5), .int (nI ((fun _ => ([] : List Int32)) 5).length)])), ((u_2.2 5), .inl (g.2 0, 64, .inl (fun _ => 0))), ((u_2.1 12), .inr (0, [.ref (u_2.2 6), .int (nI ((fun _ => ([] : List Int32)) 6).length)])), ((u_2.2 6), .inl (g.2 0, 64, .inl (fun _ => 0))), ((u_2.1 13), .inr (0, [.ref (u_2.2 7), .int (nI ((fun _ => ([] : List Int32)) 7).length)])), ((u_2.2 7), .inl (g.2 0, 64, .inl (fun _ => 0))), ((u_2.1 14), .inr (0, [.ref (u_2.2 8), .int (nI ((fun _ => ([] : List Int32)) 8).length)])), ((u_2.2 8), .inl (g.2 0, 64, .inl (fun _ => 0))), ((u_2.1 15), .inr (0, [.ref (u_2.2 9), .int (nI ((fun _ => ([] : List Int32)) 9).length)])), ((u_2.2 9), .inl (g.2 0, 64, .inl (fun _ => 0))), ((u_2.1 16), .inr (0, [.ref (u_2.2 10), .int (nI ((fun _ => ([] : List Int32)) 10).length)])), ((u_2.2 10), .inl (g.2 0, 64, .inl (fun _ => 0))), ((u_2.1 17), .inr (0, [.ref (u_2.2 11), .int (nI ((fun _ => ([] : List Int32)) 11).length)])), ((u_2.2 11), .inl (g.2 0, 64, .inl (fun _ => 0))), ((u_2.1 18), .inr (0, [.ref (u_2.2 12), .int (nI ((fun _ => ([] : List Int32)) 12).length)])), ((u_2.2 12), .inl (g.2 0, 64, .inl (fun _ => 0))), ((u_2.1 19), .inr (0, [.ref (u_2.2 13), .int (nI ((fun _ => ([] : List Int32)) 13).length)])), ((u_2.2 13), .inl (g.2 0, 64, .inl (fun _ => 0))), ((u_2.1 20), .inr (0, [.ref (u_2.2 14), .int (nI ((fun _ => ([] : List Int32)) 14).length)])), ((u_2.2 14), .inl (g.2 0, 64, .inl (fun _ => 0))), ((u_2.1 21), .inr (0, [.ref (u_2.2 15), .int (nI ((fun _ => ([] : List Int32)) 15).length)])), ((u_2.2 15), .inl (g.2 0, 64, .inl (fun _ => 0))), ((u_2.1 22), .inr (0, [.ref (u_2.2 16), .int (nI ((fun _ => ([] : List Int32)) 16).length)])), ((u_2.2 16), .inl (g.2 0, 64, .inl (fun _ => 0))), ((u_2.1 23), .inr (0, [.ref (u_2.2 17), .int (nI ((fun _ => ([] : List Int32)) 17).length)])), ((u_2.2 17), .inl (g.2 0, 64, .inl (fun _ => 0))), ((u_2.1 24), .inr (0, [.ref (u_2.2 18), .int (nI ((fun _ => ([] : List Int32)) 18).length)])), ((u_2.2 18), .inl (g.2 0, 64, .inl (fun _ => 0)))] H := hP
  have hD : va_D A [(a, .inr (5, [.ref o_1, .int 0, .int 0, .int 0])), ((u_2.1 0), .inr (4, [.ref (u_2.1 1), .ref (u_2.1 6), .ref (u_2.1 7), .ref (u_2.1 8), .ref (u_2.1 9), .ref (u_2.1 10), .ref (u_2.1 11), .ref (u_2.1 3), .ref (u_2.1 15), .ref (u_2.1 4), .ref (u_2.1 22), .ref (u_2.1 23), .ref (u_2.1 24), .ref (u_2.1 5), .int 0, .int 0])), ((u_2.1 1), .inr (3, [.ref (u_2.1 2), .int 0])), ((u_2.1 2), .inl (g.2 1, 64, .inr (.inr (.inr (.inr (fun _ => none)))))), ((u_2.1 3), .inr (1, [.ref (u_2.1 12), .ref (u_2.1 13), .ref (u_2.1 14)])), ((u_2.1 4), .inr (1, [.ref (u_2.1 16), .ref (u_2.1 17), .ref (u_2.1 18)])), ((u_2.1 5), .inr (1, [.ref (u_2.1 19), .ref (u_2.1 20), .ref (u_2.1 21)])), ((u_2.1 6), .inr (0, [.ref (u_2.2 0), .int (nI ((fun _ => ([] : List Int32)) 0).length)])), ((u_2.2 0), .inl (g.2 0, 64, .inl (fun _ => 0))), ((u_2.1 7), .inr (0, [.ref (u_2.2 1), .int (nI ((fun _ => ([] : List Int32)) 1).length)])), ((u_2.2 1), .inl (g.2 0, 64, .inl (fun _ => 0))), ((u_2.1 8), .inr (0, [.ref (u_2.2 2), .int (nI ((fun _ => ([] : List Int32)) 2).length)])), ((u_2.2 2), .inl (g.2 0, 64, .inl (fun _ => 0))), ((u_2.1 9), .inr (0, [.ref (u_2.2 3), .int (nI ((fun _ => ([] : List Int32)) 3).length)])), ((u_2.2 3), .inl (g.2 0, 64, .inl (fun _ => 0))), ((u_2.1 10), .inr (0, [.ref (u_2.2 4), .int (nI ((fun _ => ([] : List Int32)) 4).length)])), ((u_2.2 4), .inl (g.2 0, 64, .inl (fun _ => 0))), ((u_2.1 11), .inr (0, [.ref (u_2.2 5), .int (nI ((fun _ => ([] : List Int32)) 5).length)])), ((u_2.2 5), .inl (g.2 0, 64, .inl (fun _ => 0))), ((u_2.1 12), .inr (0, [.ref (u_2.2 6), .int (nI ((fun _ => ([] : List Int32)) 6).length)])), ((u_2.2 6), .inl (g.2 0, 64, .inl (fun _ => 0))), ((u_2.1 13), .inr (0, [.ref (u_2.2 7), .int (nI ((fun _ => ([] : List Int32)) 7).length)])), ((u_2.2 7), .inl (g.2 0, 64, .inl (fun _ => 0))), ((u_2.1 14), .inr (0, [.ref (u_2.2 8), .int (nI ((fun _ => ([] : List Int32)) 8).length)])), ((u_2.2 8), .inl (g.2 0, 64, .inl (fun _ => 0))), ((u_2.1 15), .inr (0, [.ref (u_2.2 9), .int (nI ((fun _ => ([] : List Int32)) 9).length)])), ((u_2.2 9), .inl (g.2 0, 64, .inl (fun _ => 0))), ((u_2.1 16), .inr (0, [.ref (u_2.2 10), .int (nI ((fun _ => ([] : List Int32)) 10).length)])), ((u_2.2 10), .inl (g.2 0, 64, .inl (fun _ => 0))), ((u_2.1 17), .inr (0, [.ref (u_2.2 11), .int (nI ((fun _ => ([] : List Int32)) 11).length)])), ((u_2.2 11), .inl (g.2 0, 64, .inl (fun _ => 0))), ((u_2.1 18), .inr (0, [.ref (u_2.2 12), .int (nI ((fun _ => ([] : List Int32)) 12).length)])), ((u_2.2 12), .inl (g.2 0, 64, .inl (fun _ => 0))), ((u_2.1 19), .inr (0, [.ref (u_2.2 13), .int (nI ((fun _ => ([] : List Int32)) 13).length)])), ((u_2.2 13), .inl (g.2 0, 64, .inl (fun _ => 0))), ((u_2.1 20), .inr (0, [.ref (u_2.2 14), .int (nI ((fun _ => ([] : List Int32)) 14).length)])), ((u_2.2 14), .inl (g.2 0, 64, .inl (fun _ => 0))), ((u_2.1 21), .inr (0, [.ref (u_2.2 15), .int (nI ((fun _ => ([] : List Int32)) 15).length)])), ((u_2.2 15), .inl (g.2 0, 64, .inl (fun _ => 0))), ((u_2.1 22), .inr (0, [.ref (u_2.2 16), .int (nI ((fun _ => ([] : List Int32)) 16).length)])), ((u_2.2 16), .inl (g.2 0, 64, .inl (fun _ => 0))), ((u_2.1 23), .inr (0, [.ref (u_2.2 17), .int (nI ((fun _ => ([] : List Int32)) 17).length)])), ((u_2.2 17), .inl (g.2 0, 64, .inl (fun _ => 0))), ((u_2.1 24), .inr (0, [.ref (u_2.2 18), .int (nI ((fun _ => ([] : List Int32)) 18).length)])), ((u_2.2 18), .inl (g.2 0, 64, .inl (fun _ => 0)))] := hD
  rw [← hw] at hP hD
  have hP9 := hP.sub (ws' := (nX g a 0 0 0 u_2.1 u_2.2 (fun _ => 64) (fun _ _ => 0) (fun _ => []) (fun _ => none) 0 0 0)) [0, 1, 2, 3, 4, 5, 6, 7, 8, 9, 10, 11, 12, 13, 14, 15, 16, 17, 18, 19, 20, 21, 22, 23, 24, 25, 26, 27, 28, 29, 30, 31, 32, 33, 34, 35, 36, 37, 38, 39, 40, 41, 42, 43, 44] rfl
  have hD9 := hD.sub (ws' := (nX g a 0 0 0 u_2.1 u_2.2 (fun _ => 64) (fun _ _ => 0) (fun _ => []) (fun _ => none) 0 0 0)) [0, 1, 2, 3, 4, 5, 6, 7, 8, 9, 10, 11, 12, 13, 14, 15, 16, 17, 18, 19, 20, 21, 22, 23, 24, 25, 26, 27, 28, 29, 30, 31, 32, 33, 34, 35, 36, 37, 38, 39, 40, 41, 42, 43, 44] (by decide) rfl
  exact W.vret hx hb hr (fun t ht9 hW => ⟨⟨u_2, rfl, trivial, by rw [ht9]; exact hP9, hD9⟩, hS.F ht9⟩) hS.2.2 dN_init_15
