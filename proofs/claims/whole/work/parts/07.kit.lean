-- natives' words
theorem q_natCopy : Cond.native arraycopyName ∈ wT := wT_of (by decide +kernel) (by decide +kernel)
/-- the links among nest mates, and the arrays of walls: what no word list carries -/
def NW (U : State) : Prop := va_Nw (.methodLinkNest "NodeMaker" 11 yT_init "NodeMaker") U ∧ va_Nw (.methodLinkNest "NodeMaker$Tree" 11 yS_init "NodeMaker") U ∧ va_Nw (.methodLinkNest "NodeMaker$Tree" 20 yR_init "NodeMaker") U ∧ va_Nw (.methodLinkNest "NodeMaker$Tree" 42 yP_init "NodeMaker") U ∧ va_Nw (.methodLinkNest "NodeMaker$Pieces" 9 yR_init "NodeMaker") U ∧
  va_Nw (.fieldLinkNest "NodeMaker" 107 "NodeMaker$Wall" "ax" "I" "NodeMaker") U ∧ va_Nw (.fieldLinkNest "NodeMaker" 110 "NodeMaker$Wall" "ay" "I" "NodeMaker") U ∧ va_Nw (.fieldLinkNest "NodeMaker" 113 "NodeMaker$Wall" "bx" "I" "NodeMaker") U ∧ va_Nw (.fieldLinkNest "NodeMaker" 116 "NodeMaker$Wall" "by" "I" "NodeMaker") U ∧
  va_Nw (.fieldLinkNest "NodeMaker$Tree" 164 "NodeMaker$Wall" "ax" "I" "NodeMaker") U ∧ va_Nw (.fieldLinkNest "NodeMaker$Tree" 169 "NodeMaker$Wall" "ay" "I" "NodeMaker") U ∧ va_Nw (.fieldLinkNest "NodeMaker$Tree" 176 "NodeMaker$Wall" "bx" "I" "NodeMaker") U ∧ va_Nw (.fieldLinkNest "NodeMaker$Tree" 179 "NodeMaker$Wall" "by" "I" "NodeMaker") U ∧ va_AO "NodeMaker$Wall" U
theorem NW.warm {s U : State} (hW : s.WarmedH U.vm) (h : NW s) : NW U := by
  obtain ⟨a1, a2, a3, a4, a5, b1, b2, b3, b4, b5, b6, b7, b8, d⟩ := h
  exact ⟨a1.warmM hW, a2.warmM hW, a3.warmM hW, a4.warmM hW, a5.warmM hW, b1.warmF hW, b2.warmF hW, b3.warmF hW, b4.warmF hW, b5.warmF hW, b6.warmF hW, b7.warmF hW, b8.warmF hW, d.moved hW.alike⟩
theorem NW.same {s U : State} (hv : s.vm = U.vm) (h : NW s) : NW U := by
  obtain ⟨a1, a2, a3, a4, a5, b1, b2, b3, b4, b5, b6, b7, b8, d⟩ := h
  exact ⟨a1.same rfl hv, a2.same rfl hv, a3.same rfl hv, a4.same rfl hv, a5.same rfl hv, b1.same rfl hv, b2.same rfl hv, b3.same rfl hv, b4.same rfl hv, b5.same rfl hv, b6.same rfl hv, b7.same rfl hv, b8.same rfl hv, d.moved (by rw [hv]; exact Vm.Alike.refl _)⟩
/-- what the worlds are read by: the classes' numbers and slots; the array classes of int, Wall, long, boolean -/
abbrev CX : Type := va_G × (Nat → ClassId)
abbrev tyL (g : CX) : List (ClassId × FieldType) := [(g.2 0, .int), (g.2 1, .object "NodeMaker$Wall"), (g.2 2, .long), (g.2 3, .boolean)]
def KK (g : CX) (U : State) : Prop := va_K g.1 vwCl (tyL g) U ∧ NW U
theorem KK.warm {g : CX} {s U : State} (hW : s.WarmedH U.vm) (h : KK g s) : KK g U := ⟨va_K.moved hW.alike h.1, NW.warm hW h.2⟩
theorem KK.call {g : CX} {U : State} {f : JFrame} {mk : MethodId} {a : Array Value} (h : KK g U) : KK g (U.calling f mk a) := ⟨va_K.moved (u := U) (U := U.calling f mk a) (Vm.Alike.refl U.vm) h.1, NW.same rfl h.2⟩
/-- a read-only contract's start: the heap has B -/
def ro (g : CX) (av : List Value) (B : Heap → Prop) : Array Value → State → Prop := va_Pc av (fun U => KK g U ∧ B U.heap)
theorem ro_blind {g : CX} {av : List Value} {B : Heap → Prop} : FrameBlind (ro g av B) := fun _ _ _ _ q => ⟨q.1, q.2.1.call, q.2.2⟩
theorem ro_V {g : CX} {s : State} {H : Heap} {C : String} {b : Addr} {As : List Value} {B : Heap → Prop} (hK : KK g s) (hB : B H) (hr : ∃ cell : Cell, H[b]? = some cell ∧ cell.vm.isStatics = false ∧ s.vm.findClass C = some cell.cls) : PreV s H C b (ro g (.ref b :: As) B) As :=
  ⟨ro_blind, hr, fun U hU hW => ⟨rfl, hK.warm hW, by rw [hU]; exact hB⟩⟩
theorem ro_S {g : CX} {s : State} {H : Heap} {As : List Value} {B : Heap → Prop} (hK : KK g s) (hB : B H) : PreS s H (ro g As B) As := ⟨ro_blind, fun U hU hW => ⟨rfl, hK.warm hW, by rw [hU]; exact hB⟩⟩
section RO
variable {p : Program} {l : Launch} {e : Env} {R : Room} {s : State} {m : MethodId} {args : Array Value} {below : List Frame} {meth : Method} {c : Code} {H : Heap} {locs : List Loc} {cells slots : Nat} {Q : State → Prop}
variable {cc : ByteArray} {pc nL : Nat} {ls : Array Slot} {rest st0 : List Value} {own C : String} {index n maxL : Nat} {y : MethodName} {bytes : ByteArray} {ret : Option FieldType} {ws : List Cond} {rm : Room} {g : CX} {B : Heap → Prop} {b : Addr} {As : List Value}
theorem ro_Vi {v : Int32} (S : CallFix p m c cc nL s args wT own) (hM : Met l y ws rm (ro g (.ref b :: As) B) (vp_Si (fun r => r = v)) 0 0 (fun _ => False)) (cw : CallW R s args own C index y bytes maxL ret ws rm 0 0 n) (hK : KK g s) (hB : B H) (hr : ∃ cell : Cell, H[b]? = some cell ∧ cell.vm.isStatics = false ∧ s.vm.findClass C = some cell.cls)
    (hn : As.length = n) (hsz : ls.size = nL) (hst : st0 = As.reverse ++ .ref b :: rest) (hrm : (rest.map fun v => v.category).sum ≤ 8) (hdg : decode cc pc = .ok (.invokevirtual index, 3)) (hf : cells ≤ R.cells ∧ slots ≤ R.slots)
    (kk : W p l e R s m args below meth c H locs cells slots Q (F0 m (pc + 3) ls (.int v :: rest))) : W p l e R s m args below meth c H locs cells slots Q (F0 m pc ls st0) :=
  vp_callSi (W.runV (As := As) (rest := rest) S hM cw (ro_V hK hB hr) rfl hn hsz hst (lv_room hrm) hdg hf) (fun r hr => by subst hr; exact kk)
theorem ro_Si {v : Int32} (S : CallFix p m c cc nL s args wT own) (hM : Met l y ws rm (ro g As B) (vp_Si (fun r => r = v)) 0 0 (fun _ => False)) (cw : CallB R s args own index y bytes maxL ret ws rm 0 0 n ∧ (Cond.static y).before args s = true) (hK : KK g s) (hB : B H)
    (hn : As.length = n) (hsz : ls.size = nL) (hst : st0 = As.reverse ++ rest) (hrm : (rest.map fun v => v.category).sum ≤ 8) (hdg : decode cc pc = .ok (.invokestatic index, 3)) (hf : cells ≤ R.cells ∧ slots ≤ R.slots)
    (kk : W p l e R s m args below meth c H locs cells slots Q (F0 m (pc + 3) ls (.int v :: rest))) : W p l e R s m args below meth c H locs cells slots Q (F0 m pc ls st0) :=
  vp_callSi (W.runS (As := As) (rest := rest) S hM cw (ro_S hK hB) rfl hn hsz hst (lv_room hrm) hdg hf) (fun r hr => by subst hr; exact kk)
theorem ro_run_l {post : Int64 → Prop} {a : Array Value} (hr : CallRun p l e R s m args below meth c H locs cells slots 0 0 (F0 m pc ls st0) rest (vp_Sl post a) (fun _ => False))
    (kk : ∀ r : Int64, post r → W p l e R s m args below meth c H locs cells slots Q (F0 m (pc + 3) ls (.long r :: rest))) : W p l e R s m args below meth c H locs cells slots Q (F0 m pc ls st0) := by
  intro T hT X
  obtain ⟨v, st₀, t, T', L, h0, X', hL, e1, ⟨r, hv, hp, hh⟩, st⟩ := hr T hT X
  cases hv
  obtain ⟨t2, a1, b1⟩ := kk r hp T' (by rw [e1, hh, h0]) (Stand.forget X' (fun q h => (hL q h).elim))
  exact ⟨t2, st t2 a1, b1⟩
theorem ro_Vl {v : Int64} (S : CallFix p m c cc nL s args wT own) (hM : Met l y ws rm (ro g (.ref b :: As) B) (vp_Sl (fun r => r = v)) 0 0 (fun _ => False)) (cw : CallW R s args own C index y bytes maxL ret ws rm 0 0 n) (hK : KK g s) (hB : B H) (hr : ∃ cell : Cell, H[b]? = some cell ∧ cell.vm.isStatics = false ∧ s.vm.findClass C = some cell.cls)
    (hn : As.length = n) (hsz : ls.size = nL) (hst : st0 = As.reverse ++ .ref b :: rest) (hrm : (rest.map fun v => v.category).sum ≤ 8) (hdg : decode cc pc = .ok (.invokevirtual index, 3)) (hf : cells ≤ R.cells ∧ slots ≤ R.slots)
    (kk : W p l e R s m args below meth c H locs cells slots Q (F0 m (pc + 3) ls (.long v :: rest))) : W p l e R s m args below meth c H locs cells slots Q (F0 m pc ls st0) :=
  ro_run_l (W.runV (As := As) (rest := rest) S hM cw (ro_V hK hB hr) rfl hn hsz hst (lv_room hrm) hdg hf) (fun r hr => by subst hr; exact kk)
theorem ro_Sl {v : Int64} (S : CallFix p m c cc nL s args wT own) (hM : Met l y ws rm (ro g As B) (vp_Sl (fun r => r = v)) 0 0 (fun _ => False)) (cw : CallB R s args own index y bytes maxL ret ws rm 0 0 n ∧ (Cond.static y).before args s = true) (hK : KK g s) (hB : B H)
    (hn : As.length = n) (hsz : ls.size = nL) (hst : st0 = As.reverse ++ rest) (hrm : (rest.map fun v => v.category).sum ≤ 8) (hdg : decode cc pc = .ok (.invokestatic index, 3)) (hf : cells ≤ R.cells ∧ slots ≤ R.slots)
    (kk : W p l e R s m args below meth c H locs cells slots Q (F0 m (pc + 3) ls (.long v :: rest))) : W p l e R s m args below meth c H locs cells slots Q (F0 m pc ls st0) :=
  ro_run_l (W.runS (As := As) (rest := rest) S hM cw (ro_S hK hB) rfl hn hsz hst (lv_room hrm) hdg hf) (fun r hr => by subst hr; exact kk)
/-- a call that answers a reference or null -/
theorem ro_Vq {post : Option Nat → Prop} (S : CallFix p m c cc nL s args wT own) (hM : Met l y ws rm (ro g (.ref b :: As) B) (va_Sq post) 0 0 (fun _ => False)) (cw : CallW R s args own C index y bytes maxL ret ws rm 0 0 n) (hK : KK g s) (hB : B H) (hr : ∃ cell : Cell, H[b]? = some cell ∧ cell.vm.isStatics = false ∧ s.vm.findClass C = some cell.cls)
    (hn : As.length = n) (hsz : ls.size = nL) (hst : st0 = As.reverse ++ .ref b :: rest) (hrm : (rest.map fun v => v.category).sum ≤ 8) (hdg : decode cc pc = .ok (.invokevirtual index, 3)) (hf : cells ≤ R.cells ∧ slots ≤ R.slots)
    (k0 : post none → W p l e R s m args below meth c H locs cells slots Q (F0 m (pc + 3) ls (.null :: rest))) (k1 : ∀ x : Nat, post (some x) → W p l e R s m args below meth c H locs cells slots Q (F0 m (pc + 3) ls (.ref x :: rest))) : W p l e R s m args below meth c H locs cells slots Q (F0 m pc ls st0) :=
  va_csq (W.runV (As := As) (rest := rest) S hM cw (ro_V hK hB hr) rfl hn hsz hst (lv_room hrm) hdg hf) (fun r hr => by cases r with | none => exact k0 hr | some x => exact k1 x hr)
end RO
-- rows of numbers
/-- what a Row answers at a place: NONE outside -/
def rAt (L : List Int32) (i : Int32) : Int32 := if i < 0 then -1 else if nI L.length ≤ i then -1 else L.getD i.toNatClampNeg 0
/-- the cells of a Row at a with its array at q -/
abbrev rowW (g : CX) (a q cap : Nat) (f : Nat → Int32) (n : Nat) : va_W := [(a, .inr (0, [.ref q, .int (nI n)])), (q, .inl (g.2 0, cap, .inl f))]
/-- the lengths that a Row's array may have; the array f of cap places bears the list -/
def capOK (n : Nat) : Prop := n = 64 ∨ n = 128 ∨ n = 256 ∨ n = 512 ∨ n = 1024 ∨ n = 2048 ∨ n = 4096
def rowR (cap : Nat) (f : Nat → Int32) (L : List Int32) : Prop := L.length ≤ cap ∧ capOK cap ∧ cap ≤ 4096 ∧ ∀ j, j < L.length → f j = L.getD j 0
