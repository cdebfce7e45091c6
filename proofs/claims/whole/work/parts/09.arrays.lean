section XA
variable {p : Program} {l : Launch} {e : Env} {R : Room} {s : State} {m : MethodId} {args : Array Value} {below : List Frame} {meth : Method} {c : Code} {H : Heap} {locs : List Loc} {cells slots : Nat} {Q : State → Prop}
variable {cc : ByteArray} {pc : Nat} {ls : Array Slot} {rest : List Value} {g : CX} {A : Nat → Prop} {ws : va_W} {H0 : Heap}
theorem xa_same {k : Nat} {cA : ClassId} {ty : FieldType} (hK : KK g s) (h1 : va_K g.1 vwCl (tyL g ++ [(cA, ty)]) s) (hk : (tyL g)[k]? = some (g.2 k, ty)) (hp : ∀ U cB, va_RA U cB ty → U.vm.findClass ("[" ++ ty.toString) = some cB) : cA = g.2 k := by
  have e1 := hp _ _ (h1.2 4 (cA, ty) rfl).2
  have e2 := hp _ _ (hK.1.2 k (g.2 k, ty) hk).2
  exact Option.some.inj (e1.symm.trans e2)
theorem xa_newi (hexec : p.tables.exec = Jvm.exec) (hb : c.code = cc) (harr : (Cond.arrayClass .int).before args s = true) (hK : KK g s) (hP : va_P g.1 vwCl ws H) (hD : va_D A ws) (hS : va_S A H0 H locs) (hA : ∀ q, H0.size ≤ q → A q)
    {n : Int32} {N' : Nat} (hn : n = nI N') (hN : N' ≤ 100000) (hcells : cells + 1 ≤ R.cells) (hslots : slots + N' ≤ R.slots) (hdg : decode cc pc = .ok (.newarray .int, 2))
    (kk : ∀ (q : Nat) (H1 : Heap), va_P g.1 vwCl (ws ++ [(q, .inl (g.2 0, N', .inl (fun _ => 0)))]) H1 → va_D A (ws ++ [(q, .inl (g.2 0, N', .inl (fun _ => 0)))]) → va_S A H0 H1 locs →
      W p l e R s m args below meth c H1 locs (cells + 1) (slots + N') Q (F0 m (pc + 2) ls (.ref q :: rest))) : W p l e R s m args below meth c H locs cells slots Q (F0 m pc ls (.int n :: rest)) := by
  subst hn
  refine va_newa (ty := .int) (a0 := (N', .inl (fun _ => 0))) hexec hb (atype := .int) harr rfl hK.1 hP hD hS hA (fun _ => rfl) (nI_pos (by omega)) (nI_clamp (by omega)) (by show N' * 4 ≤ _; omega) hcells hslots hdg (fun q cA H1 hK1 hP1 hD1 hS1 => ?_)
  have e : cA = g.2 0 := xa_same hK hK1 rfl (fun _ _ h => h)
  subst e
  exact kk q H1 hP1 hD1 hS1
theorem xa_newl (hexec : p.tables.exec = Jvm.exec) (hb : c.code = cc) (harr : (Cond.arrayClass .long).before args s = true) (hK : KK g s) (hP : va_P g.1 vwCl ws H) (hD : va_D A ws) (hS : va_S A H0 H locs) (hA : ∀ q, H0.size ≤ q → A q)
    {n : Int32} {N' : Nat} (hn : n = nI N') (hN : N' ≤ 100000) (hcells : cells + 1 ≤ R.cells) (hslots : slots + N' ≤ R.slots) (hdg : decode cc pc = .ok (.newarray .long, 2))
    (kk : ∀ (q : Nat) (H1 : Heap), va_P g.1 vwCl (ws ++ [(q, .inl (g.2 2, N', .inr (.inl (fun _ => 0))))]) H1 → va_D A (ws ++ [(q, .inl (g.2 2, N', .inr (.inl (fun _ => 0))))]) → va_S A H0 H1 locs →
      W p l e R s m args below meth c H1 locs (cells + 1) (slots + N') Q (F0 m (pc + 2) ls (.ref q :: rest))) : W p l e R s m args below meth c H locs cells slots Q (F0 m pc ls (.int n :: rest)) := by
  subst hn
  refine va_newa (ty := .long) (a0 := (N', .inr (.inl (fun _ => 0)))) hexec hb (atype := .long) harr rfl hK.1 hP hD hS hA (fun _ => rfl) (nI_pos (by omega)) (nI_clamp (by omega)) (by show N' * 8 ≤ _; omega) hcells hslots hdg (fun q cA H1 hK1 hP1 hD1 hS1 => ?_)
  have e : cA = g.2 2 := xa_same hK hK1 rfl (fun _ _ h => h)
  subst e
  exact kk q H1 hP1 hD1 hS1
theorem xa_newz (hexec : p.tables.exec = Jvm.exec) (hb : c.code = cc) (harr : (Cond.arrayClass .boolean).before args s = true) (hK : KK g s) (hP : va_P g.1 vwCl ws H) (hD : va_D A ws) (hS : va_S A H0 H locs) (hA : ∀ q, H0.size ≤ q → A q)
    {n : Int32} {N' : Nat} (hn : n = nI N') (hN : N' ≤ 100000) (hcells : cells + 1 ≤ R.cells) (hslots : slots + N' ≤ R.slots) (hdg : decode cc pc = .ok (.newarray .boolean, 2))
    (kk : ∀ (q : Nat) (H1 : Heap), va_P g.1 vwCl (ws ++ [(q, .inl (g.2 3, N', .inl (fun _ => 0)))]) H1 → va_D A (ws ++ [(q, .inl (g.2 3, N', .inl (fun _ => 0)))]) → va_S A H0 H1 locs →
      W p l e R s m args below meth c H1 locs (cells + 1) (slots + N') Q (F0 m (pc + 2) ls (.ref q :: rest))) : W p l e R s m args below meth c H locs cells slots Q (F0 m pc ls (.int n :: rest)) := by
  subst hn
  refine va_newa (ty := .boolean) (a0 := (N', .inl (fun _ => 0))) hexec hb (atype := .boolean) harr rfl hK.1 hP hD hS hA (fun _ => rfl) (nI_pos (by omega)) (nI_clamp (by omega)) (by show N' * 1 ≤ _; omega) hcells hslots hdg (fun q cA H1 hK1 hP1 hD1 hS1 => ?_)
  have e : cA = g.2 3 := xa_same hK hK1 rfl (fun _ _ h => h)
  subst e
  exact kk q H1 hP1 hD1 hS1
theorem xa_newq (hexec : p.tables.exec = Jvm.exec) (hb : c.code = cc) {own : String} {index : Nat} (hown : s.vm.findClass own = some m.cls) (hclink : (Cond.classLink own index "NodeMaker$Wall").before args s = true) (hK : KK g s) (hP : va_P g.1 vwCl ws H) (hD : va_D A ws) (hS : va_S A H0 H locs) (hA : ∀ q, H0.size ≤ q → A q)
    {n : Int32} {N' : Nat} (hn : n = nI N') (hN : N' ≤ 100000) (hcells : cells + 1 ≤ R.cells) (hslots : slots + N' ≤ R.slots) (hdg : decode cc pc = .ok (.anewarray index, 3))
    (kk : ∀ (q : Nat) (H1 : Heap), va_P g.1 vwCl (ws ++ [(q, .inl (g.2 1, N', .inr (.inr (.inr (.inr (fun _ => none))))))]) H1 → va_D A (ws ++ [(q, .inl (g.2 1, N', .inr (.inr (.inr (.inr (fun _ => none))))))]) → va_S A H0 H1 locs →
      W p l e R s m args below meth c H1 locs (cells + 1) (slots + N') Q (F0 m (pc + 3) ls (.ref q :: rest))) : W p l e R s m args below meth c H locs cells slots Q (F0 m pc ls (.int n :: rest)) := by
  subst hn
  refine va_newq hexec hb hown hclink hK.2.2.2.2.2.2.2.2.2.2.2.2.2.2 hK.1 hP hD hS hA (nI_pos (by omega)) (nI_clamp (by omega)) (by omega) hcells hslots hdg (fun q cA H1 hK1 hP1 hD1 hS1 => ?_)
  have e : cA = g.2 1 := xa_same hK hK1 rfl (fun _ _ h => h.choose_spec.choose_spec.2.2.2)
  subst e
  exact kk q H1 hP1 hD1 hS1
end XA
-- a row that grows
theorem lt4096 {n : Nat} (h : n < 2 ^ 31) : nI n < 4096 ↔ n < 4096 := nI_ltI (b := 4096) h (by decide)
def aCap (cap : Nat) (L : List Int32) : Nat := if 4096 ≤ L.length then cap else if L.length < cap then cap else 2 * cap
def rAdd (L : List Int32) (v : Int32) : List Int32 := if 4096 ≤ L.length then L else L ++ [v]
/-- what an add may take: slots (and cells, counted as roughly) -/
def aUse (cap : Nat) (L : List Int32) : Nat := 2 * aCap cap L - 2 * cap
theorem rowR_add {cap : Nat} {f f' : Nat → Int32} {L : List Int32} {v : Int32} (h : rowR cap f L) (h1 : L.length < 4096) (hf : ∀ j, j < L.length → f' j = f j) (hv : f' L.length = v) : rowR (aCap cap L) f' (rAdd L v) := by
  obtain ⟨a, b, c, d⟩ := h
  have e : rAdd L v = L ++ [v] := if_neg (by omega)
  have hc : aCap cap L = if L.length < cap then cap else 2 * cap := if_neg (by omega)
  rw [e]
  refine ⟨?_, ?_, ?_, fun j hj => ?_⟩
  · rw [hc, List.length_append, List.length_singleton]; unfold capOK at b; split <;> omega
  · rw [hc]; unfold capOK at b ⊢; split <;> omega
  · rw [hc]; unfold capOK at b; split <;> omega
  · rw [List.length_append, List.length_singleton] at hj
    by_cases q : j < L.length
    · rw [hf j q, d j q]
      simp [List.getD_eq_getElem?_getD, List.getElem?_append, q]
    · have : j = L.length := by omega
      subst this
      rw [hv]
      simp [List.getD_eq_getElem?_getD]
theorem aUse_le {cap : Nat} {f : Nat → Int32} {L : List Int32} (h : rowR cap f L) : aCap cap L ≤ 4096 ∧ cap ≤ aCap cap L := by
  obtain ⟨a, b, c, d⟩ := h
  unfold capOK at b
  unfold aCap
  split
  · omega
  · split <;> omega
