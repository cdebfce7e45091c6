-- worlds with a pool: cut a part out with the pool, put it back
theorem pl_P {D : va_G} {cl : List vw_C} {X cx pl : va_W} {H : Heap} (hP : va_P D cl (X ++ pl) H) (isC : List Nat) (hC : isC.map (fun i => X[i]?) = cx.map some) : va_P D cl (cx ++ pl) H := hP.by _ (va_part isC hC)
theorem pl_ix {X cx : va_W} {isC : List Nat} (hC : isC.map (fun i => X[i]?) = cx.map some) {k : Nat} (hk : k < cx.length) : ∃ i, isC[k]? = some i ∧ i < X.length := by
  have hl : isC.length = cx.length := by have := congrArg List.length hC; simpa using this
  obtain ⟨i, hi⟩ : ∃ i, isC[k]? = some i := ⟨isC[k]'(by omega), List.getElem?_eq_getElem (by omega)⟩
  refine ⟨i, hi, ?_⟩
  have h1 : (isC.map (fun i => X[i]?))[k]? = some (X[i]?) := by rw [List.getElem?_map, hi]; rfl
  rw [hC, List.getElem?_map, List.getElem?_eq_getElem hk] at h1
  simp only [Option.map_some, Option.some.injEq] at h1
  exact (List.getElem?_eq_some_iff.mp h1.symm).1
theorem pl_D {A : Nat → Prop} {X cx pl : va_W} (hD : va_D A (X ++ pl)) (isC : List Nat) (hn : va_nd isC = true) (hC : isC.map (fun i => X[i]?) = cx.map some) : va_D A (cx ++ pl) := by
  refine hD.by _ (va_part isC hC) ?_
  intro i j hi hj h
  by_cases h1 : i < cx.length
  · obtain ⟨a, ha, ha'⟩ := pl_ix hC h1
    by_cases h2 : j < cx.length
    · obtain ⟨b, hb, hb'⟩ := pl_ix hC h2
      rw [if_pos h1, if_pos h2, ha, hb] at h
      have e : a = b := h
      subst e
      exact va_nd_inj isC hn i j a ha hb
    · rw [if_pos h1, if_neg h2, ha] at h
      have e : a = X.length + (j - cx.length) := h
      omega
  · by_cases h2 : j < cx.length
    · obtain ⟨b, hb, hb'⟩ := pl_ix hC h2
      rw [if_neg h1, if_pos h2, hb] at h
      have e : X.length + (i - cx.length) = b := h
      omega
    · rw [if_neg h1, if_neg h2] at h
      omega
theorem pl_free {A0 : Nat → Prop} {X cx pl : va_W} {H0 H : Heap} {locs : List Loc} (hD : va_D A0 (X ++ pl)) (hS : va_S A0 H0 H locs) (hA : ∀ q, H0.size ≤ q → A0 q) (isC : List Nat) (hC : isC.map (fun i => X[i]?) = cx.map some) : ∀ q, va_A (cx ++ pl) H.size q → A0 q := by
  intro q h
  rcases h with ⟨k, e, h⟩ | h
  · exact hD.2 _ _ (va_part isC hC k (q, e) h)
  · exact hA q (Nat.le_trans hS.1 h)
/-- one of the pool alone -/
theorem pl_one {D : va_G} {cl : List vw_C} {X : va_W} {LW : List Nat} {f : Nat → va_E} {H : Heap} {x : Nat} (hP : va_P D cl (X ++ va_pl LW f) H) (h : x ∈ LW) : va_P D cl [(x, f x)] H := by
  obtain ⟨k, hk⟩ := va_pl_get (X := X) (f := f) h
  intro i q hi
  match i, hi with
  | 0, hi => cases hi; exact hP k _ hk
theorem pl_two {D : va_G} {cl : List vw_C} {X : va_W} {LW : List Nat} {f : Nat → va_E} {H : Heap} {x y : Nat} (hP : va_P D cl (X ++ va_pl LW f) H) (h : x ∈ LW) (h' : y ∈ LW) : va_P D cl [(x, f x), (y, f y)] H := by
  intro i q hi
  match i, hi with
  | 0, hi => cases hi; exact pl_one hP h 0 _ rfl
  | 1, hi => cases hi; exact pl_one hP h' 0 _ rfl
section RWP
variable {p : Program} {l : Launch} {e : Env} {R : Room} {s : State} {m : MethodId} {args : Array Value} {below : List Frame} {meth : Method} {c : Code} {H : Heap} {locs : List Loc} {cells slots mc ms : Nat} {Q : State → Prop}
variable {pc : Nat} {ls : Array Slot} {rest st0 : List Value} {g : CX} {a : Array Value} {A0 : Nat → Prop} {H0 : Heap} {X cx wr pl : va_W}
theorem rw_iP {S : Type} {post : Int32 → S → Prop} {rx : S → va_W} {pl1 : S → va_W} (hr : va_Run p l e R s m args below meth c H locs cells slots mc ms (F0 m pc ls st0) rest (va_Qi post (rB g (va_A (cx ++ pl) H.size) (fun u => rx u ++ pl1 u)) (va_A (cx ++ pl) H.size) a) (va_A (cx ++ pl) H.size)) (hP : va_P g.1 vwCl (X ++ pl) H) (hD : va_D A0 (X ++ pl)) (hS : va_S A0 H0 H locs) (hA : ∀ q, H0.size ≤ q → A0 q)
    (isC isR : List Nat) (hC : isC.map (fun i => X[i]?) = cx.map some) (hR : isR.map (fun i => X[i]?) = wr.map some) (hn : va_nd isR = true) (hdis : ∀ i ∈ isR, i ∉ isC)
    (kk : ∀ (r : Int32) (u : S) (H1 : Heap) (locs1 : List Loc), post r u → va_P g.1 vwCl ((wr ++ rx u) ++ pl1 u) H1 → va_D A0 ((wr ++ rx u) ++ pl1 u) → va_S A0 H0 H1 locs1 → W p l e R s m args below meth c H1 locs1 (cells + mc) (slots + ms) Q (F0 m (pc + 3) ls (.int r :: rest))) : W p l e R s m args below meth c H locs cells slots Q (F0 m pc ls st0) := by
  have hFc := pl_free hD hS hA isC hC
  refine va_calli hr hS (fun q _ h => hFc q h) hFc (fun r u t H1 locs1 ht hvm hw hB hz1 hk1 hS1 => ?_)
  obtain ⟨hP1, hD1⟩ := hB
  rw [ht] at hP1
  obtain ⟨hP2, hD2⟩ := va_joinP (wr := wr) (rx := rx u) (pl1 := pl1 u) hP hD isC isR hC hR hn hdis hk1 hFc hP1 hD1
  exact kk r u H1 locs1 hw hP2 hD2 hS1
theorem rw_vP {S : Type} {post : S → Prop} {rx : S → va_W} {pl1 : S → va_W} (hr : va_Run p l e R s m args below meth c H locs cells slots mc ms (F0 m pc ls st0) rest (va_Qv post (rB g (va_A (cx ++ pl) H.size) (fun u => rx u ++ pl1 u)) (va_A (cx ++ pl) H.size) a) (va_A (cx ++ pl) H.size)) (hP : va_P g.1 vwCl (X ++ pl) H) (hD : va_D A0 (X ++ pl)) (hS : va_S A0 H0 H locs) (hA : ∀ q, H0.size ≤ q → A0 q)
    (isC isR : List Nat) (hC : isC.map (fun i => X[i]?) = cx.map some) (hR : isR.map (fun i => X[i]?) = wr.map some) (hn : va_nd isR = true) (hdis : ∀ i ∈ isR, i ∉ isC)
    (kk : ∀ (u : S) (H1 : Heap) (locs1 : List Loc), post u → va_P g.1 vwCl ((wr ++ rx u) ++ pl1 u) H1 → va_D A0 ((wr ++ rx u) ++ pl1 u) → va_S A0 H0 H1 locs1 → W p l e R s m args below meth c H1 locs1 (cells + mc) (slots + ms) Q (F0 m (pc + 3) ls rest)) : W p l e R s m args below meth c H locs cells slots Q (F0 m pc ls st0) := by
  have hFc := pl_free hD hS hA isC hC
  refine va_callv hr hS (fun q _ h => hFc q h) hFc (fun u t H1 locs1 ht hvm hw hB hz1 hk1 hS1 => ?_)
  obtain ⟨hP1, hD1⟩ := hB
  rw [ht] at hP1
  obtain ⟨hP2, hD2⟩ := va_joinP (wr := wr) (rx := rx u) (pl1 := pl1 u) hP hD isC isR hC hR hn hdis hk1 hFc hP1 hD1
  exact kk u H1 locs1 hw hP2 hD2 hS1
end RWP
/-- what is at a wall's number -/
def wAt (Wl : Nat → Option WV) (i : Int32) : Option WV := if i < 0 then none else if 64 ≤ i then none else Wl i.toNatClampNeg
/-- the wall at each number, by the slots and the objects -/
abbrev wOf (sl : Nat → Option Nat) (wv : Nat → WV) : Nat → Option WV := fun i => (sl i).map wv
def slOK (sl : Nat → Option Nat) (LW : List Nat) : Prop := ∀ i x, sl i = some x → x ∈ LW
abbrev plW (LW : List Nat) (wv : Nat → WV) : va_W := va_pl LW (fun x => wE (wv x))
abbrev wsX (g : CX) (a q : Nat) (sl : Nat → Option Nat) (cnt : Int32) : va_W := [(a, .inr (3, [.ref q, .int cnt])), (q, .inl (g.2 1, 64, .inr (.inr (.inr (.inr sl)))))]
theorem va_rf_ok (r : Option Nat) : va_rf r = .null ∨ ∃ a, va_rf r = .ref a := by cases r with | none => exact Or.inl rfl | some x => exact Or.inr ⟨x, rfl⟩
theorem in64 {i : Int32} (h0 : ¬ i < 0) (h1 : ¬ 64 ≤ i) : vp_in i 64 := by
  rcases pk_ix i (n := 64) (by decide) with q | q | ⟨j, hj, rfl⟩
  · exact absurd q h0
  · exact absurd q h1
  · exact vp_in_nI hj (by decide)
