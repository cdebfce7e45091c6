/-- the free number that the downward look over the walls finds; none if one clashes -/
def sS_loop (Wl : Nat → Option WV) (v : WV) : Nat → Int32 → Option Int32
  | 0, fr => some fr
  | k + 1, fr => match Wl k with
    | none => sS_loop Wl v k (nI k)
    | some o => if sW_clashes o v = 0 then sS_loop Wl v k fr else none
def sS_add (Wl : Nat → Option WV) (v : WV) : Int32 := (sS_loop Wl v 64 (-1)).getD (-1)
def slAdd (sl : Nat → Option Nat) (r : Int32) (b : Nat) : Nat → Option Nat := if r = -1 then sl else va_up sl r.toNatClampNeg (some b)
theorem slAdd_ok {sl : Nat → Option Nat} {r : Int32} {b : Nat} {LW : List Nat} (h : slOK sl LW) (hb : b ∈ LW) : slOK (slAdd sl r b) LW := by
  unfold slAdd
  split
  · exact h
  · intro j x hx
    unfold va_up at hx
    split at hx
    · cases hx; exact hb
    · exact h j x hx
theorem sS_some {Wl : Nat → Option WV} {v : WV} {k : Nat} {o : WV} {fr : Int32} (h : Wl k = some o) : sS_loop Wl v (k + 1) fr = if sW_clashes o v = 0 then sS_loop Wl v k fr else none := by simp only [sS_loop, h]
theorem sS_none {Wl : Nat → Option WV} {v : WV} {k : Nat} {fr : Int32} (h : Wl k = none) : sS_loop Wl v (k + 1) fr = sS_loop Wl v k (nI k) := by simp only [sS_loop, h]
set_option maxHeartbeats 4000000 in
set_option maxRecDepth 100000 in
theorem cS_add (l : Launch) (g : CX) (sz : Nat) (a q : Nat) (sl : Nat → Option Nat) (cnt : Int32) (LW : List Nat) (wv : Nat → WV) (hsl : slOK sl LW) (b : Nat) (hbL : b ∈ LW) : Met l yS_add (wm yS_add kS_add 5 (some .int)) ({ frames := 3, cells := 0, slots := 0, locals := 68 }) (rw g [.ref a, .ref b] (wsX g a q sl cnt ++ plW LW wv) sz) (va_Qi (fun (r : Int32) (_u : Unit) => r = sS_add (wOf sl wv) (wv b)) (rB g (va_A (wsX g a q sl cnt ++ plW LW wv) sz) (fun _u => (wsX g a q (slAdd sl (sS_add (wOf sl wv) (wv b)) b) (if sS_add (wOf sl wv) (wv b) = -1 then cnt else cnt + 1) ++ plW LW wv))) (va_A (wsX g a q sl cnt ++ plW LW wv) sz)) 0 0 (va_A (wsX g a q sl cnt ++ plW LW wv) sz) := by
  refine Met.ofW (cc := kS_add) (maxL := 5) (ret := (some .int)) (by decide) rfl ?_
  intro p e s m args below meth c s₁ B hml hv
  obtain ⟨rfl, hsz, hK, hP, hD0⟩ := hv
  have hx := B.exec
  have hb := B.bytes
  have hr := B.returns
  have ht : ∀ w ∈ wT, w.before _ s = true := fun w h => atoms_spec (ws := wm yS_add kS_add 5 (some .int)) B.pre w (List.mem_cons_of_mem _ h)
  have hown : s.vm.findClass "NodeMaker$Walls" = some m.cls := findClass_of_methodNamed B.named
  have hlocks := B.notSynchronized
  subst hsz
  have hD := hD0.self (sz := s.heap.size)
  generalize hAe : va_A (wsX g a q sl cnt ++ plW LW wv) s.heap.size = A at hD ⊢
  have hA : ∀ q : Nat, s.heap.size ≤ q → A q := fun q h => by rw [← hAe]; exact Or.inr h
  have hS : va_S A s.heap s.heap [] := va_S.rf
  have hl := lv_entry ([.ref a, .ref b]) (n := 5) (Nat.le_of_ble_eq_true rfl)
  rw [lg_entry_eq]
  generalize (lg_sl ([.ref a, .ref b]) ++ List.replicate (5 - (lg_sl ([.ref a, .ref b])).length) Slot.unset).toArray = ls at hl ⊢
  have hl : lv_has ls 5 [(0, .ref a), (1, .ref b)] := hl
  refine lv_iconst (v := -1) hx hb dS_add_0 (by decide) ?_
  refine lv_istore_n (lv' := [(2, .int (-1)), (0, .ref a), (1, .ref b)]) hx hb dS_add_1 rfl hl (by decide) rfl (fun ls hl => ?_)
  refine lv_bipush (v := 63) hx hb dS_add_2 (by decide) ?_
  refine lv_istore_n (lv' := [(3, .int 63), (2, .int (-1)), (0, .ref a), (1, .ref b)]) hx hb dS_add_4 rfl hl (by decide) rfl (fun ls hl => ?_)
  have loop : ∀ (k : Nat) (fr i : Int32) (ls : Array Slot), k ≤ 64 → i = nI k - 1 → (fr = -1 ∨ ∃ j, j < 64 ∧ fr = nI j) → sS_loop (wOf sl wv) (wv b) k fr = sS_loop (wOf sl wv) (wv b) 64 (-1) → lv_has ls 5 [(3, .int i), (2, .int fr), (0, .ref a), (1, .ref b)] → W p l e (headSpec (wm yS_add kS_add 5 (some .int)) ({ frames := 3, cells := 0, slots := 0, locals := 68 })).room s m ([.ref a, .ref b] : List Value).toArray below meth c s.heap [] (0) (0) (MQ below (va_Qi (fun (r : Int32) (_u : Unit) => r = sS_add (wOf sl wv) (wv b)) (rB g A (fun _u => (wsX g a q (slAdd sl (sS_add (wOf sl wv) (wv b)) b) (if sS_add (wOf sl wv) (wv b) = -1 then cnt else cnt + 1) ++ plW LW wv))) A) ([.ref a, .ref b] : List Value).toArray s 0 0 A) (F0 m 5 ls []) := by
    intro k
    induction k with
    | zero =>
      intro fr i ls hk hi hfr hS1 hl
      refine lv_iload_n hx hb dS_add_5 rfl (lv_at hl 0 rfl) ?_
      refine lv_if_lt (tgt := 44) hx hb dS_add_6 (by decide) (fun c_1 => ?_) (fun c_1 => ?_)
      · skip
        refine lv_iload_n hx hb dS_add_44 rfl (lv_at hl 1 rfl) ?_
        refine lv_iconst (v := -1) hx hb dS_add_45 (by decide) ?_
        refine lv_icmp_eq (tgt := 66) hx hb dS_add_46 (by decide) (fun c_2 => ?_) (fun c_2 => ?_)
        · skip
          refine lv_iload_n hx hb dS_add_66 rfl (lv_at hl 1 rfl) ?_
          have hR : sS_add (wOf sl wv) (wv b) = fr := by rw [sS_add, ← hS1]; rfl
          have hR1 : sS_add (wOf sl wv) (wv b) = -1 := hR.trans c_2
          have hP9 : va_P g.1 vwCl (wsX g a q (slAdd sl (sS_add (wOf sl wv) (wv b)) b) (if sS_add (wOf sl wv) (wv b) = -1 then cnt else cnt + 1) ++ plW LW wv) s.heap := by rw [slAdd, if_pos hR1, if_pos hR1]; exact hP
          have hD9 : va_D A (wsX g a q (slAdd sl (sS_add (wOf sl wv) (wv b)) b) (if sS_add (wOf sl wv) (wv b) = -1 then cnt else cnt + 1) ++ plW LW wv) := by rw [slAdd, if_pos hR1, if_pos hR1]; exact hD
          exact W.iret hx hb hr (fun t ht9 hW => ⟨⟨_, (), rfl, hR.symm, by rw [ht9]; exact hP9, hD9⟩, hS.F ht9⟩) hS.2.2 dS_add_67
        · skip
          obtain ⟨j, hj, hfj⟩ : ∃ j, j < 64 ∧ fr = nI j := by rcases hfr with h | h; exact absurd h c_2; exact h
          have hfi : vp_in fr 64 := by rw [hfj]; exact vp_in_nI hj (by decide)
          obtain ⟨kb, hkb⟩ := va_pl_get (X := wsX g a q sl cnt) (f := fun x => wE (wv x)) hbL
          refine lv_aload_n hx hb dS_add_49 rfl (lv_at hl 2 rfl) ?_
          refine va_get (D := g.1) (ci := 3) (v := .ref q) (C := "NodeMaker$Walls") (T := Fd_S) (N := 2) hx hb ht i_S hown hK.1 hP 0 rfl rfl 0 (by decide) (ht _ q_66) (fun _ h9 => h9) rfl dS_add_50 ?_
          refine lv_iload_n hx hb dS_add_53 rfl (lv_at hl 1 rfl) ?_
          refine lv_aload_n hx hb dS_add_54 rfl (lv_at hl 3 rfl) ?_
          refine va_astq hx hb hK.1 hP hD hS 1 1 kb 2 (r := ("NodeMaker$Wall", Fd_W, 4)) rfl rfl hkb rfl (hfi) dS_add_55 (fun H locs hP hD hS => ?_)
          have hP : va_P g.1 vwCl ([(a, .inr (3, [.ref q, .int cnt])), (q, .inl (g.2 1, 64, .inr (.inr (.inr (.inr (va_up sl fr.toNatClampNeg (some b)))))))] ++ plW LW wv) H := hP
          have hD : va_D A ([(a, .inr (3, [.ref q, .int cnt])), (q, .inl (g.2 1, 64, .inr (.inr (.inr (.inr (va_up sl fr.toNatClampNeg (some b)))))))] ++ plW LW wv) := hD
          refine lv_aload_n hx hb dS_add_56 rfl (lv_at hl 2 rfl) ?_
          refine lv_dup hx hb dS_add_57 rfl ?_
          refine va_get (D := g.1) (ci := 3) (v := .int cnt) (C := "NodeMaker$Walls") (T := Fd_S) (N := 2) hx hb ht i_S hown hK.1 hP 0 rfl rfl 1 (by decide) (ht _ q_67) (fun _ h9 => h9) rfl dS_add_58 ?_
          refine lv_iconst (v := 1) hx hb dS_add_61 (by decide) ?_
          refine lv_iadd hx hb dS_add_62 ?_
          refine va_put (D := g.1) (ci := 3) (v := .int (cnt + 1)) (ty := .int) (C := "NodeMaker$Walls") (T := Fd_S) (N := 2) hx hb ht i_S ty_S ty_S_ok nm_S hown hK.1 hP hD hS 0 rfl rfl 1 (by decide) (ht _ q_67) (fun _ h9 => h9) rfl (by decide +kernel) rfl rfl (Nat.le_of_ble_eq_true rfl) dS_add_63 (fun H locs hP hD hS => ?_)
          have hP : va_P g.1 vwCl ([(a, .inr (3, [.ref q, .int (cnt + 1)])), (q, .inl (g.2 1, 64, .inr (.inr (.inr (.inr (va_up sl fr.toNatClampNeg (some b)))))))] ++ plW LW wv) H := hP
          have hD : va_D A ([(a, .inr (3, [.ref q, .int (cnt + 1)])), (q, .inl (g.2 1, 64, .inr (.inr (.inr (.inr (va_up sl fr.toNatClampNeg (some b)))))))] ++ plW LW wv) := hD
          refine lv_iload_n hx hb dS_add_66 rfl (lv_at hl 1 rfl) ?_
          have hR : sS_add (wOf sl wv) (wv b) = fr := by rw [sS_add, ← hS1]; rfl
          have hR1 : ¬ sS_add (wOf sl wv) (wv b) = -1 := by rw [hR]; exact c_2
          have hP9 : va_P g.1 vwCl (wsX g a q (slAdd sl (sS_add (wOf sl wv) (wv b)) b) (if sS_add (wOf sl wv) (wv b) = -1 then cnt else cnt + 1) ++ plW LW wv) H := by rw [slAdd, if_neg hR1, if_neg hR1, hR]; exact hP
          have hD9 : va_D A (wsX g a q (slAdd sl (sS_add (wOf sl wv) (wv b)) b) (if sS_add (wOf sl wv) (wv b) = -1 then cnt else cnt + 1) ++ plW LW wv) := by rw [slAdd, if_neg hR1, if_neg hR1, hR]; exact hD
          exact W.iret hx hb hr (fun t ht9 hW => ⟨⟨_, (), rfl, hR.symm, by rw [ht9]; exact hP9, hD9⟩, hS.F ht9⟩) hS.2.2 dS_add_67
      · skip
        exact absurd (by rw [hi]; decide) c_1
    | succ k ih =>
      intro fr i ls hk hi hfr hS1 hl
      have hik : i = nI k := hi.trans (nI_pred k)
      refine lv_iload_n hx hb dS_add_5 rfl (lv_at hl 0 rfl) ?_
      refine lv_if_lt (tgt := 44) hx hb dS_add_6 (by decide) (fun c_3 => ?_) (fun c_3 => ?_)
      · skip
        exact absurd c_3 (by rw [hik]; exact nI_pos (by omega))
      · skip
        refine lv_aload_n hx hb dS_add_9 rfl (lv_at hl 2 rfl) ?_
        refine va_get (D := g.1) (ci := 3) (v := .ref q) (C := "NodeMaker$Walls") (T := Fd_S) (N := 2) hx hb ht i_S hown hK.1 hP 0 rfl rfl 0 (by decide) (ht _ q_66) (fun _ h9 => h9) rfl dS_add_10 ?_
        refine lv_iload_n hx hb dS_add_13 rfl (lv_at hl 0 rfl) ?_
        refine va_aldq hx hb hK.1 hP 1 1 rfl rfl (by rw [hik]; exact vp_in_nI (by omega) (by decide)) dS_add_14 ?_
        rcases ho : sl i.toNatClampNeg with _ | x
        · skip
          refine W.eq (g2 := F0 m 15 ls [.null]) rfl ?_
          have hox : wOf sl wv k = none := by show (sl k).map wv = none; rw [hik, nI_clamp (by omega)] at ho; rw [ho]; rfl
          refine lv_astoreN (lv' := [(4, .null), (3, .int i), (2, .int fr), (0, .ref a), (1, .ref b)]) hx hb dS_add_15 hl (by decide) rfl (fun ls hl => ?_)
          refine lv_aloadN hx hb dS_add_17 (lv_at hl 0 rfl) ?_
          refine lv_ifnonnullN hx hb dS_add_19 ?_
          refine lv_iload_n hx hb dS_add_22 rfl (lv_at hl 1 rfl) ?_
          refine lv_istore_n (lv' := [(2, .int i), (4, .null), (3, .int i), (0, .ref a), (1, .ref b)]) hx hb dS_add_23 rfl hl (by decide) rfl (fun ls hl => ?_)
          refine lv_goto (tgt := 38) hx hb dS_add_24 (by decide) ?_
          refine lv_iinc (v := i + (-1)) (lv' := [(3, .int (i + (-1))), (2, .int i), (4, .null), (0, .ref a), (1, .ref b)]) hx hb dS_add_38 hl (k := 2) rfl rfl (by decide) rfl (fun ls hl => ?_)
          refine lv_goto (tgt := 5) hx hb dS_add_41 (by decide) ?_
          exact ih i (i + (-1)) ls (by omega) (by rw [hik]; exact (Int32.sub_eq_add_neg _ _).symm) (Or.inr ⟨k, by omega, hik⟩) (by rw [← hS1, sS_none hox, hik]) (lv_sub hl [0, 1, 3, 4] rfl)
        · skip
          refine W.eq (g2 := F0 m 15 ls [.ref x]) rfl ?_
          have hox : wOf sl wv k = some (wv x) := by show (sl k).map wv = some (wv x); rw [hik, nI_clamp (by omega)] at ho; rw [ho]; rfl
          refine lv_astore (lv' := [(4, .ref x), (3, .int i), (2, .int fr), (0, .ref a), (1, .ref b)]) hx hb dS_add_15 hl (by decide) rfl (fun ls hl => ?_)
          refine lv_aload hx hb dS_add_17 (lv_at hl 0 rfl) ?_
          refine lv_ifnonnull (tgt := 27) hx hb dS_add_19 (by decide) ?_
          refine lv_aload hx hb dS_add_27 (lv_at hl 0 rfl) ?_
          refine lv_aload_n hx hb dS_add_29 rfl (lv_at hl 4 rfl) ?_
          have hPc := pl_two hP (hsl _ x ho) hbL
          refine ro_Vi (v := sW_clashes (wv x) (wv b)) (As := [.ref b]) (rest := []) ⟨hx, hb, hml, hown, ht⟩ (cW_clashes l g x (wv x) b (wv b)) (cwV 1 ht (g_V q_209 q_210 q_211 q_40 q_212) rfl rfl rfl hd_W_clashes ⟨Nat.le_of_ble_eq_true rfl, Nat.le_of_ble_eq_true rfl⟩) hK (hPc) (va_recv hK.1 hPc (ci := 2) (q0 := 0) rfl rfl) rfl hl.1 rfl (Nat.le_of_ble_eq_true rfl) dS_add_30 ⟨by show 0 ≤ 0; omega, by show 0 ≤ 0; omega⟩ ?_
          refine lv_if_eq (tgt := 38) hx hb dS_add_33 (by decide) (fun c_4 => ?_) (fun c_4 => ?_)
          · skip
            have hcl := c_4
            refine lv_iinc (v := i + (-1)) (lv' := [(3, .int (i + (-1))), (4, .ref x), (2, .int fr), (0, .ref a), (1, .ref b)]) hx hb dS_add_38 hl (k := 1) rfl rfl (by decide) rfl (fun ls hl => ?_)
            refine lv_goto (tgt := 5) hx hb dS_add_41 (by decide) ?_
            exact ih fr (i + (-1)) ls (by omega) (by rw [hik]; exact (Int32.sub_eq_add_neg _ _).symm) (hfr) (by rw [← hS1, sS_some hox, if_pos hcl]) (lv_sub hl [0, 2, 3, 4] rfl)
          · skip
            refine lv_iconst (v := -1) hx hb dS_add_36 (by decide) ?_
            have hR : sS_add (wOf sl wv) (wv b) = -1 := by rw [sS_add, ← hS1, sS_some hox, if_neg c_4]; rfl
            have hR1 := hR
            have hP9 : va_P g.1 vwCl (wsX g a q (slAdd sl (sS_add (wOf sl wv) (wv b)) b) (if sS_add (wOf sl wv) (wv b) = -1 then cnt else cnt + 1) ++ plW LW wv) s.heap := by rw [slAdd, if_pos hR1, if_pos hR1]; exact hP
            have hD9 : va_D A (wsX g a q (slAdd sl (sS_add (wOf sl wv) (wv b)) b) (if sS_add (wOf sl wv) (wv b) = -1 then cnt else cnt + 1) ++ plW LW wv) := by rw [slAdd, if_pos hR1, if_pos hR1]; exact hD
            exact W.iret hx hb hr (fun t ht9 hW => ⟨⟨_, (), rfl, hR.symm, by rw [ht9]; exact hP9, hD9⟩, hS.F ht9⟩) hS.2.2 dS_add_37
  exact loop 64 (-1) 63 ls (by omega) rfl (Or.inl rfl) rfl (lv_sub hl [0, 1, 2, 3] rfl)
