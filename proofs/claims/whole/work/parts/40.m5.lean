def mV (k : Nat) (v : Int32) (m : MSt) : MSt := (va_up m.1 k v, m.2)
def mI (k : Nat) (i v : Int32) (m : MSt) : MSt := (m.1, va_up m.2.1 k (upd (m.2.1 k) i.toNatClampNeg v), m.2.2)
def mJ (k : Nat) (i : Int32) (v : Int64) (m : MSt) : MSt := (m.1, m.2.1, va_up m.2.2 k (vp_updL (m.2.2 k) i.toNatClampNeg v))

def sM_piece (mz : MSt) (w9 : Int32) (up : Int64) (lo : Int64) (tu : Int64) (tl : Int64) : Option (MSt × Int32) :=
  if vpin (mz.1 13) 8300 then
    if vpin ((mI 8 (mz.1 13) w9 mz).1 13) 8300 then
      if vpin ((mJ 9 ((mI 8 (mz.1 13) w9 mz).1 13) up (mI 8 (mz.1 13) w9 mz)).1 13) 8300 then
        if vpin ((mJ 10 ((mJ 9 ((mI 8 (mz.1 13) w9 mz).1 13) up (mI 8 (mz.1 13) w9 mz)).1 13) lo (mJ 9 ((mI 8 (mz.1 13) w9 mz).1 13) up (mI 8 (mz.1 13) w9 mz))).1 13) 8300 then
          if vpin ((mJ 11 ((mJ 10 ((mJ 9 ((mI 8 (mz.1 13) w9 mz).1 13) up (mI 8 (mz.1 13) w9 mz)).1 13) lo (mJ 9 ((mI 8 (mz.1 13) w9 mz).1 13) up (mI 8 (mz.1 13) w9 mz))).1 13) tu (mJ 10 ((mJ 9 ((mI 8 (mz.1 13) w9 mz).1 13) up (mI 8 (mz.1 13) w9 mz)).1 13) lo (mJ 9 ((mI 8 (mz.1 13) w9 mz).1 13) up (mI 8 (mz.1 13) w9 mz)))).1 13) 8300 then
            some (mV 13 (((mJ 12 ((mJ 11 ((mJ 10 ((mJ 9 ((mI 8 (mz.1 13) w9 mz).1 13) up (mI 8 (mz.1 13) w9 mz)).1 13) lo (mJ 9 ((mI 8 (mz.1 13) w9 mz).1 13) up (mI 8 (mz.1 13) w9 mz))).1 13) tu (mJ 10 ((mJ 9 ((mI 8 (mz.1 13) w9 mz).1 13) up (mI 8 (mz.1 13) w9 mz)).1 13) lo (mJ 9 ((mI 8 (mz.1 13) w9 mz).1 13) up (mI 8 (mz.1 13) w9 mz)))).1 13) tl (mJ 11 ((mJ 10 ((mJ 9 ((mI 8 (mz.1 13) w9 mz).1 13) up (mI 8 (mz.1 13) w9 mz)).1 13) lo (mJ 9 ((mI 8 (mz.1 13) w9 mz).1 13) up (mI 8 (mz.1 13) w9 mz))).1 13) tu (mJ 10 ((mJ 9 ((mI 8 (mz.1 13) w9 mz).1 13) up (mI 8 (mz.1 13) w9 mz)).1 13) lo (mJ 9 ((mI 8 (mz.1 13) w9 mz).1 13) up (mI 8 (mz.1 13) w9 mz))))).1 13) + 1) (mJ 12 ((mJ 11 ((mJ 10 ((mJ 9 ((mI 8 (mz.1 13) w9 mz).1 13) up (mI 8 (mz.1 13) w9 mz)).1 13) lo (mJ 9 ((mI 8 (mz.1 13) w9 mz).1 13) up (mI 8 (mz.1 13) w9 mz))).1 13) tu (mJ 10 ((mJ 9 ((mI 8 (mz.1 13) w9 mz).1 13) up (mI 8 (mz.1 13) w9 mz)).1 13) lo (mJ 9 ((mI 8 (mz.1 13) w9 mz).1 13) up (mI 8 (mz.1 13) w9 mz)))).1 13) tl (mJ 11 ((mJ 10 ((mJ 9 ((mI 8 (mz.1 13) w9 mz).1 13) up (mI 8 (mz.1 13) w9 mz)).1 13) lo (mJ 9 ((mI 8 (mz.1 13) w9 mz).1 13) up (mI 8 (mz.1 13) w9 mz))).1 13) tu (mJ 10 ((mJ 9 ((mI 8 (mz.1 13) w9 mz).1 13) up (mI 8 (mz.1 13) w9 mz)).1 13) lo (mJ 9 ((mI 8 (mz.1 13) w9 mz).1 13) up (mI 8 (mz.1 13) w9 mz))))), (((mV 13 (((mJ 12 ((mJ 11 ((mJ 10 ((mJ 9 ((mI 8 (mz.1 13) w9 mz).1 13) up (mI 8 (mz.1 13) w9 mz)).1 13) lo (mJ 9 ((mI 8 (mz.1 13) w9 mz).1 13) up (mI 8 (mz.1 13) w9 mz))).1 13) tu (mJ 10 ((mJ 9 ((mI 8 (mz.1 13) w9 mz).1 13) up (mI 8 (mz.1 13) w9 mz)).1 13) lo (mJ 9 ((mI 8 (mz.1 13) w9 mz).1 13) up (mI 8 (mz.1 13) w9 mz)))).1 13) tl (mJ 11 ((mJ 10 ((mJ 9 ((mI 8 (mz.1 13) w9 mz).1 13) up (mI 8 (mz.1 13) w9 mz)).1 13) lo (mJ 9 ((mI 8 (mz.1 13) w9 mz).1 13) up (mI 8 (mz.1 13) w9 mz))).1 13) tu (mJ 10 ((mJ 9 ((mI 8 (mz.1 13) w9 mz).1 13) up (mI 8 (mz.1 13) w9 mz)).1 13) lo (mJ 9 ((mI 8 (mz.1 13) w9 mz).1 13) up (mI 8 (mz.1 13) w9 mz))))).1 13) + 1) (mJ 12 ((mJ 11 ((mJ 10 ((mJ 9 ((mI 8 (mz.1 13) w9 mz).1 13) up (mI 8 (mz.1 13) w9 mz)).1 13) lo (mJ 9 ((mI 8 (mz.1 13) w9 mz).1 13) up (mI 8 (mz.1 13) w9 mz))).1 13) tu (mJ 10 ((mJ 9 ((mI 8 (mz.1 13) w9 mz).1 13) up (mI 8 (mz.1 13) w9 mz)).1 13) lo (mJ 9 ((mI 8 (mz.1 13) w9 mz).1 13) up (mI 8 (mz.1 13) w9 mz)))).1 13) tl (mJ 11 ((mJ 10 ((mJ 9 ((mI 8 (mz.1 13) w9 mz).1 13) up (mI 8 (mz.1 13) w9 mz)).1 13) lo (mJ 9 ((mI 8 (mz.1 13) w9 mz).1 13) up (mI 8 (mz.1 13) w9 mz))).1 13) tu (mJ 10 ((mJ 9 ((mI 8 (mz.1 13) w9 mz).1 13) up (mI 8 (mz.1 13) w9 mz)).1 13) lo (mJ 9 ((mI 8 (mz.1 13) w9 mz).1 13) up (mI 8 (mz.1 13) w9 mz)))))).1 13) - 1))
          else
            none
        else
          none
      else
        none
    else
      none
  else
    none
set_option maxHeartbeats 4000000 in
set_option maxRecDepth 100000 in
theorem cM_piece (l : Launch) (g : CX) (sz : Nat) (aM : Nat) (b : Nat → Nat) (mz : MSt) (w9 : Int32) (up : Int64) (lo : Int64) (tu : Int64) (tl : Int64) (r0 : MSt × Int32) (hok : sM_piece mz w9 up lo tu tl = some r0) : Met l yM_piece (wm yM_piece kM_piece 10 (some .int)) ({ frames := 0, cells := 0, slots := 0, locals := 0 }) (rw g [.ref aM, .int w9, .long up, .long lo, .long tu, .long tl] (mX g aM b mz) sz) (va_Qi (fun (r : Int32) (_u : Unit) => r = r0.2) (rB g (va_A (mX g aM b mz) sz) (fun _u => (mX g aM b r0.1))) (va_A (mX g aM b mz) sz)) 0 0 (va_A (mX g aM b mz) sz) := by
  refine Met.ofW (cc := kM_piece) (maxL := 10) (ret := (some .int)) (by decide) rfl ?_
  intro p e s m args below meth c s₁ B hml hv
  obtain ⟨rfl, hsz, hK, hP, hD0⟩ := hv
  have hx := B.exec
  have hb := B.bytes
  have hr := B.returns
  have ht : ∀ w ∈ wT, w.before _ s = true := fun w h => atoms_spec (ws := wm yM_piece kM_piece 10 (some .int)) B.pre w (List.mem_cons_of_mem _ h)
  have hown : s.vm.findClass "NodeMakerModel" = some m.cls := findClass_of_methodNamed B.named
  have hlocks := B.notSynchronized
  subst hsz
  have hD := hD0.self (sz := s.heap.size)
  generalize hAe : va_A (mX g aM b mz) s.heap.size = A at hD ⊢
  have hA : ∀ q : Nat, s.heap.size ≤ q → A q := fun q h => by rw [← hAe]; exact Or.inr h
  have hS : va_S A s.heap s.heap [] := va_S.rf
  have hl := lv_entry ([.ref aM, .int w9, .long up, .long lo, .long tu, .long tl]) (n := 10) (Nat.le_of_ble_eq_true rfl)
  rw [lg_entry_eq]
  generalize (lg_sl ([.ref aM, .int w9, .long up, .long lo, .long tu, .long tl]) ++ List.replicate (10 - (lg_sl ([.ref aM, .int w9, .long up, .long lo, .long tu, .long tl])).length) Slot.unset).toArray = ls at hl ⊢
  have hl : lv_has ls 10 [(0, .ref aM), (1, .int w9), (2, .long up), (4, .long lo), (6, .long tu), (8, .long tl)] := hl
  refine lv_aload_n hx hb dM_piece_0 rfl (lv_at hl 0 rfl) ?_
  refine va_get (D := g.1) (ci := 6) (v := .ref (b 8)) (C := "NodeMakerModel") (T := Fd_M) (N := 37) hx hb ht i_M hown hK.1 hP 0 rfl rfl 8 (by decide) (ht _ q_533) (fun _ h9 => h9) rfl dM_piece_1 ?_
  refine lv_aload_n hx hb dM_piece_4 rfl (lv_at hl 0 rfl) ?_
  refine va_get (D := g.1) (ci := 6) (v := .int (mz.1 13)) (C := "NodeMakerModel") (T := Fd_M) (N := 37) hx hb ht i_M hown hK.1 hP 0 rfl rfl 13 (by decide) (ht _ q_538) (fun _ h9 => h9) rfl dM_piece_5 ?_
  refine lv_iload_n hx hb dM_piece_8 rfl (lv_at hl 1 rfl) ?_
  have h_1 : vpin (mz.1 13) 8300 := Decidable.byContradiction (fun h9 => by simp only [sM_piece, if_neg h9] at hok; cases hok)
  refine va_iast hx hb hK.1 hP hD hS 6 0 rfl rfl (vp_in_iff.mpr h_1) dM_piece_9 (fun H locs hP hD hS => ?_)
  have hP : va_P g.1 vwCl (mX g aM b (mI 8 (mz.1 13) w9 mz)) H := hP
  have hD : va_D A (mX g aM b (mI 8 (mz.1 13) w9 mz)) := hD
  refine lv_aload_n hx hb dM_piece_10 rfl (lv_at hl 0 rfl) ?_
  refine va_get (D := g.1) (ci := 6) (v := .ref (b 9)) (C := "NodeMakerModel") (T := Fd_M) (N := 37) hx hb ht i_M hown hK.1 hP 0 rfl rfl 9 (by decide) (ht _ q_534) (fun _ h9 => h9) rfl dM_piece_11 ?_
  refine lv_aload_n hx hb dM_piece_14 rfl (lv_at hl 0 rfl) ?_
  refine va_get (D := g.1) (ci := 6) (v := .int ((mI 8 (mz.1 13) w9 mz).1 13)) (C := "NodeMakerModel") (T := Fd_M) (N := 37) hx hb ht i_M hown hK.1 hP 0 rfl rfl 13 (by decide) (ht _ q_538) (fun _ h9 => h9) rfl dM_piece_15 ?_
  refine lv_lload_n hx hb dM_piece_18 rfl (lv_at hl 2 rfl) ?_
  have h_2 : vpin ((mI 8 (mz.1 13) w9 mz).1 13) 8300 := Decidable.byContradiction (fun h9 => by simp only [sM_piece, if_pos h_1, if_neg h9] at hok; cases hok)
  refine va_last hx hb hK.1 hP hD hS 7 2 rfl rfl (vp_in_iff.mpr h_2) dM_piece_19 (fun H locs hP hD hS => ?_)
  have hP : va_P g.1 vwCl (mX g aM b (mJ 9 ((mI 8 (mz.1 13) w9 mz).1 13) up (mI 8 (mz.1 13) w9 mz))) H := hP
  have hD : va_D A (mX g aM b (mJ 9 ((mI 8 (mz.1 13) w9 mz).1 13) up (mI 8 (mz.1 13) w9 mz))) := hD
  refine lv_aload_n hx hb dM_piece_20 rfl (lv_at hl 0 rfl) ?_
  refine va_get (D := g.1) (ci := 6) (v := .ref (b 10)) (C := "NodeMakerModel") (T := Fd_M) (N := 37) hx hb ht i_M hown hK.1 hP 0 rfl rfl 10 (by decide) (ht _ q_535) (fun _ h9 => h9) rfl dM_piece_21 ?_
  refine lv_aload_n hx hb dM_piece_24 rfl (lv_at hl 0 rfl) ?_
  refine va_get (D := g.1) (ci := 6) (v := .int ((mJ 9 ((mI 8 (mz.1 13) w9 mz).1 13) up (mI 8 (mz.1 13) w9 mz)).1 13)) (C := "NodeMakerModel") (T := Fd_M) (N := 37) hx hb ht i_M hown hK.1 hP 0 rfl rfl 13 (by decide) (ht _ q_538) (fun _ h9 => h9) rfl dM_piece_25 ?_
  refine lv_lload hx hb dM_piece_28 (lv_at hl 3 rfl) ?_
  have h_3 : vpin ((mJ 9 ((mI 8 (mz.1 13) w9 mz).1 13) up (mI 8 (mz.1 13) w9 mz)).1 13) 8300 := Decidable.byContradiction (fun h9 => by simp only [sM_piece, if_pos h_1, if_pos h_2, if_neg h9] at hok; cases hok)
  refine va_last hx hb hK.1 hP hD hS 8 2 rfl rfl (vp_in_iff.mpr h_3) dM_piece_30 (fun H locs hP hD hS => ?_)
  have hP : va_P g.1 vwCl (mX g aM b (mJ 10 ((mJ 9 ((mI 8 (mz.1 13) w9 mz).1 13) up (mI 8 (mz.1 13) w9 mz)).1 13) lo (mJ 9 ((mI 8 (mz.1 13) w9 mz).1 13) up (mI 8 (mz.1 13) w9 mz)))) H := hP
  have hD : va_D A (mX g aM b (mJ 10 ((mJ 9 ((mI 8 (mz.1 13) w9 mz).1 13) up (mI 8 (mz.1 13) w9 mz)).1 13) lo (mJ 9 ((mI 8 (mz.1 13) w9 mz).1 13) up (mI 8 (mz.1 13) w9 mz)))) := hD
  refine lv_aload_n hx hb dM_piece_31 rfl (lv_at hl 0 rfl) ?_
  refine va_get (D := g.1) (ci := 6) (v := .ref (b 11)) (C := "NodeMakerModel") (T := Fd_M) (N := 37) hx hb ht i_M hown hK.1 hP 0 rfl rfl 11 (by decide) (ht _ q_536) (fun _ h9 => h9) rfl dM_piece_32 ?_
  refine lv_aload_n hx hb dM_piece_35 rfl (lv_at hl 0 rfl) ?_
  refine va_get (D := g.1) (ci := 6) (v := .int ((mJ 10 ((mJ 9 ((mI 8 (mz.1 13) w9 mz).1 13) up (mI 8 (mz.1 13) w9 mz)).1 13) lo (mJ 9 ((mI 8 (mz.1 13) w9 mz).1 13) up (mI 8 (mz.1 13) w9 mz))).1 13)) (C := "NodeMakerModel") (T := Fd_M) (N := 37) hx hb ht i_M hown hK.1 hP 0 rfl rfl 13 (by decide) (ht _ q_538) (fun _ h9 => h9) rfl dM_piece_36 ?_
  refine lv_lload hx hb dM_piece_39 (lv_at hl 4 rfl) ?_
  have h_4 : vpin ((mJ 10 ((mJ 9 ((mI 8 (mz.1 13) w9 mz).1 13) up (mI 8 (mz.1 13) w9 mz)).1 13) lo (mJ 9 ((mI 8 (mz.1 13) w9 mz).1 13) up (mI 8 (mz.1 13) w9 mz))).1 13) 8300 := Decidable.byContradiction (fun h9 => by simp only [sM_piece, if_pos h_1, if_pos h_2, if_pos h_3, if_neg h9] at hok; cases hok)
  refine va_last hx hb hK.1 hP hD hS 9 2 rfl rfl (vp_in_iff.mpr h_4) dM_piece_41 (fun H locs hP hD hS => ?_)
  have hP : va_P g.1 vwCl (mX g aM b (mJ 11 ((mJ 10 ((mJ 9 ((mI 8 (mz.1 13) w9 mz).1 13) up (mI 8 (mz.1 13) w9 mz)).1 13) lo (mJ 9 ((mI 8 (mz.1 13) w9 mz).1 13) up (mI 8 (mz.1 13) w9 mz))).1 13) tu (mJ 10 ((mJ 9 ((mI 8 (mz.1 13) w9 mz).1 13) up (mI 8 (mz.1 13) w9 mz)).1 13) lo (mJ 9 ((mI 8 (mz.1 13) w9 mz).1 13) up (mI 8 (mz.1 13) w9 mz))))) H := hP
  have hD : va_D A (mX g aM b (mJ 11 ((mJ 10 ((mJ 9 ((mI 8 (mz.1 13) w9 mz).1 13) up (mI 8 (mz.1 13) w9 mz)).1 13) lo (mJ 9 ((mI 8 (mz.1 13) w9 mz).1 13) up (mI 8 (mz.1 13) w9 mz))).1 13) tu (mJ 10 ((mJ 9 ((mI 8 (mz.1 13) w9 mz).1 13) up (mI 8 (mz.1 13) w9 mz)).1 13) lo (mJ 9 ((mI 8 (mz.1 13) w9 mz).1 13) up (mI 8 (mz.1 13) w9 mz))))) := hD
  refine lv_aload_n hx hb dM_piece_42 rfl (lv_at hl 0 rfl) ?_
  refine va_get (D := g.1) (ci := 6) (v := .ref (b 12)) (C := "NodeMakerModel") (T := Fd_M) (N := 37) hx hb ht i_M hown hK.1 hP 0 rfl rfl 12 (by decide) (ht _ q_537) (fun _ h9 => h9) rfl dM_piece_43 ?_
  refine lv_aload_n hx hb dM_piece_46 rfl (lv_at hl 0 rfl) ?_
  refine va_get (D := g.1) (ci := 6) (v := .int ((mJ 11 ((mJ 10 ((mJ 9 ((mI 8 (mz.1 13) w9 mz).1 13) up (mI 8 (mz.1 13) w9 mz)).1 13) lo (mJ 9 ((mI 8 (mz.1 13) w9 mz).1 13) up (mI 8 (mz.1 13) w9 mz))).1 13) tu (mJ 10 ((mJ 9 ((mI 8 (mz.1 13) w9 mz).1 13) up (mI 8 (mz.1 13) w9 mz)).1 13) lo (mJ 9 ((mI 8 (mz.1 13) w9 mz).1 13) up (mI 8 (mz.1 13) w9 mz)))).1 13)) (C := "NodeMakerModel") (T := Fd_M) (N := 37) hx hb ht i_M hown hK.1 hP 0 rfl rfl 13 (by decide) (ht _ q_538) (fun _ h9 => h9) rfl dM_piece_47 ?_
  refine lv_lload hx hb dM_piece_50 (lv_at hl 5 rfl) ?_
  have h_5 : vpin ((mJ 11 ((mJ 10 ((mJ 9 ((mI 8 (mz.1 13) w9 mz).1 13) up (mI 8 (mz.1 13) w9 mz)).1 13) lo (mJ 9 ((mI 8 (mz.1 13) w9 mz).1 13) up (mI 8 (mz.1 13) w9 mz))).1 13) tu (mJ 10 ((mJ 9 ((mI 8 (mz.1 13) w9 mz).1 13) up (mI 8 (mz.1 13) w9 mz)).1 13) lo (mJ 9 ((mI 8 (mz.1 13) w9 mz).1 13) up (mI 8 (mz.1 13) w9 mz)))).1 13) 8300 := Decidable.byContradiction (fun h9 => by simp only [sM_piece, if_pos h_1, if_pos h_2, if_pos h_3, if_pos h_4, if_neg h9] at hok; cases hok)
  refine va_last hx hb hK.1 hP hD hS 10 2 rfl rfl (vp_in_iff.mpr h_5) dM_piece_52 (fun H locs hP hD hS => ?_)
  have hP : va_P g.1 vwCl (mX g aM b (mJ 12 ((mJ 11 ((mJ 10 ((mJ 9 ((mI 8 (mz.1 13) w9 mz).1 13) up (mI 8 (mz.1 13) w9 mz)).1 13) lo (mJ 9 ((mI 8 (mz.1 13) w9 mz).1 13) up (mI 8 (mz.1 13) w9 mz))).1 13) tu (mJ 10 ((mJ 9 ((mI 8 (mz.1 13) w9 mz).1 13) up (mI 8 (mz.1 13) w9 mz)).1 13) lo (mJ 9 ((mI 8 (mz.1 13) w9 mz).1 13) up (mI 8 (mz.1 13) w9 mz)))).1 13) tl (mJ 11 ((mJ 10 ((mJ 9 ((mI 8 (mz.1 13) w9 mz).1 13) up (mI 8 (mz.1 13) w9 mz)).1 13) lo (mJ 9 ((mI 8 (mz.1 13) w9 mz).1 13) up (mI 8 (mz.1 13) w9 mz))).1 13) tu (mJ 10 ((mJ 9 ((mI 8 (mz.1 13) w9 mz).1 13) up (mI 8 (mz.1 13) w9 mz)).1 13) lo (mJ 9 ((mI 8 (mz.1 13) w9 mz).1 13) up (mI 8 (mz.1 13) w9 mz)))))) H := hP
  have hD : va_D A (mX g aM b (mJ 12 ((mJ 11 ((mJ 10 ((mJ 9 ((mI 8 (mz.1 13) w9 mz).1 13) up (mI 8 (mz.1 13) w9 mz)).1 13) lo (mJ 9 ((mI 8 (mz.1 13) w9 mz).1 13) up (mI 8 (mz.1 13) w9 mz))).1 13) tu (mJ 10 ((mJ 9 ((mI 8 (mz.1 13) w9 mz).1 13) up (mI 8 (mz.1 13) w9 mz)).1 13) lo (mJ 9 ((mI 8 (mz.1 13) w9 mz).1 13) up (mI 8 (mz.1 13) w9 mz)))).1 13) tl (mJ 11 ((mJ 10 ((mJ 9 ((mI 8 (mz.1 13) w9 mz).1 13) up (mI 8 (mz.1 13) w9 mz)).1 13) lo (mJ 9 ((mI 8 (mz.1 13) w9 mz).1 13) up (mI 8 (mz.1 13) w9 mz))).1 13) tu (mJ 10 ((mJ 9 ((mI 8 (mz.1 13) w9 mz).1 13) up (mI 8 (mz.1 13) w9 mz)).1 13) lo (mJ 9 ((mI 8 (mz.1 13) w9 mz).1 13) up (mI 8 (mz.1 13) w9 mz)))))) := hD
  refine lv_aload_n hx hb dM_piece_53 rfl (lv_at hl 0 rfl) ?_
  refine lv_dup hx hb dM_piece_54 rfl ?_
  refine va_get (D := g.1) (ci := 6) (v := .int ((mJ 12 ((mJ 11 ((mJ 10 ((mJ 9 ((mI 8 (mz.1 13) w9 mz).1 13) up (mI 8 (mz.1 13) w9 mz)).1 13) lo (mJ 9 ((mI 8 (mz.1 13) w9 mz).1 13) up (mI 8 (mz.1 13) w9 mz))).1 13) tu (mJ 10 ((mJ 9 ((mI 8 (mz.1 13) w9 mz).1 13) up (mI 8 (mz.1 13) w9 mz)).1 13) lo (mJ 9 ((mI 8 (mz.1 13) w9 mz).1 13) up (mI 8 (mz.1 13) w9 mz)))).1 13) tl (mJ 11 ((mJ 10 ((mJ 9 ((mI 8 (mz.1 13) w9 mz).1 13) up (mI 8 (mz.1 13) w9 mz)).1 13) lo (mJ 9 ((mI 8 (mz.1 13) w9 mz).1 13) up (mI 8 (mz.1 13) w9 mz))).1 13) tu (mJ 10 ((mJ 9 ((mI 8 (mz.1 13) w9 mz).1 13) up (mI 8 (mz.1 13) w9 mz)).1 13) lo (mJ 9 ((mI 8 (mz.1 13) w9 mz).1 13) up (mI 8 (mz.1 13) w9 mz))))).1 13)) (C := "NodeMakerModel") (T := Fd_M) (N := 37) hx hb ht i_M hown hK.1 hP 0 rfl rfl 13 (by decide) (ht _ q_538) (fun _ h9 => h9) rfl dM_piece_55 ?_
  refine lv_iconst (v := 1) hx hb dM_piece_58 (by decide) ?_
  refine lv_iadd hx hb dM_piece_59 ?_
  refine va_put (D := g.1) (ci := 6) (v := .int (((mJ 12 ((mJ 11 ((mJ 10 ((mJ 9 ((mI 8 (mz.1 13) w9 mz).1 13) up (mI 8 (mz.1 13) w9 mz)).1 13) lo (mJ 9 ((mI 8 (mz.1 13) w9 mz).1 13) up (mI 8 (mz.1 13) w9 mz))).1 13) tu (mJ 10 ((mJ 9 ((mI 8 (mz.1 13) w9 mz).1 13) up (mI 8 (mz.1 13) w9 mz)).1 13) lo (mJ 9 ((mI 8 (mz.1 13) w9 mz).1 13) up (mI 8 (mz.1 13) w9 mz)))).1 13) tl (mJ 11 ((mJ 10 ((mJ 9 ((mI 8 (mz.1 13) w9 mz).1 13) up (mI 8 (mz.1 13) w9 mz)).1 13) lo (mJ 9 ((mI 8 (mz.1 13) w9 mz).1 13) up (mI 8 (mz.1 13) w9 mz))).1 13) tu (mJ 10 ((mJ 9 ((mI 8 (mz.1 13) w9 mz).1 13) up (mI 8 (mz.1 13) w9 mz)).1 13) lo (mJ 9 ((mI 8 (mz.1 13) w9 mz).1 13) up (mI 8 (mz.1 13) w9 mz))))).1 13) + 1)) (ty := .int) (C := "NodeMakerModel") (T := Fd_M) (N := 37) hx hb ht i_M ty_M ty_M_ok nm_M hown hK.1 hP hD hS 0 rfl rfl 13 (by decide) (ht _ q_538) (fun _ h9 => h9) rfl (by decide +kernel) rfl rfl (Nat.le_of_ble_eq_true rfl) dM_piece_60 (fun H locs hP hD hS => ?_)
  have hP : va_P g.1 vwCl (mX g aM b (mV 13 (((mJ 12 ((mJ 11 ((mJ 10 ((mJ 9 ((mI 8 (mz.1 13) w9 mz).1 13) up (mI 8 (mz.1 13) w9 mz)).1 13) lo (mJ 9 ((mI 8 (mz.1 13) w9 mz).1 13) up (mI 8 (mz.1 13) w9 mz))).1 13) tu (mJ 10 ((mJ 9 ((mI 8 (mz.1 13) w9 mz).1 13) up (mI 8 (mz.1 13) w9 mz)).1 13) lo (mJ 9 ((mI 8 (mz.1 13) w9 mz).1 13) up (mI 8 (mz.1 13) w9 mz)))).1 13) tl (mJ 11 ((mJ 10 ((mJ 9 ((mI 8 (mz.1 13) w9 mz).1 13) up (mI 8 (mz.1 13) w9 mz)).1 13) lo (mJ 9 ((mI 8 (mz.1 13) w9 mz).1 13) up (mI 8 (mz.1 13) w9 mz))).1 13) tu (mJ 10 ((mJ 9 ((mI 8 (mz.1 13) w9 mz).1 13) up (mI 8 (mz.1 13) w9 mz)).1 13) lo (mJ 9 ((mI 8 (mz.1 13) w9 mz).1 13) up (mI 8 (mz.1 13) w9 mz))))).1 13) + 1) (mJ 12 ((mJ 11 ((mJ 10 ((mJ 9 ((mI 8 (mz.1 13) w9 mz).1 13) up (mI 8 (mz.1 13) w9 mz)).1 13) lo (mJ 9 ((mI 8 (mz.1 13) w9 mz).1 13) up (mI 8 (mz.1 13) w9 mz))).1 13) tu (mJ 10 ((mJ 9 ((mI 8 (mz.1 13) w9 mz).1 13) up (mI 8 (mz.1 13) w9 mz)).1 13) lo (mJ 9 ((mI 8 (mz.1 13) w9 mz).1 13) up (mI 8 (mz.1 13) w9 mz)))).1 13) tl (mJ 11 ((mJ 10 ((mJ 9 ((mI 8 (mz.1 13) w9 mz).1 13) up (mI 8 (mz.1 13) w9 mz)).1 13) lo (mJ 9 ((mI 8 (mz.1 13) w9 mz).1 13) up (mI 8 (mz.1 13) w9 mz))).1 13) tu (mJ 10 ((mJ 9 ((mI 8 (mz.1 13) w9 mz).1 13) up (mI 8 (mz.1 13) w9 mz)).1 13) lo (mJ 9 ((mI 8 (mz.1 13) w9 mz).1 13) up (mI 8 (mz.1 13) w9 mz))))))) H := hP
  have hD : va_D A (mX g aM b (mV 13 (((mJ 12 ((mJ 11 ((mJ 10 ((mJ 9 ((mI 8 (mz.1 13) w9 mz).1 13) up (mI 8 (mz.1 13) w9 mz)).1 13) lo (mJ 9 ((mI 8 (mz.1 13) w9 mz).1 13) up (mI 8 (mz.1 13) w9 mz))).1 13) tu (mJ 10 ((mJ 9 ((mI 8 (mz.1 13) w9 mz).1 13) up (mI 8 (mz.1 13) w9 mz)).1 13) lo (mJ 9 ((mI 8 (mz.1 13) w9 mz).1 13) up (mI 8 (mz.1 13) w9 mz)))).1 13) tl (mJ 11 ((mJ 10 ((mJ 9 ((mI 8 (mz.1 13) w9 mz).1 13) up (mI 8 (mz.1 13) w9 mz)).1 13) lo (mJ 9 ((mI 8 (mz.1 13) w9 mz).1 13) up (mI 8 (mz.1 13) w9 mz))).1 13) tu (mJ 10 ((mJ 9 ((mI 8 (mz.1 13) w9 mz).1 13) up (mI 8 (mz.1 13) w9 mz)).1 13) lo (mJ 9 ((mI 8 (mz.1 13) w9 mz).1 13) up (mI 8 (mz.1 13) w9 mz))))).1 13) + 1) (mJ 12 ((mJ 11 ((mJ 10 ((mJ 9 ((mI 8 (mz.1 13) w9 mz).1 13) up (mI 8 (mz.1 13) w9 mz)).1 13) lo (mJ 9 ((mI 8 (mz.1 13) w9 mz).1 13) up (mI 8 (mz.1 13) w9 mz))).1 13) tu (mJ 10 ((mJ 9 ((mI 8 (mz.1 13) w9 mz).1 13) up (mI 8 (mz.1 13) w9 mz)).1 13) lo (mJ 9 ((mI 8 (mz.1 13) w9 mz).1 13) up (mI 8 (mz.1 13) w9 mz)))).1 13) tl (mJ 11 ((mJ 10 ((mJ 9 ((mI 8 (mz.1 13) w9 mz).1 13) up (mI 8 (mz.1 13) w9 mz)).1 13) lo (mJ 9 ((mI 8 (mz.1 13) w9 mz).1 13) up (mI 8 (mz.1 13) w9 mz))).1 13) tu (mJ 10 ((mJ 9 ((mI 8 (mz.1 13) w9 mz).1 13) up (mI 8 (mz.1 13) w9 mz)).1 13) lo (mJ 9 ((mI 8 (mz.1 13) w9 mz).1 13) up (mI 8 (mz.1 13) w9 mz))))))) := hD
  refine lv_aload_n hx hb dM_piece_63 rfl (lv_at hl 0 rfl) ?_
  refine va_get (D := g.1) (ci := 6) (v := .int ((mV 13 (((mJ 12 ((mJ 11 ((mJ 10 ((mJ 9 ((mI 8 (mz.1 13) w9 mz).1 13) up (mI 8 (mz.1 13) w9 mz)).1 13) lo (mJ 9 ((mI 8 (mz.1 13) w9 mz).1 13) up (mI 8 (mz.1 13) w9 mz))).1 13) tu (mJ 10 ((mJ 9 ((mI 8 (mz.1 13) w9 mz).1 13) up (mI 8 (mz.1 13) w9 mz)).1 13) lo (mJ 9 ((mI 8 (mz.1 13) w9 mz).1 13) up (mI 8 (mz.1 13) w9 mz)))).1 13) tl (mJ 11 ((mJ 10 ((mJ 9 ((mI 8 (mz.1 13) w9 mz).1 13) up (mI 8 (mz.1 13) w9 mz)).1 13) lo (mJ 9 ((mI 8 (mz.1 13) w9 mz).1 13) up (mI 8 (mz.1 13) w9 mz))).1 13) tu (mJ 10 ((mJ 9 ((mI 8 (mz.1 13) w9 mz).1 13) up (mI 8 (mz.1 13) w9 mz)).1 13) lo (mJ 9 ((mI 8 (mz.1 13) w9 mz).1 13) up (mI 8 (mz.1 13) w9 mz))))).1 13) + 1) (mJ 12 ((mJ 11 ((mJ 10 ((mJ 9 ((mI 8 (mz.1 13) w9 mz).1 13) up (mI 8 (mz.1 13) w9 mz)).1 13) lo (mJ 9 ((mI 8 (mz.1 13) w9 mz).1 13) up (mI 8 (mz.1 13) w9 mz))).1 13) tu (mJ 10 ((mJ 9 ((mI 8 (mz.1 13) w9 mz).1 13) up (mI 8 (mz.1 13) w9 mz)).1 13) lo (mJ 9 ((mI 8 (mz.1 13) w9 mz).1 13) up (mI 8 (mz.1 13) w9 mz)))).1 13) tl (mJ 11 ((mJ 10 ((mJ 9 ((mI 8 (mz.1 13) w9 mz).1 13) up (mI 8 (mz.1 13) w9 mz)).1 13) lo (mJ 9 ((mI 8 (mz.1 13) w9 mz).1 13) up (mI 8 (mz.1 13) w9 mz))).1 13) tu (mJ 10 ((mJ 9 ((mI 8 (mz.1 13) w9 mz).1 13) up (mI 8 (mz.1 13) w9 mz)).1 13) lo (mJ 9 ((mI 8 (mz.1 13) w9 mz).1 13) up (mI 8 (mz.1 13) w9 mz)))))).1 13)) (C := "NodeMakerModel") (T := Fd_M) (N := 37) hx hb ht i_M hown hK.1 hP 0 rfl rfl 13 (by decide) (ht _ q_538) (fun _ h9 => h9) rfl dM_piece_64 ?_
  refine lv_iconst (v := 1) hx hb dM_piece_67 (by decide) ?_
  refine lv_isub hx hb dM_piece_68 ?_
  simp only [sM_piece, if_pos h_1, if_pos h_2, if_pos h_3, if_pos h_4, if_pos h_5] at hok
  have hF := Option.some.inj hok
  subst hF
  exact W.iret hx hb hr (fun t ht9 hW => ⟨⟨_, (), rfl, rfl, by rw [ht9]; exact hP, hD⟩, hS.F ht9⟩) hS.2.2 dM_piece_69

def sM_push (mz : MSt) (be : Int32) (si : Int32) (nd : Int32) (sd : Int32) : Option (MSt) :=
  if vpin (mz.1 20) 140 then
    if vpin ((mI 16 (mz.1 20) be mz).1 20) 140 then
      if vpin ((mI 17 ((mI 16 (mz.1 20) be mz).1 20) si (mI 16 (mz.1 20) be mz)).1 20) 140 then
        if vpin ((mI 18 ((mI 17 ((mI 16 (mz.1 20) be mz).1 20) si (mI 16 (mz.1 20) be mz)).1 20) nd (mI 17 ((mI 16 (mz.1 20) be mz).1 20) si (mI 16 (mz.1 20) be mz))).1 20) 140 then
          some (mV 20 (((mI 19 ((mI 18 ((mI 17 ((mI 16 (mz.1 20) be mz).1 20) si (mI 16 (mz.1 20) be mz)).1 20) nd (mI 17 ((mI 16 (mz.1 20) be mz).1 20) si (mI 16 (mz.1 20) be mz))).1 20) sd (mI 18 ((mI 17 ((mI 16 (mz.1 20) be mz).1 20) si (mI 16 (mz.1 20) be mz)).1 20) nd (mI 17 ((mI 16 (mz.1 20) be mz).1 20) si (mI 16 (mz.1 20) be mz)))).1 20) + 1) (mI 19 ((mI 18 ((mI 17 ((mI 16 (mz.1 20) be mz).1 20) si (mI 16 (mz.1 20) be mz)).1 20) nd (mI 17 ((mI 16 (mz.1 20) be mz).1 20) si (mI 16 (mz.1 20) be mz))).1 20) sd (mI 18 ((mI 17 ((mI 16 (mz.1 20) be mz).1 20) si (mI 16 (mz.1 20) be mz)).1 20) nd (mI 17 ((mI 16 (mz.1 20) be mz).1 20) si (mI 16 (mz.1 20) be mz)))))
        else
          none
      else
        none
    else
      none
  else
    none
set_option maxHeartbeats 4000000 in
set_option maxRecDepth 100000 in
theorem cM_push (l : Launch) (g : CX) (sz : Nat) (aM : Nat) (b : Nat → Nat) (mz : MSt) (be : Int32) (si : Int32) (nd : Int32) (sd : Int32) (r0 : MSt) (hok : sM_push mz be si nd sd = some r0) : Met l yM_push (wm yM_push kM_push 5 none) ({ frames := 0, cells := 0, slots := 0, locals := 0 }) (rw g [.ref aM, .int be, .int si, .int nd, .int sd] (mX g aM b mz) sz) (va_Qv (fun (_u : Unit) => True) (rB g (va_A (mX g aM b mz) sz) (fun _u => (mX g aM b r0))) (va_A (mX g aM b mz) sz)) 0 0 (va_A (mX g aM b mz) sz) := by
  refine Met.ofW (cc := kM_push) (maxL := 5) (ret := none) (by decide) rfl ?_
  intro p e s m args below meth c s₁ B hml hv
  obtain ⟨rfl, hsz, hK, hP, hD0⟩ := hv
  have hx := B.exec
  have hb := B.bytes
  have hr := B.returns
  have ht : ∀ w ∈ wT, w.before _ s = true := fun w h => atoms_spec (ws := wm yM_push kM_push 5 none) B.pre w (List.mem_cons_of_mem _ h)
  have hown : s.vm.findClass "NodeMakerModel" = some m.cls := findClass_of_methodNamed B.named
  have hlocks := B.notSynchronized
  subst hsz
  have hD := hD0.self (sz := s.heap.size)
  generalize hAe : va_A (mX g aM b mz) s.heap.size = A at hD ⊢
  have hA : ∀ q : Nat, s.heap.size ≤ q → A q := fun q h => by rw [← hAe]; exact Or.inr h
  have hS : va_S A s.heap s.heap [] := va_S.rf
  have hl := lv_entry ([.ref aM, .int be, .int si, .int nd, .int sd]) (n := 5) (Nat.le_of_ble_eq_true rfl)
  rw [lg_entry_eq]
  generalize (lg_sl ([.ref aM, .int be, .int si, .int nd, .int sd]) ++ List.replicate (5 - (lg_sl ([.ref aM, .int be, .int si, .int nd, .int sd])).length) Slot.unset).toArray = ls at hl ⊢
  have hl : lv_has ls 5 [(0, .ref aM), (1, .int be), (2, .int si), (3, .int nd), (4, .int sd)] := hl
  refine lv_aload_n hx hb dM_push_0 rfl (lv_at hl 0 rfl) ?_
  refine va_get (D := g.1) (ci := 6) (v := .ref (b 16)) (C := "NodeMakerModel") (T := Fd_M) (N := 37) hx hb ht i_M hown hK.1 hP 0 rfl rfl 16 (by decide) (ht _ q_541) (fun _ h9 => h9) rfl dM_push_1 ?_
  refine lv_aload_n hx hb dM_push_4 rfl (lv_at hl 0 rfl) ?_
  refine va_get (D := g.1) (ci := 6) (v := .int (mz.1 20)) (C := "NodeMakerModel") (T := Fd_M) (N := 37) hx hb ht i_M hown hK.1 hP 0 rfl rfl 20 (by decide) (ht _ q_545) (fun _ h9 => h9) rfl dM_push_5 ?_
  refine lv_iload_n hx hb dM_push_8 rfl (lv_at hl 1 rfl) ?_
  have h_6 : vpin (mz.1 20) 140 := Decidable.byContradiction (fun h9 => by simp only [sM_push, if_neg h9] at hok; cases hok)
  refine va_iast hx hb hK.1 hP hD hS 12 0 rfl rfl (vp_in_iff.mpr h_6) dM_push_9 (fun H locs hP hD hS => ?_)
  have hP : va_P g.1 vwCl (mX g aM b (mI 16 (mz.1 20) be mz)) H := hP
  have hD : va_D A (mX g aM b (mI 16 (mz.1 20) be mz)) := hD
  refine lv_aload_n hx hb dM_push_10 rfl (lv_at hl 0 rfl) ?_
  refine va_get (D := g.1) (ci := 6) (v := .ref (b 17)) (C := "NodeMakerModel") (T := Fd_M) (N := 37) hx hb ht i_M hown hK.1 hP 0 rfl rfl 17 (by decide) (ht _ q_542) (fun _ h9 => h9) rfl dM_push_11 ?_
  refine lv_aload_n hx hb dM_push_14 rfl (lv_at hl 0 rfl) ?_
  refine va_get (D := g.1) (ci := 6) (v := .int ((mI 16 (mz.1 20) be mz).1 20)) (C := "NodeMakerModel") (T := Fd_M) (N := 37) hx hb ht i_M hown hK.1 hP 0 rfl rfl 20 (by decide) (ht _ q_545) (fun _ h9 => h9) rfl dM_push_15 ?_
  refine lv_iload_n hx hb dM_push_18 rfl (lv_at hl 2 rfl) ?_
  have h_7 : vpin ((mI 16 (mz.1 20) be mz).1 20) 140 := Decidable.byContradiction (fun h9 => by simp only [sM_push, if_pos h_6, if_neg h9] at hok; cases hok)
  refine va_iast hx hb hK.1 hP hD hS 13 0 rfl rfl (vp_in_iff.mpr h_7) dM_push_19 (fun H locs hP hD hS => ?_)
  have hP : va_P g.1 vwCl (mX g aM b (mI 17 ((mI 16 (mz.1 20) be mz).1 20) si (mI 16 (mz.1 20) be mz))) H := hP
  have hD : va_D A (mX g aM b (mI 17 ((mI 16 (mz.1 20) be mz).1 20) si (mI 16 (mz.1 20) be mz))) := hD
  refine lv_aload_n hx hb dM_push_20 rfl (lv_at hl 0 rfl) ?_
  refine va_get (D := g.1) (ci := 6) (v := .ref (b 18)) (C := "NodeMakerModel") (T := Fd_M) (N := 37) hx hb ht i_M hown hK.1 hP 0 rfl rfl 18 (by decide) (ht _ q_543) (fun _ h9 => h9) rfl dM_push_21 ?_
  refine lv_aload_n hx hb dM_push_24 rfl (lv_at hl 0 rfl) ?_
  refine va_get (D := g.1) (ci := 6) (v := .int ((mI 17 ((mI 16 (mz.1 20) be mz).1 20) si (mI 16 (mz.1 20) be mz)).1 20)) (C := "NodeMakerModel") (T := Fd_M) (N := 37) hx hb ht i_M hown hK.1 hP 0 rfl rfl 20 (by decide) (ht _ q_545) (fun _ h9 => h9) rfl dM_push_25 ?_
  refine lv_iload_n hx hb dM_push_28 rfl (lv_at hl 3 rfl) ?_
  have h_8 : vpin ((mI 17 ((mI 16 (mz.1 20) be mz).1 20) si (mI 16 (mz.1 20) be mz)).1 20) 140 := Decidable.byContradiction (fun h9 => by simp only [sM_push, if_pos h_6, if_pos h_7, if_neg h9] at hok; cases hok)
  refine va_iast hx hb hK.1 hP hD hS 14 0 rfl rfl (vp_in_iff.mpr h_8) dM_push_29 (fun H locs hP hD hS => ?_)
  have hP : va_P g.1 vwCl (mX g aM b (mI 18 ((mI 17 ((mI 16 (mz.1 20) be mz).1 20) si (mI 16 (mz.1 20) be mz)).1 20) nd (mI 17 ((mI 16 (mz.1 20) be mz).1 20) si (mI 16 (mz.1 20) be mz)))) H := hP
  have hD : va_D A (mX g aM b (mI 18 ((mI 17 ((mI 16 (mz.1 20) be mz).1 20) si (mI 16 (mz.1 20) be mz)).1 20) nd (mI 17 ((mI 16 (mz.1 20) be mz).1 20) si (mI 16 (mz.1 20) be mz)))) := hD
  refine lv_aload_n hx hb dM_push_30 rfl (lv_at hl 0 rfl) ?_
  refine va_get (D := g.1) (ci := 6) (v := .ref (b 19)) (C := "NodeMakerModel") (T := Fd_M) (N := 37) hx hb ht i_M hown hK.1 hP 0 rfl rfl 19 (by decide) (ht _ q_544) (fun _ h9 => h9) rfl dM_push_31 ?_
  refine lv_aload_n hx hb dM_push_34 rfl (lv_at hl 0 rfl) ?_
  refine va_get (D := g.1) (ci := 6) (v := .int ((mI 18 ((mI 17 ((mI 16 (mz.1 20) be mz).1 20) si (mI 16 (mz.1 20) be mz)).1 20) nd (mI 17 ((mI 16 (mz.1 20) be mz).1 20) si (mI 16 (mz.1 20) be mz))).1 20)) (C := "NodeMakerModel") (T := Fd_M) (N := 37) hx hb ht i_M hown hK.1 hP 0 rfl rfl 20 (by decide) (ht _ q_545) (fun _ h9 => h9) rfl dM_push_35 ?_
  refine lv_iload hx hb dM_push_38 (lv_at hl 4 rfl) ?_
  have h_9 : vpin ((mI 18 ((mI 17 ((mI 16 (mz.1 20) be mz).1 20) si (mI 16 (mz.1 20) be mz)).1 20) nd (mI 17 ((mI 16 (mz.1 20) be mz).1 20) si (mI 16 (mz.1 20) be mz))).1 20) 140 := Decidable.byContradiction (fun h9 => by simp only [sM_push, if_pos h_6, if_pos h_7, if_pos h_8, if_neg h9] at hok; cases hok)
  refine va_iast hx hb hK.1 hP hD hS 15 0 rfl rfl (vp_in_iff.mpr h_9) dM_push_40 (fun H locs hP hD hS => ?_)
  have hP : va_P g.1 vwCl (mX g aM b (mI 19 ((mI 18 ((mI 17 ((mI 16 (mz.1 20) be mz).1 20) si (mI 16 (mz.1 20) be mz)).1 20) nd (mI 17 ((mI 16 (mz.1 20) be mz).1 20) si (mI 16 (mz.1 20) be mz))).1 20) sd (mI 18 ((mI 17 ((mI 16 (mz.1 20) be mz).1 20) si (mI 16 (mz.1 20) be mz)).1 20) nd (mI 17 ((mI 16 (mz.1 20) be mz).1 20) si (mI 16 (mz.1 20) be mz))))) H := hP
  have hD : va_D A (mX g aM b (mI 19 ((mI 18 ((mI 17 ((mI 16 (mz.1 20) be mz).1 20) si (mI 16 (mz.1 20) be mz)).1 20) nd (mI 17 ((mI 16 (mz.1 20) be mz).1 20) si (mI 16 (mz.1 20) be mz))).1 20) sd (mI 18 ((mI 17 ((mI 16 (mz.1 20) be mz).1 20) si (mI 16 (mz.1 20) be mz)).1 20) nd (mI 17 ((mI 16 (mz.1 20) be mz).1 20) si (mI 16 (mz.1 20) be mz))))) := hD
  refine lv_aload_n hx hb dM_push_41 rfl (lv_at hl 0 rfl) ?_
  refine lv_dup hx hb dM_push_42 rfl ?_
  refine va_get (D := g.1) (ci := 6) (v := .int ((mI 19 ((mI 18 ((mI 17 ((mI 16 (mz.1 20) be mz).1 20) si (mI 16 (mz.1 20) be mz)).1 20) nd (mI 17 ((mI 16 (mz.1 20) be mz).1 20) si (mI 16 (mz.1 20) be mz))).1 20) sd (mI 18 ((mI 17 ((mI 16 (mz.1 20) be mz).1 20) si (mI 16 (mz.1 20) be mz)).1 20) nd (mI 17 ((mI 16 (mz.1 20) be mz).1 20) si (mI 16 (mz.1 20) be mz)))).1 20)) (C := "NodeMakerModel") (T := Fd_M) (N := 37) hx hb ht i_M hown hK.1 hP 0 rfl rfl 20 (by decide) (ht _ q_545) (fun _ h9 => h9) rfl dM_push_43 ?_
  refine lv_iconst (v := 1) hx hb dM_push_46 (by decide) ?_
  refine lv_iadd hx hb dM_push_47 ?_
  refine va_put (D := g.1) (ci := 6) (v := .int (((mI 19 ((mI 18 ((mI 17 ((mI 16 (mz.1 20) be mz).1 20) si (mI 16 (mz.1 20) be mz)).1 20) nd (mI 17 ((mI 16 (mz.1 20) be mz).1 20) si (mI 16 (mz.1 20) be mz))).1 20) sd (mI 18 ((mI 17 ((mI 16 (mz.1 20) be mz).1 20) si (mI 16 (mz.1 20) be mz)).1 20) nd (mI 17 ((mI 16 (mz.1 20) be mz).1 20) si (mI 16 (mz.1 20) be mz)))).1 20) + 1)) (ty := .int) (C := "NodeMakerModel") (T := Fd_M) (N := 37) hx hb ht i_M ty_M ty_M_ok nm_M hown hK.1 hP hD hS 0 rfl rfl 20 (by decide) (ht _ q_545) (fun _ h9 => h9) rfl (by decide +kernel) rfl rfl (Nat.le_of_ble_eq_true rfl) dM_push_48 (fun H locs hP hD hS => ?_)
  have hP : va_P g.1 vwCl (mX g aM b (mV 20 (((mI 19 ((mI 18 ((mI 17 ((mI 16 (mz.1 20) be mz).1 20) si (mI 16 (mz.1 20) be mz)).1 20) nd (mI 17 ((mI 16 (mz.1 20) be mz).1 20) si (mI 16 (mz.1 20) be mz))).1 20) sd (mI 18 ((mI 17 ((mI 16 (mz.1 20) be mz).1 20) si (mI 16 (mz.1 20) be mz)).1 20) nd (mI 17 ((mI 16 (mz.1 20) be mz).1 20) si (mI 16 (mz.1 20) be mz)))).1 20) + 1) (mI 19 ((mI 18 ((mI 17 ((mI 16 (mz.1 20) be mz).1 20) si (mI 16 (mz.1 20) be mz)).1 20) nd (mI 17 ((mI 16 (mz.1 20) be mz).1 20) si (mI 16 (mz.1 20) be mz))).1 20) sd (mI 18 ((mI 17 ((mI 16 (mz.1 20) be mz).1 20) si (mI 16 (mz.1 20) be mz)).1 20) nd (mI 17 ((mI 16 (mz.1 20) be mz).1 20) si (mI 16 (mz.1 20) be mz)))))) H := hP
  have hD : va_D A (mX g aM b (mV 20 (((mI 19 ((mI 18 ((mI 17 ((mI 16 (mz.1 20) be mz).1 20) si (mI 16 (mz.1 20) be mz)).1 20) nd (mI 17 ((mI 16 (mz.1 20) be mz).1 20) si (mI 16 (mz.1 20) be mz))).1 20) sd (mI 18 ((mI 17 ((mI 16 (mz.1 20) be mz).1 20) si (mI 16 (mz.1 20) be mz)).1 20) nd (mI 17 ((mI 16 (mz.1 20) be mz).1 20) si (mI 16 (mz.1 20) be mz)))).1 20) + 1) (mI 19 ((mI 18 ((mI 17 ((mI 16 (mz.1 20) be mz).1 20) si (mI 16 (mz.1 20) be mz)).1 20) nd (mI 17 ((mI 16 (mz.1 20) be mz).1 20) si (mI 16 (mz.1 20) be mz))).1 20) sd (mI 18 ((mI 17 ((mI 16 (mz.1 20) be mz).1 20) si (mI 16 (mz.1 20) be mz)).1 20) nd (mI 17 ((mI 16 (mz.1 20) be mz).1 20) si (mI 16 (mz.1 20) be mz)))))) := hD
  simp only [sM_push, if_pos h_6, if_pos h_7, if_pos h_8, if_pos h_9] at hok
  have hF := Option.some.inj hok
  subst hF
  exact W.vret hx hb hr (fun t ht9 hW => ⟨⟨(), rfl, trivial, by rw [ht9]; exact hP, hD⟩, hS.F ht9⟩) hS.2.2 dM_push_51

def sM_part (mz : MSt) (p9 : Int32) (ln : Int32) (sd : Int32) : Option (MSt × Int32) :=
  if vpin p9 8300 then
    if vpin ((mz.2.1 8) p9.toNatClampNeg) 64 then
      (match sM_sideOf mz ln (((mz.2.1 2) (((mz.2.1 8) p9.toNatClampNeg).toNatClampNeg)).toInt64) (((mz.2.1 3) (((mz.2.1 8) p9.toNatClampNeg).toNatClampNeg)).toInt64) with
      | none => none
      | some r_12 => (match sM_sideOf mz ln (((mz.2.1 4) (((mz.2.1 8) p9.toNatClampNeg).toNatClampNeg)).toInt64) (((mz.2.1 5) (((mz.2.1 8) p9.toNatClampNeg).toNatClampNeg)).toInt64) with
        | none => none
        | some r_14 => if 0 ≤ (r_12 - r_14) then
            (match sM_sideAt mz ln ((mz.2.1 8) p9.toNatClampNeg) ((mz.2.2 9) p9.toNatClampNeg) ((mz.2.2 10) p9.toNatClampNeg) with
            | none => none
            | some r_17 => if r_17 = sd then
                (match sM_piece mz ((mz.2.1 8) p9.toNatClampNeg) ((mz.2.2 9) p9.toNatClampNeg) ((mz.2.2 10) p9.toNatClampNeg) r_12 (r_12 - r_14) with
                | none => none
                | some r_24 => some (r_24.1, r_24.2))
              else
                (match sM_piece mz ((mz.2.1 8) p9.toNatClampNeg) r_12 (r_12 - r_14) ((mz.2.2 11) p9.toNatClampNeg) ((mz.2.2 12) p9.toNatClampNeg) with
                | none => none
                | some r_21 => some (r_21.1, r_21.2)))
          else
            (match sM_sideAt mz ln ((mz.2.1 8) p9.toNatClampNeg) ((mz.2.2 9) p9.toNatClampNeg) ((mz.2.2 10) p9.toNatClampNeg) with
            | none => none
            | some r_26 => if r_26 = sd then
                (match sM_piece mz ((mz.2.1 8) p9.toNatClampNeg) ((mz.2.2 9) p9.toNatClampNeg) ((mz.2.2 10) p9.toNatClampNeg) (-r_12) (-(r_12 - r_14)) with
                | none => none
                | some r_33 => some (r_33.1, r_33.2))
              else
                (match sM_piece mz ((mz.2.1 8) p9.toNatClampNeg) (-r_12) (-(r_12 - r_14)) ((mz.2.2 11) p9.toNatClampNeg) ((mz.2.2 12) p9.toNatClampNeg) with
                | none => none
                | some r_30 => some (r_30.1, r_30.2)))))
    else
      none
  else
    none
set_option maxHeartbeats 4000000 in
set_option maxRecDepth 100000 in
theorem cM_part (l : Launch) (g : CX) (sz : Nat) (aM : Nat) (b : Nat → Nat) (mz : MSt) (p9 : Int32) (ln : Int32) (sd : Int32) (r0 : MSt × Int32) (hok : sM_part mz p9 ln sd = some r0) : Met l yM_part (wm yM_part kM_part 10 (some .int)) ({ frames := 3, cells := 0, slots := 0, locals := 104 }) (rw g [.ref aM, .int p9, .int ln, .int sd] (mX g aM b mz) sz) (va_Qi (fun (r : Int32) (_u : Unit) => r = r0.2) (rB g (va_A (mX g aM b mz) sz) (fun _u => (mX g aM b r0.1))) (va_A (mX g aM b mz) sz)) 0 0 (va_A (mX g aM b mz) sz) := by
  refine Met.ofW (cc := kM_part) (maxL := 10) (ret := (some .int)) (by decide) rfl ?_
  intro p e s m args below meth c s₁ B hml hv
  obtain ⟨rfl, hsz, hK, hP, hD0⟩ := hv
  have hx := B.exec
  have hb := B.bytes
  have hr := B.returns
  have ht : ∀ w ∈ wT, w.before _ s = true := fun w h => atoms_spec (ws := wm yM_part kM_part 10 (some .int)) B.pre w (List.mem_cons_of_mem _ h)
  have hown : s.vm.findClass "NodeMakerModel" = some m.cls := findClass_of_methodNamed B.named
  have hlocks := B.notSynchronized
  subst hsz
  have hD := hD0.self (sz := s.heap.size)
  generalize hAe : va_A (mX g aM b mz) s.heap.size = A at hD ⊢
  have hA : ∀ q : Nat, s.heap.size ≤ q → A q := fun q h => by rw [← hAe]; exact Or.inr h
  have hS : va_S A s.heap s.heap [] := va_S.rf
  have hl := lv_entry ([.ref aM, .int p9, .int ln, .int sd]) (n := 10) (Nat.le_of_ble_eq_true rfl)
  rw [lg_entry_eq]
  generalize (lg_sl ([.ref aM, .int p9, .int ln, .int sd]) ++ List.replicate (10 - (lg_sl ([.ref aM, .int p9, .int ln, .int sd])).length) Slot.unset).toArray = ls at hl ⊢
  have hl : lv_has ls 10 [(0, .ref aM), (1, .int p9), (2, .int ln), (3, .int sd)] := hl
  refine lv_aload_n hx hb dM_part_0 rfl (lv_at hl 0 rfl) ?_
  refine va_get (D := g.1) (ci := 6) (v := .ref (b 8)) (C := "NodeMakerModel") (T := Fd_M) (N := 37) hx hb ht i_M hown hK.1 hP 0 rfl rfl 8 (by decide) (ht _ q_533) (fun _ h9 => h9) rfl dM_part_1 ?_
  refine lv_iload_n hx hb dM_part_4 rfl (lv_at hl 1 rfl) ?_
  have h_10 : vpin p9 8300 := Decidable.byContradiction (fun h9 => by simp only [sM_part, if_neg h9] at hok; cases hok)
  refine va_iald hx hb hK.1 hP 6 0 rfl rfl (vp_in_iff.mpr h_10) dM_part_5 ?_
  refine lv_istore (lv' := [(4, .int ((mz.2.1 8) p9.toNatClampNeg)), (0, .ref aM), (1, .int p9), (2, .int ln), (3, .int sd)]) hx hb dM_part_6 hl (by decide) rfl (fun ls hl => ?_)
  refine lv_aload_n hx hb dM_part_8 rfl (lv_at hl 1 rfl) ?_
  refine lv_iload_n hx hb dM_part_9 rfl (lv_at hl 3 rfl) ?_
  refine lv_aload_n hx hb dM_part_10 rfl (lv_at hl 1 rfl) ?_
  refine va_get (D := g.1) (ci := 6) (v := .ref (b 2)) (C := "NodeMakerModel") (T := Fd_M) (N := 37) hx hb ht i_M hown hK.1 hP 0 rfl rfl 2 (by decide) (ht _ q_527) (fun _ h9 => h9) rfl dM_part_11 ?_
  refine lv_iload hx hb dM_part_14 (lv_at hl 0 rfl) ?_
  have h_11 : vpin ((mz.2.1 8) p9.toNatClampNeg) 64 := Decidable.byContradiction (fun h9 => by simp only [sM_part, if_pos h_10, if_neg h9] at hok; cases hok)
  refine va_iald hx hb hK.1 hP 2 0 rfl rfl (vp_in_iff.mpr h_11) dM_part_16 ?_
  refine lv_i2l hx hb dM_part_17 rfl ?_
  refine lv_aload_n hx hb dM_part_18 rfl (lv_at hl 1 rfl) ?_
  refine va_get (D := g.1) (ci := 6) (v := .ref (b 3)) (C := "NodeMakerModel") (T := Fd_M) (N := 37) hx hb ht i_M hown hK.1 hP 0 rfl rfl 3 (by decide) (ht _ q_528) (fun _ h9 => h9) rfl dM_part_19 ?_
  refine lv_iload hx hb dM_part_22 (lv_at hl 0 rfl) ?_
  refine va_iald hx hb hK.1 hP 3 0 rfl rfl (vp_in_iff.mpr h_11) dM_part_24 ?_
  refine lv_i2l hx hb dM_part_25 rfl ?_
  obtain ⟨r_12, hc_13⟩ : ∃ r9, sM_sideOf mz ln (((mz.2.1 2) (((mz.2.1 8) p9.toNatClampNeg).toNatClampNeg)).toInt64) (((mz.2.1 3) (((mz.2.1 8) p9.toNatClampNeg).toNatClampNeg)).toInt64) = some r9 := by
    cases hc9 : sM_sideOf mz ln (((mz.2.1 2) (((mz.2.1 8) p9.toNatClampNeg).toNatClampNeg)).toInt64) (((mz.2.1 3) (((mz.2.1 8) p9.toNatClampNeg).toNatClampNeg)).toInt64) with
    | some r9 => exact ⟨r9, rfl⟩
    | none => exfalso; simp only [sM_part, if_pos h_10, if_pos h_11, hc9] at hok; cases hok
  refine ro_Vl (v := r_12) (As := [.int ln, .long (((mz.2.1 2) (((mz.2.1 8) p9.toNatClampNeg).toNatClampNeg)).toInt64), .long (((mz.2.1 3) (((mz.2.1 8) p9.toNatClampNeg).toNatClampNeg)).toInt64)]) (rest := []) ⟨hx, hb, hml, hown, ht⟩ (cM_sideOf l g aM b mz ln (((mz.2.1 2) (((mz.2.1 8) p9.toNatClampNeg).toNatClampNeg)).toInt64) (((mz.2.1 3) (((mz.2.1 8) p9.toNatClampNeg).toNatClampNeg)).toInt64) r_12 hc_13) (cwV 3 ht (g_V q_658 q_660 q_14 q_39 q_661) rfl rfl rfl hd_M_sideOf ⟨Nat.le_of_ble_eq_true rfl, Nat.le_of_ble_eq_true rfl⟩) hK (hP) (va_recv hK.1 hP (ci := 6) (q0 := 0) rfl rfl) rfl hl.1 rfl (Nat.le_of_ble_eq_true rfl) dM_part_26 ⟨Nat.zero_le _, Nat.zero_le _⟩ ?_
  refine lv_lstore (lv' := [(5, .long r_12), (4, .int ((mz.2.1 8) p9.toNatClampNeg)), (0, .ref aM), (1, .int p9), (2, .int ln), (3, .int sd)]) hx hb dM_part_29 hl (by decide) rfl (fun ls hl => ?_)
  refine lv_lload hx hb dM_part_31 (lv_at hl 0 rfl) ?_
  refine lv_aload_n hx hb dM_part_33 rfl (lv_at hl 2 rfl) ?_
  refine lv_iload_n hx hb dM_part_34 rfl (lv_at hl 4 rfl) ?_
  refine lv_aload_n hx hb dM_part_35 rfl (lv_at hl 2 rfl) ?_
  refine va_get (D := g.1) (ci := 6) (v := .ref (b 4)) (C := "NodeMakerModel") (T := Fd_M) (N := 37) hx hb ht i_M hown hK.1 hP 0 rfl rfl 4 (by decide) (ht _ q_529) (fun _ h9 => h9) rfl dM_part_36 ?_
  refine lv_iload hx hb dM_part_39 (lv_at hl 1 rfl) ?_
  refine va_iald hx hb hK.1 hP 4 0 rfl rfl (vp_in_iff.mpr h_11) dM_part_41 ?_
  refine lv_i2l hx hb dM_part_42 rfl ?_
  refine lv_aload_n hx hb dM_part_43 rfl (lv_at hl 2 rfl) ?_
  refine va_get (D := g.1) (ci := 6) (v := .ref (b 5)) (C := "NodeMakerModel") (T := Fd_M) (N := 37) hx hb ht i_M hown hK.1 hP 0 rfl rfl 5 (by decide) (ht _ q_530) (fun _ h9 => h9) rfl dM_part_44 ?_
  refine lv_iload hx hb dM_part_47 (lv_at hl 1 rfl) ?_
  refine va_iald hx hb hK.1 hP 5 0 rfl rfl (vp_in_iff.mpr h_11) dM_part_49 ?_
  refine lv_i2l hx hb dM_part_50 rfl ?_
  obtain ⟨r_14, hc_15⟩ : ∃ r9, sM_sideOf mz ln (((mz.2.1 4) (((mz.2.1 8) p9.toNatClampNeg).toNatClampNeg)).toInt64) (((mz.2.1 5) (((mz.2.1 8) p9.toNatClampNeg).toNatClampNeg)).toInt64) = some r9 := by
    cases hc9 : sM_sideOf mz ln (((mz.2.1 4) (((mz.2.1 8) p9.toNatClampNeg).toNatClampNeg)).toInt64) (((mz.2.1 5) (((mz.2.1 8) p9.toNatClampNeg).toNatClampNeg)).toInt64) with
    | some r9 => exact ⟨r9, rfl⟩
    | none => exfalso; simp only [sM_part, if_pos h_10, if_pos h_11, hc_13, hc9] at hok; cases hok
  refine ro_Vl (v := r_14) (As := [.int ln, .long (((mz.2.1 4) (((mz.2.1 8) p9.toNatClampNeg).toNatClampNeg)).toInt64), .long (((mz.2.1 5) (((mz.2.1 8) p9.toNatClampNeg).toNatClampNeg)).toInt64)]) (rest := [.long r_12]) ⟨hx, hb, hml, hown, ht⟩ (cM_sideOf l g aM b mz ln (((mz.2.1 4) (((mz.2.1 8) p9.toNatClampNeg).toNatClampNeg)).toInt64) (((mz.2.1 5) (((mz.2.1 8) p9.toNatClampNeg).toNatClampNeg)).toInt64) r_14 hc_15) (cwV 3 ht (g_V q_658 q_660 q_14 q_39 q_661) rfl rfl rfl hd_M_sideOf ⟨Nat.le_of_ble_eq_true rfl, Nat.le_of_ble_eq_true rfl⟩) hK (hP) (va_recv hK.1 hP (ci := 6) (q0 := 0) rfl rfl) rfl hl.1 rfl (Nat.le_of_ble_eq_true rfl) dM_part_51 ⟨Nat.zero_le _, Nat.zero_le _⟩ ?_
  refine lv_lsub hx hb dM_part_54 ?_
  refine lv_lstore (lv' := [(7, .long (r_12 - r_14)), (5, .long r_12), (4, .int ((mz.2.1 8) p9.toNatClampNeg)), (0, .ref aM), (1, .int p9), (2, .int ln), (3, .int sd)]) hx hb dM_part_55 hl (by decide) rfl (fun ls hl => ?_)
  refine lv_lload hx hb dM_part_57 (lv_at hl 0 rfl) ?_
  refine lv_lconst (v := 0) hx hb dM_part_59 (by decide) ?_
  refine W.lcmp hx hb dM_part_60 ?_
  refine lv_if_ge (tgt := 74) hx hb dM_part_61 (by decide) (fun c_16 => ?_) (fun c_16 => ?_)
  · skip
    rw [lg_cmp_ge] at c_16
    refine lv_aload_n hx hb dM_part_74 rfl (lv_at hl 3 rfl) ?_
    refine lv_iload_n hx hb dM_part_75 rfl (lv_at hl 5 rfl) ?_
    refine lv_iload hx hb dM_part_76 (lv_at hl 2 rfl) ?_
    refine lv_aload_n hx hb dM_part_78 rfl (lv_at hl 3 rfl) ?_
    refine va_get (D := g.1) (ci := 6) (v := .ref (b 9)) (C := "NodeMakerModel") (T := Fd_M) (N := 37) hx hb ht i_M hown hK.1 hP 0 rfl rfl 9 (by decide) (ht _ q_534) (fun _ h9 => h9) rfl dM_part_79 ?_
    refine lv_iload_n hx hb dM_part_82 rfl (lv_at hl 4 rfl) ?_
    refine va_lald hx hb hK.1 hP 7 2 rfl rfl (vp_in_iff.mpr h_10) dM_part_83 ?_
    refine lv_aload_n hx hb dM_part_84 rfl (lv_at hl 3 rfl) ?_
    refine va_get (D := g.1) (ci := 6) (v := .ref (b 10)) (C := "NodeMakerModel") (T := Fd_M) (N := 37) hx hb ht i_M hown hK.1 hP 0 rfl rfl 10 (by decide) (ht _ q_535) (fun _ h9 => h9) rfl dM_part_85 ?_
    refine lv_iload_n hx hb dM_part_88 rfl (lv_at hl 4 rfl) ?_
    refine va_lald hx hb hK.1 hP 8 2 rfl rfl (vp_in_iff.mpr h_10) dM_part_89 ?_
    obtain ⟨r_17, hc_18⟩ : ∃ r9, sM_sideAt mz ln ((mz.2.1 8) p9.toNatClampNeg) ((mz.2.2 9) p9.toNatClampNeg) ((mz.2.2 10) p9.toNatClampNeg) = some r9 := by
      cases hc9 : sM_sideAt mz ln ((mz.2.1 8) p9.toNatClampNeg) ((mz.2.2 9) p9.toNatClampNeg) ((mz.2.2 10) p9.toNatClampNeg) with
      | some r9 => exact ⟨r9, rfl⟩
      | none => exfalso; simp only [sM_part, if_pos h_10, if_pos h_11, hc_13, hc_15, if_pos c_16, hc9] at hok; cases hok
    refine ro_Vi (v := r_17) (As := [.int ln, .int ((mz.2.1 8) p9.toNatClampNeg), .long ((mz.2.2 9) p9.toNatClampNeg), .long ((mz.2.2 10) p9.toNatClampNeg)]) (rest := []) ⟨hx, hb, hml, hown, ht⟩ (cM_sideAt l g aM b mz ln ((mz.2.1 8) p9.toNatClampNeg) ((mz.2.2 9) p9.toNatClampNeg) ((mz.2.2 10) p9.toNatClampNeg) r_17 hc_18) (cwV 4 ht (g_V q_721 q_723 q_25 q_39 q_724) rfl rfl rfl hd_M_sideAt ⟨Nat.le_of_ble_eq_true rfl, Nat.le_of_ble_eq_true rfl⟩) hK (hP) (va_recv hK.1 hP (ci := 6) (q0 := 0) rfl rfl) rfl hl.1 rfl (Nat.le_of_ble_eq_true rfl) dM_part_90 ⟨Nat.zero_le _, Nat.zero_le _⟩ ?_
    refine lv_iload_n hx hb dM_part_93 rfl (lv_at hl 6 rfl) ?_
    refine lv_icmp_ne (tgt := 101) hx hb dM_part_94 (by decide) (fun c_19 => ?_) (fun c_19 => ?_)
    · skip
      refine lv_iconst (v := 0) hx hb dM_part_101 (by decide) ?_
      refine lv_istore (lv' := [(9, .int 0), (7, .long (r_12 - r_14)), (5, .long r_12), (4, .int ((mz.2.1 8) p9.toNatClampNeg)), (0, .ref aM), (1, .int p9), (2, .int ln), (3, .int sd)]) hx hb dM_part_102 hl (by decide) rfl (fun ls hl => ?_)
      refine lv_iload hx hb dM_part_104 (lv_at hl 0 rfl) ?_
      refine lv_if_eq (tgt := 134) hx hb dM_part_106 (by decide) (fun c_20 => ?_) (fun c_20 => ?_)
      · skip
        refine lv_aload_n hx hb dM_part_134 rfl (lv_at hl 4 rfl) ?_
        refine lv_iload hx hb dM_part_135 (lv_at hl 3 rfl) ?_
        refine lv_lload hx hb dM_part_137 (lv_at hl 2 rfl) ?_
        refine lv_lload hx hb dM_part_139 (lv_at hl 1 rfl) ?_
        refine lv_aload_n hx hb dM_part_141 rfl (lv_at hl 4 rfl) ?_
        refine va_get (D := g.1) (ci := 6) (v := .ref (b 11)) (C := "NodeMakerModel") (T := Fd_M) (N := 37) hx hb ht i_M hown hK.1 hP 0 rfl rfl 11 (by decide) (ht _ q_536) (fun _ h9 => h9) rfl dM_part_142 ?_
        refine lv_iload_n hx hb dM_part_145 rfl (lv_at hl 5 rfl) ?_
        refine va_lald hx hb hK.1 hP 9 2 rfl rfl (vp_in_iff.mpr h_10) dM_part_146 ?_
        refine lv_aload_n hx hb dM_part_147 rfl (lv_at hl 4 rfl) ?_
        refine va_get (D := g.1) (ci := 6) (v := .ref (b 12)) (C := "NodeMakerModel") (T := Fd_M) (N := 37) hx hb ht i_M hown hK.1 hP 0 rfl rfl 12 (by decide) (ht _ q_537) (fun _ h9 => h9) rfl dM_part_148 ?_
        refine lv_iload_n hx hb dM_part_151 rfl (lv_at hl 5 rfl) ?_
        refine va_lald hx hb hK.1 hP 10 2 rfl rfl (vp_in_iff.mpr h_10) dM_part_152 ?_
        obtain ⟨r_21, hc_22⟩ : ∃ r9, sM_piece mz ((mz.2.1 8) p9.toNatClampNeg) r_12 (r_12 - r_14) ((mz.2.2 11) p9.toNatClampNeg) ((mz.2.2 12) p9.toNatClampNeg) = some r9 := by
          cases hc9 : sM_piece mz ((mz.2.1 8) p9.toNatClampNeg) r_12 (r_12 - r_14) ((mz.2.2 11) p9.toNatClampNeg) ((mz.2.2 12) p9.toNatClampNeg) with
          | some r9 => exact ⟨r9, rfl⟩
          | none => exfalso; simp only [sM_part, if_pos h_10, if_pos h_11, hc_13, hc_15, if_pos c_16, hc_18, if_neg c_19, hc9] at hok; cases hok
        refine rw_iA (va_runV (As := [.int ((mz.2.1 8) p9.toNatClampNeg), .long r_12, .long (r_12 - r_14), .long ((mz.2.2 11) p9.toNatClampNeg), .long ((mz.2.2 12) p9.toNatClampNeg)]) (rest := []) ⟨hx, hb, hml, hown, ht⟩ (cM_piece l g s.heap.size aM b mz ((mz.2.1 8) p9.toNatClampNeg) r_12 (r_12 - r_14) ((mz.2.2 11) p9.toNatClampNeg) ((mz.2.2 12) p9.toNatClampNeg)  r_21 hc_22) (cwV 5 ht (g_V q_700 q_702 q_20 q_39 q_703) rfl rfl rfl hd_M_piece ⟨Nat.le_of_ble_eq_true rfl, Nat.le_of_ble_eq_true rfl⟩) (rw_V hK hP hD (va_recv hK.1 hP (ci := 6) (q0 := 0) rfl rfl)) rfl rfl hl.1 rfl (lv_room (Nat.le_of_ble_eq_true rfl)) dM_part_153 ⟨Nat.zero_le _, Nat.zero_le _⟩) hD hS hA (fun rr _ H locs hw hP hD hS => ?_)
        subst hw
        have hP : va_P g.1 vwCl (mX g aM b (r_21.1)) H := hP
        have hD : va_D A (mX g aM b (r_21.1)) := hD
        simp only [sM_part, if_pos h_10, if_pos h_11, hc_13, hc_15, if_pos c_16, hc_18, if_neg c_19, hc_22] at hok
        have hF := Option.some.inj hok
        subst hF
        exact W.iret hx hb hr (fun t ht9 hW => ⟨⟨_, (), rfl, rfl, by rw [ht9]; exact hP, hD⟩, hS.F ht9⟩) hS.2.2 dM_part_156
      · skip
        exact absurd (by decide) c_20
    · skip
      refine lv_iconst (v := 1) hx hb dM_part_97 (by decide) ?_
      refine lv_goto (tgt := 102) hx hb dM_part_98 (by decide) ?_
      refine lv_istore (lv' := [(9, .int 1), (7, .long (r_12 - r_14)), (5, .long r_12), (4, .int ((mz.2.1 8) p9.toNatClampNeg)), (0, .ref aM), (1, .int p9), (2, .int ln), (3, .int sd)]) hx hb dM_part_102 hl (by decide) rfl (fun ls hl => ?_)
      refine lv_iload hx hb dM_part_104 (lv_at hl 0 rfl) ?_
      refine lv_if_eq (tgt := 134) hx hb dM_part_106 (by decide) (fun c_23 => ?_) (fun c_23 => ?_)
      · skip
        exact absurd c_23 (by decide)
      · skip
        refine lv_aload_n hx hb dM_part_109 rfl (lv_at hl 4 rfl) ?_
        refine lv_iload hx hb dM_part_110 (lv_at hl 3 rfl) ?_
        refine lv_aload_n hx hb dM_part_112 rfl (lv_at hl 4 rfl) ?_
        refine va_get (D := g.1) (ci := 6) (v := .ref (b 9)) (C := "NodeMakerModel") (T := Fd_M) (N := 37) hx hb ht i_M hown hK.1 hP 0 rfl rfl 9 (by decide) (ht _ q_534) (fun _ h9 => h9) rfl dM_part_113 ?_
        refine lv_iload_n hx hb dM_part_116 rfl (lv_at hl 5 rfl) ?_
        refine va_lald hx hb hK.1 hP 7 2 rfl rfl (vp_in_iff.mpr h_10) dM_part_117 ?_
        refine lv_aload_n hx hb dM_part_118 rfl (lv_at hl 4 rfl) ?_
        refine va_get (D := g.1) (ci := 6) (v := .ref (b 10)) (C := "NodeMakerModel") (T := Fd_M) (N := 37) hx hb ht i_M hown hK.1 hP 0 rfl rfl 10 (by decide) (ht _ q_535) (fun _ h9 => h9) rfl dM_part_119 ?_
        refine lv_iload_n hx hb dM_part_122 rfl (lv_at hl 5 rfl) ?_
        refine va_lald hx hb hK.1 hP 8 2 rfl rfl (vp_in_iff.mpr h_10) dM_part_123 ?_
        refine lv_lload hx hb dM_part_124 (lv_at hl 2 rfl) ?_
        refine lv_lload hx hb dM_part_126 (lv_at hl 1 rfl) ?_
        obtain ⟨r_24, hc_25⟩ : ∃ r9, sM_piece mz ((mz.2.1 8) p9.toNatClampNeg) ((mz.2.2 9) p9.toNatClampNeg) ((mz.2.2 10) p9.toNatClampNeg) r_12 (r_12 - r_14) = some r9 := by
          cases hc9 : sM_piece mz ((mz.2.1 8) p9.toNatClampNeg) ((mz.2.2 9) p9.toNatClampNeg) ((mz.2.2 10) p9.toNatClampNeg) r_12 (r_12 - r_14) with
          | some r9 => exact ⟨r9, rfl⟩
          | none => exfalso; simp only [sM_part, if_pos h_10, if_pos h_11, hc_13, hc_15, if_pos c_16, hc_18, if_pos c_19, hc9] at hok; cases hok
        refine rw_iA (va_runV (As := [.int ((mz.2.1 8) p9.toNatClampNeg), .long ((mz.2.2 9) p9.toNatClampNeg), .long ((mz.2.2 10) p9.toNatClampNeg), .long r_12, .long (r_12 - r_14)]) (rest := []) ⟨hx, hb, hml, hown, ht⟩ (cM_piece l g s.heap.size aM b mz ((mz.2.1 8) p9.toNatClampNeg) ((mz.2.2 9) p9.toNatClampNeg) ((mz.2.2 10) p9.toNatClampNeg) r_12 (r_12 - r_14)  r_24 hc_25) (cwV 5 ht (g_V q_700 q_702 q_20 q_39 q_703) rfl rfl rfl hd_M_piece ⟨Nat.le_of_ble_eq_true rfl, Nat.le_of_ble_eq_true rfl⟩) (rw_V hK hP hD (va_recv hK.1 hP (ci := 6) (q0 := 0) rfl rfl)) rfl rfl hl.1 rfl (lv_room (Nat.le_of_ble_eq_true rfl)) dM_part_128 ⟨Nat.zero_le _, Nat.zero_le _⟩) hD hS hA (fun rr _ H locs hw hP hD hS => ?_)
        subst hw
        have hP : va_P g.1 vwCl (mX g aM b (r_24.1)) H := hP
        have hD : va_D A (mX g aM b (r_24.1)) := hD
        refine lv_goto (tgt := 156) hx hb dM_part_131 (by decide) ?_
        simp only [sM_part, if_pos h_10, if_pos h_11, hc_13, hc_15, if_pos c_16, hc_18, if_pos c_19, hc_25] at hok
        have hF := Option.some.inj hok
        subst hF
        exact W.iret hx hb hr (fun t ht9 hW => ⟨⟨_, (), rfl, rfl, by rw [ht9]; exact hP, hD⟩, hS.F ht9⟩) hS.2.2 dM_part_156
  · skip
    rw [lg_cmp_ge] at c_16
    refine lv_lload hx hb dM_part_64 (lv_at hl 1 rfl) ?_
    refine lv_lneg hx hb dM_part_66 ?_
    refine lv_lstore (lv' := [(5, .long (-r_12)), (7, .long (r_12 - r_14)), (4, .int ((mz.2.1 8) p9.toNatClampNeg)), (0, .ref aM), (1, .int p9), (2, .int ln), (3, .int sd)]) hx hb dM_part_67 hl (by decide) rfl (fun ls hl => ?_)
    refine lv_lload hx hb dM_part_69 (lv_at hl 1 rfl) ?_
    refine lv_lneg hx hb dM_part_71 ?_
    refine lv_lstore (lv' := [(7, .long (-(r_12 - r_14))), (5, .long (-r_12)), (4, .int ((mz.2.1 8) p9.toNatClampNeg)), (0, .ref aM), (1, .int p9), (2, .int ln), (3, .int sd)]) hx hb dM_part_72 hl (by decide) rfl (fun ls hl => ?_)
    refine lv_aload_n hx hb dM_part_74 rfl (lv_at hl 3 rfl) ?_
    refine lv_iload_n hx hb dM_part_75 rfl (lv_at hl 5 rfl) ?_
    refine lv_iload hx hb dM_part_76 (lv_at hl 2 rfl) ?_
    refine lv_aload_n hx hb dM_part_78 rfl (lv_at hl 3 rfl) ?_
    refine va_get (D := g.1) (ci := 6) (v := .ref (b 9)) (C := "NodeMakerModel") (T := Fd_M) (N := 37) hx hb ht i_M hown hK.1 hP 0 rfl rfl 9 (by decide) (ht _ q_534) (fun _ h9 => h9) rfl dM_part_79 ?_
    refine lv_iload_n hx hb dM_part_82 rfl (lv_at hl 4 rfl) ?_
    refine va_lald hx hb hK.1 hP 7 2 rfl rfl (vp_in_iff.mpr h_10) dM_part_83 ?_
    refine lv_aload_n hx hb dM_part_84 rfl (lv_at hl 3 rfl) ?_
    refine va_get (D := g.1) (ci := 6) (v := .ref (b 10)) (C := "NodeMakerModel") (T := Fd_M) (N := 37) hx hb ht i_M hown hK.1 hP 0 rfl rfl 10 (by decide) (ht _ q_535) (fun _ h9 => h9) rfl dM_part_85 ?_
    refine lv_iload_n hx hb dM_part_88 rfl (lv_at hl 4 rfl) ?_
    refine va_lald hx hb hK.1 hP 8 2 rfl rfl (vp_in_iff.mpr h_10) dM_part_89 ?_
    obtain ⟨r_26, hc_27⟩ : ∃ r9, sM_sideAt mz ln ((mz.2.1 8) p9.toNatClampNeg) ((mz.2.2 9) p9.toNatClampNeg) ((mz.2.2 10) p9.toNatClampNeg) = some r9 := by
      cases hc9 : sM_sideAt mz ln ((mz.2.1 8) p9.toNatClampNeg) ((mz.2.2 9) p9.toNatClampNeg) ((mz.2.2 10) p9.toNatClampNeg) with
      | some r9 => exact ⟨r9, rfl⟩
      | none => exfalso; simp only [sM_part, if_pos h_10, if_pos h_11, hc_13, hc_15, if_neg c_16, hc9] at hok; cases hok
    refine ro_Vi (v := r_26) (As := [.int ln, .int ((mz.2.1 8) p9.toNatClampNeg), .long ((mz.2.2 9) p9.toNatClampNeg), .long ((mz.2.2 10) p9.toNatClampNeg)]) (rest := []) ⟨hx, hb, hml, hown, ht⟩ (cM_sideAt l g aM b mz ln ((mz.2.1 8) p9.toNatClampNeg) ((mz.2.2 9) p9.toNatClampNeg) ((mz.2.2 10) p9.toNatClampNeg) r_26 hc_27) (cwV 4 ht (g_V q_721 q_723 q_25 q_39 q_724) rfl rfl rfl hd_M_sideAt ⟨Nat.le_of_ble_eq_true rfl, Nat.le_of_ble_eq_true rfl⟩) hK (hP) (va_recv hK.1 hP (ci := 6) (q0 := 0) rfl rfl) rfl hl.1 rfl (Nat.le_of_ble_eq_true rfl) dM_part_90 ⟨Nat.zero_le _, Nat.zero_le _⟩ ?_
    refine lv_iload_n hx hb dM_part_93 rfl (lv_at hl 6 rfl) ?_
    refine lv_icmp_ne (tgt := 101) hx hb dM_part_94 (by decide) (fun c_28 => ?_) (fun c_28 => ?_)
    · skip
      refine lv_iconst (v := 0) hx hb dM_part_101 (by decide) ?_
      refine lv_istore (lv' := [(9, .int 0), (7, .long (-(r_12 - r_14))), (5, .long (-r_12)), (4, .int ((mz.2.1 8) p9.toNatClampNeg)), (0, .ref aM), (1, .int p9), (2, .int ln), (3, .int sd)]) hx hb dM_part_102 hl (by decide) rfl (fun ls hl => ?_)
      refine lv_iload hx hb dM_part_104 (lv_at hl 0 rfl) ?_
      refine lv_if_eq (tgt := 134) hx hb dM_part_106 (by decide) (fun c_29 => ?_) (fun c_29 => ?_)
      · skip
        refine lv_aload_n hx hb dM_part_134 rfl (lv_at hl 4 rfl) ?_
        refine lv_iload hx hb dM_part_135 (lv_at hl 3 rfl) ?_
        refine lv_lload hx hb dM_part_137 (lv_at hl 2 rfl) ?_
        refine lv_lload hx hb dM_part_139 (lv_at hl 1 rfl) ?_
        refine lv_aload_n hx hb dM_part_141 rfl (lv_at hl 4 rfl) ?_
        refine va_get (D := g.1) (ci := 6) (v := .ref (b 11)) (C := "NodeMakerModel") (T := Fd_M) (N := 37) hx hb ht i_M hown hK.1 hP 0 rfl rfl 11 (by decide) (ht _ q_536) (fun _ h9 => h9) rfl dM_part_142 ?_
        refine lv_iload_n hx hb dM_part_145 rfl (lv_at hl 5 rfl) ?_
        refine va_lald hx hb hK.1 hP 9 2 rfl rfl (vp_in_iff.mpr h_10) dM_part_146 ?_
        refine lv_aload_n hx hb dM_part_147 rfl (lv_at hl 4 rfl) ?_
        refine va_get (D := g.1) (ci := 6) (v := .ref (b 12)) (C := "NodeMakerModel") (T := Fd_M) (N := 37) hx hb ht i_M hown hK.1 hP 0 rfl rfl 12 (by decide) (ht _ q_537) (fun _ h9 => h9) rfl dM_part_148 ?_
        refine lv_iload_n hx hb dM_part_151 rfl (lv_at hl 5 rfl) ?_
        refine va_lald hx hb hK.1 hP 10 2 rfl rfl (vp_in_iff.mpr h_10) dM_part_152 ?_
        obtain ⟨r_30, hc_31⟩ : ∃ r9, sM_piece mz ((mz.2.1 8) p9.toNatClampNeg) (-r_12) (-(r_12 - r_14)) ((mz.2.2 11) p9.toNatClampNeg) ((mz.2.2 12) p9.toNatClampNeg) = some r9 := by
          cases hc9 : sM_piece mz ((mz.2.1 8) p9.toNatClampNeg) (-r_12) (-(r_12 - r_14)) ((mz.2.2 11) p9.toNatClampNeg) ((mz.2.2 12) p9.toNatClampNeg) with
          | some r9 => exact ⟨r9, rfl⟩
          | none => exfalso; simp only [sM_part, if_pos h_10, if_pos h_11, hc_13, hc_15, if_neg c_16, hc_27, if_neg c_28, hc9] at hok; cases hok
        refine rw_iA (va_runV (As := [.int ((mz.2.1 8) p9.toNatClampNeg), .long (-r_12), .long (-(r_12 - r_14)), .long ((mz.2.2 11) p9.toNatClampNeg), .long ((mz.2.2 12) p9.toNatClampNeg)]) (rest := []) ⟨hx, hb, hml, hown, ht⟩ (cM_piece l g s.heap.size aM b mz ((mz.2.1 8) p9.toNatClampNeg) (-r_12) (-(r_12 - r_14)) ((mz.2.2 11) p9.toNatClampNeg) ((mz.2.2 12) p9.toNatClampNeg)  r_30 hc_31) (cwV 5 ht (g_V q_700 q_702 q_20 q_39 q_703) rfl rfl rfl hd_M_piece ⟨Nat.le_of_ble_eq_true rfl, Nat.le_of_ble_eq_true rfl⟩) (rw_V hK hP hD (va_recv hK.1 hP (ci := 6) (q0 := 0) rfl rfl)) rfl rfl hl.1 rfl (lv_room (Nat.le_of_ble_eq_true rfl)) dM_part_153 ⟨Nat.zero_le _, Nat.zero_le _⟩) hD hS hA (fun rr _ H locs hw hP hD hS => ?_)
        subst hw
        have hP : va_P g.1 vwCl (mX g aM b (r_30.1)) H := hP
        have hD : va_D A (mX g aM b (r_30.1)) := hD
        simp only [sM_part, if_pos h_10, if_pos h_11, hc_13, hc_15, if_neg c_16, hc_27, if_neg c_28, hc_31] at hok
        have hF := Option.some.inj hok
        subst hF
        exact W.iret hx hb hr (fun t ht9 hW => ⟨⟨_, (), rfl, rfl, by rw [ht9]; exact hP, hD⟩, hS.F ht9⟩) hS.2.2 dM_part_156
      · skip
        exact absurd (by decide) c_29
    · skip
      refine lv_iconst (v := 1) hx hb dM_part_97 (by decide) ?_
      refine lv_goto (tgt := 102) hx hb dM_part_98 (by decide) ?_
      refine lv_istore (lv' := [(9, .int 1), (7, .long (-(r_12 - r_14))), (5, .long (-r_12)), (4, .int ((mz.2.1 8) p9.toNatClampNeg)), (0, .ref aM), (1, .int p9), (2, .int ln), (3, .int sd)]) hx hb dM_part_102 hl (by decide) rfl (fun ls hl => ?_)
      refine lv_iload hx hb dM_part_104 (lv_at hl 0 rfl) ?_
      refine lv_if_eq (tgt := 134) hx hb dM_part_106 (by decide) (fun c_32 => ?_) (fun c_32 => ?_)
      · skip
        exact absurd c_32 (by decide)
      · skip
        refine lv_aload_n hx hb dM_part_109 rfl (lv_at hl 4 rfl) ?_
        refine lv_iload hx hb dM_part_110 (lv_at hl 3 rfl) ?_
        refine lv_aload_n hx hb dM_part_112 rfl (lv_at hl 4 rfl) ?_
        refine va_get (D := g.1) (ci := 6) (v := .ref (b 9)) (C := "NodeMakerModel") (T := Fd_M) (N := 37) hx hb ht i_M hown hK.1 hP 0 rfl rfl 9 (by decide) (ht _ q_534) (fun _ h9 => h9) rfl dM_part_113 ?_
        refine lv_iload_n hx hb dM_part_116 rfl (lv_at hl 5 rfl) ?_
        refine va_lald hx hb hK.1 hP 7 2 rfl rfl (vp_in_iff.mpr h_10) dM_part_117 ?_
        refine lv_aload_n hx hb dM_part_118 rfl (lv_at hl 4 rfl) ?_
        refine va_get (D := g.1) (ci := 6) (v := .ref (b 10)) (C := "NodeMakerModel") (T := Fd_M) (N := 37) hx hb ht i_M hown hK.1 hP 0 rfl rfl 10 (by decide) (ht _ q_535) (fun _ h9 => h9) rfl dM_part_119 ?_
        refine lv_iload_n hx hb dM_part_122 rfl (lv_at hl 5 rfl) ?_
        refine va_lald hx hb hK.1 hP 8 2 rfl rfl (vp_in_iff.mpr h_10) dM_part_123 ?_
        refine lv_lload hx hb dM_part_124 (lv_at hl 2 rfl) ?_
        refine lv_lload hx hb dM_part_126 (lv_at hl 1 rfl) ?_
        obtain ⟨r_33, hc_34⟩ : ∃ r9, sM_piece mz ((mz.2.1 8) p9.toNatClampNeg) ((mz.2.2 9) p9.toNatClampNeg) ((mz.2.2 10) p9.toNatClampNeg) (-r_12) (-(r_12 - r_14)) = some r9 := by
          cases hc9 : sM_piece mz ((mz.2.1 8) p9.toNatClampNeg) ((mz.2.2 9) p9.toNatClampNeg) ((mz.2.2 10) p9.toNatClampNeg) (-r_12) (-(r_12 - r_14)) with
          | some r9 => exact ⟨r9, rfl⟩
          | none => exfalso; simp only [sM_part, if_pos h_10, if_pos h_11, hc_13, hc_15, if_neg c_16, hc_27, if_pos c_28, hc9] at hok; cases hok
        refine rw_iA (va_runV (As := [.int ((mz.2.1 8) p9.toNatClampNeg), .long ((mz.2.2 9) p9.toNatClampNeg), .long ((mz.2.2 10) p9.toNatClampNeg), .long (-r_12), .long (-(r_12 - r_14))]) (rest := []) ⟨hx, hb, hml, hown, ht⟩ (cM_piece l g s.heap.size aM b mz ((mz.2.1 8) p9.toNatClampNeg) ((mz.2.2 9) p9.toNatClampNeg) ((mz.2.2 10) p9.toNatClampNeg) (-r_12) (-(r_12 - r_14))  r_33 hc_34) (cwV 5 ht (g_V q_700 q_702 q_20 q_39 q_703) rfl rfl rfl hd_M_piece ⟨Nat.le_of_ble_eq_true rfl, Nat.le_of_ble_eq_true rfl⟩) (rw_V hK hP hD (va_recv hK.1 hP (ci := 6) (q0 := 0) rfl rfl)) rfl rfl hl.1 rfl (lv_room (Nat.le_of_ble_eq_true rfl)) dM_part_128 ⟨Nat.zero_le _, Nat.zero_le _⟩) hD hS hA (fun rr _ H locs hw hP hD hS => ?_)
        subst hw
        have hP : va_P g.1 vwCl (mX g aM b (r_33.1)) H := hP
        have hD : va_D A (mX g aM b (r_33.1)) := hD
        refine lv_goto (tgt := 156) hx hb dM_part_131 (by decide) ?_
        simp only [sM_part, if_pos h_10, if_pos h_11, hc_13, hc_15, if_neg c_16, hc_27, if_pos c_28, hc_34] at hok
        have hF := Option.some.inj hok
        subst hF
        exact W.iret hx hb hr (fun t ht9 hW => ⟨⟨_, (), rfl, rfl, by rw [ht9]; exact hP, hD⟩, hS.F ht9⟩) hS.2.2 dM_part_156
