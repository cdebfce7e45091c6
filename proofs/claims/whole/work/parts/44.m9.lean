
def sM_isNode (mz : MSt) (k : Int32) (N9 : Nat) (N2 : Nat) : Option (MSt × Int32) :=
  (match sM_know mz  N9 N2 with
  | none => none
  | some r_1 => if k < 0 then
      some (r_1, 0)
    else
      if (r_1.1 28) ≤ k then
        some (r_1, 0)
      else
        some (r_1, 1))

set_option maxHeartbeats 4000000 in
set_option maxRecDepth 100000 in
theorem cM_isNode (l : Launch) (g : CX) (sz : Nat) (aM : Nat) (b : Nat → Nat) (mz : MSt) (k : Int32) (N9 : Nat) (N2 : Nat) (r0 : MSt × Int32) (hok : sM_isNode mz k N9 N2 = some r0) : Met l yM_isNode (wm yM_isNode kM_isNode 2 (some .boolean)) ({ frames := 8, cells := 0, slots := 0, locals := 235 }) (rw g [.ref aM, .int k] (mX g aM b mz) sz) (va_Qi (fun (r : Int32) (_u : Unit) => r = r0.2) (rB g (va_A (mX g aM b mz) sz) (fun _u => (mX g aM b r0.1))) (va_A (mX g aM b mz) sz)) 0 0 (va_A (mX g aM b mz) sz) := by
  refine Met.ofW (cc := kM_isNode) (maxL := 2) (ret := (some .boolean)) (by decide) rfl ?_
  intro p e s m args below meth c s₁ B hml hv
  obtain ⟨rfl, hsz, hK, hP, hD0⟩ := hv
  have hx := B.exec
  have hb := B.bytes
  have hr := B.returns
  have ht : ∀ w ∈ wT, w.before _ s = true := fun w h => atoms_spec (ws := wm yM_isNode kM_isNode 2 (some .boolean)) B.pre w (List.mem_cons_of_mem _ h)
  have hown : s.vm.findClass "NodeMakerModel" = some m.cls := findClass_of_methodNamed B.named
  have hlocks := B.notSynchronized
  subst hsz
  have hD := hD0.self (sz := s.heap.size)
  generalize hAe : va_A (mX g aM b mz) s.heap.size = A at hD ⊢
  have hA : ∀ q : Nat, s.heap.size ≤ q → A q := fun q h => by rw [← hAe]; exact Or.inr h
  have hS : va_S A s.heap s.heap [] := va_S.rf
  have hl := lv_entry ([.ref aM, .int k]) (n := 2) (Nat.le_of_ble_eq_true rfl)
  rw [lg_entry_eq]
  generalize (lg_sl ([.ref aM, .int k]) ++ List.replicate (2 - (lg_sl ([.ref aM, .int k])).length) Slot.unset).toArray = ls at hl ⊢
  have hl : lv_has ls 2 [(0, .ref aM), (1, .int k)] := hl
  refine lv_aload_n hx hb dM_isNode_0 rfl (lv_at hl 0 rfl) ?_
  obtain ⟨r_1, hc_2⟩ : ∃ r9, sM_know mz  N9 N2 = some r9 := by
    cases hc9 : sM_know mz  N9 N2 with
    | some r9 => exact ⟨r9, rfl⟩
    | none => exfalso; simp only [sM_isNode, hc9] at hok; cases hok
  refine rw_vA (va_runV (As := []) (rest := []) ⟨hx, hb, hml, hown, ht⟩ (cM_know l g s.heap.size aM b mz  N9 N2 r_1 hc_2) (cwV 0 ht (g_V q_692 q_694 q_18 q_39 q_695) rfl rfl rfl hd_M_know ⟨Nat.le_of_ble_eq_true rfl, Nat.le_of_ble_eq_true rfl⟩) (rw_V hK hP hD (va_recv hK.1 hP (ci := 6) (q0 := 0) rfl rfl)) rfl rfl hl.1 rfl (lv_room (Nat.le_of_ble_eq_true rfl)) dM_isNode_1 ⟨Nat.zero_le _, Nat.zero_le _⟩) hD hS hA (fun _ H locs _ hP hD hS => ?_)
  have hP : va_P g.1 vwCl (mX g aM b (r_1)) H := hP
  have hD : va_D A (mX g aM b (r_1)) := hD
  refine lv_iload_n hx hb dM_isNode_4 rfl (lv_at hl 1 rfl) ?_
  refine lv_if_lt (tgt := 20) hx hb dM_isNode_5 (by decide) (fun c_3 => ?_) (fun c_3 => ?_)
  · skip
    refine lv_iconst (v := 0) hx hb dM_isNode_20 (by decide) ?_
    simp only [sM_isNode, hc_2, if_pos c_3] at hok
    have hF := Option.some.inj hok
    subst hF
    exact W.zret hx hb hr rfl (fun t ht9 hW => ⟨⟨_, (), rfl, rfl, by rw [ht9]; exact hP, hD⟩, hS.F ht9⟩) hS.2.2 dM_isNode_21
  · skip
    refine lv_iload_n hx hb dM_isNode_8 rfl (lv_at hl 1 rfl) ?_
    refine lv_aload_n hx hb dM_isNode_9 rfl (lv_at hl 0 rfl) ?_
    refine va_get (D := g.1) (ci := 6) (v := .int (r_1.1 28)) (C := "NodeMakerModel") (T := Fd_M) (N := 37) hx hb ht i_M hown hK.1 hP 0 rfl rfl 28 (by decide) (ht _ q_553) (fun _ h9 => h9) rfl dM_isNode_10 ?_
    refine lv_icmp_ge (tgt := 20) hx hb dM_isNode_13 (by decide) (fun c_4 => ?_) (fun c_4 => ?_)
    · skip
      refine lv_iconst (v := 0) hx hb dM_isNode_20 (by decide) ?_
      simp only [sM_isNode, hc_2, if_neg c_3, if_pos c_4] at hok
      have hF := Option.some.inj hok
      subst hF
      exact W.zret hx hb hr rfl (fun t ht9 hW => ⟨⟨_, (), rfl, rfl, by rw [ht9]; exact hP, hD⟩, hS.F ht9⟩) hS.2.2 dM_isNode_21
    · skip
      refine lv_iconst (v := 1) hx hb dM_isNode_16 (by decide) ?_
      refine lv_goto (tgt := 21) hx hb dM_isNode_17 (by decide) ?_
      simp only [sM_isNode, hc_2, if_neg c_3, if_neg c_4] at hok
      have hF := Option.some.inj hok
      subst hF
      exact W.zret hx hb hr rfl (fun t ht9 hW => ⟨⟨_, (), rfl, rfl, by rw [ht9]; exact hP, hD⟩, hS.F ht9⟩) hS.2.2 dM_isNode_21

def sM_isOn (mz : MSt) (k : Int32) (i : Int32) (N9 : Nat) (N2 : Nat) : Option (MSt × Int32) :=
  (match sM_isNode mz k N9 N2 with
  | none => none
  | some r_5 => if r_5.2 = 0 then
      some (r_5.1, 0)
    else
      if i < 0 then
        some (r_5.1, 0)
      else
        (match sM_isNode r_5.1 k N9 N2 with
        | none => none
        | some r_9 => if r_9.2 = 0 then
            if vpin 0 4200 then
              if ((r_9.1.2.1 26) ((0 : Int32).toNatClampNeg)) ≤ i then
                some (r_9.1, 0)
              else
                some (r_9.1, 1)
            else
              none
          else
            if vpin k 4200 then
              if ((r_9.1.2.1 26) k.toNatClampNeg) ≤ i then
                some (r_9.1, 0)
              else
                some (r_9.1, 1)
            else
              none))

set_option maxHeartbeats 4000000 in
set_option maxRecDepth 100000 in
theorem cM_isOn (l : Launch) (g : CX) (sz : Nat) (aM : Nat) (b : Nat → Nat) (mz : MSt) (k : Int32) (i : Int32) (N9 : Nat) (N2 : Nat) (r0 : MSt × Int32) (hok : sM_isOn mz k i N9 N2 = some r0) : Met l yM_isOn (wm yM_isOn kM_isOn 3 (some .boolean)) ({ frames := 9, cells := 0, slots := 0, locals := 256 }) (rw g [.ref aM, .int k, .int i] (mX g aM b mz) sz) (va_Qi (fun (r : Int32) (_u : Unit) => r = r0.2) (rB g (va_A (mX g aM b mz) sz) (fun _u => (mX g aM b r0.1))) (va_A (mX g aM b mz) sz)) 0 0 (va_A (mX g aM b mz) sz) := by
  refine Met.ofW (cc := kM_isOn) (maxL := 3) (ret := (some .boolean)) (by decide) rfl ?_
  intro p e s m args below meth c s₁ B hml hv
  obtain ⟨rfl, hsz, hK, hP, hD0⟩ := hv
  have hx := B.exec
  have hb := B.bytes
  have hr := B.returns
  have ht : ∀ w ∈ wT, w.before _ s = true := fun w h => atoms_spec (ws := wm yM_isOn kM_isOn 3 (some .boolean)) B.pre w (List.mem_cons_of_mem _ h)
  have hown : s.vm.findClass "NodeMakerModel" = some m.cls := findClass_of_methodNamed B.named
  have hlocks := B.notSynchronized
  subst hsz
  have hD := hD0.self (sz := s.heap.size)
  generalize hAe : va_A (mX g aM b mz) s.heap.size = A at hD ⊢
  have hA : ∀ q : Nat, s.heap.size ≤ q → A q := fun q h => by rw [← hAe]; exact Or.inr h
  have hS : va_S A s.heap s.heap [] := va_S.rf
  have hl := lv_entry ([.ref aM, .int k, .int i]) (n := 3) (Nat.le_of_ble_eq_true rfl)
  rw [lg_entry_eq]
  generalize (lg_sl ([.ref aM, .int k, .int i]) ++ List.replicate (3 - (lg_sl ([.ref aM, .int k, .int i])).length) Slot.unset).toArray = ls at hl ⊢
  have hl : lv_has ls 3 [(0, .ref aM), (1, .int k), (2, .int i)] := hl
  refine lv_aload_n hx hb dM_isOn_0 rfl (lv_at hl 0 rfl) ?_
  refine lv_iload_n hx hb dM_isOn_1 rfl (lv_at hl 1 rfl) ?_
  obtain ⟨r_5, hc_6⟩ : ∃ r9, sM_isNode mz k N9 N2 = some r9 := by
    cases hc9 : sM_isNode mz k N9 N2 with
    | some r9 => exact ⟨r9, rfl⟩
    | none => exfalso; simp only [sM_isOn, hc9] at hok; cases hok
  refine rw_iA (va_runV (As := [.int k]) (rest := []) ⟨hx, hb, hml, hown, ht⟩ (cM_isNode l g s.heap.size aM b mz k N9 N2 r_5 hc_6) (cwV 1 ht (g_V q_688 q_690 q_17 q_39 q_691) rfl rfl rfl hd_M_isNode ⟨Nat.le_of_ble_eq_true rfl, Nat.le_of_ble_eq_true rfl⟩) (rw_V hK hP hD (va_recv hK.1 hP (ci := 6) (q0 := 0) rfl rfl)) rfl rfl hl.1 rfl (lv_room (Nat.le_of_ble_eq_true rfl)) dM_isOn_2 ⟨Nat.zero_le _, Nat.zero_le _⟩) hD hS hA (fun rr _ H locs hw hP hD hS => ?_)
  subst hw
  have hP : va_P g.1 vwCl (mX g aM b (r_5.1)) H := hP
  have hD : va_D A (mX g aM b (r_5.1)) := hD
  refine lv_if_eq (tgt := 38) hx hb dM_isOn_5 (by decide) (fun c_7 => ?_) (fun c_7 => ?_)
  · skip
    refine lv_iconst (v := 0) hx hb dM_isOn_38 (by decide) ?_
    simp only [sM_isOn, hc_6, if_pos c_7] at hok
    have hF := Option.some.inj hok
    subst hF
    exact W.zret hx hb hr rfl (fun t ht9 hW => ⟨⟨_, (), rfl, rfl, by rw [ht9]; exact hP, hD⟩, hS.F ht9⟩) hS.2.2 dM_isOn_39
  · skip
    refine lv_iload_n hx hb dM_isOn_8 rfl (lv_at hl 2 rfl) ?_
    refine lv_if_lt (tgt := 38) hx hb dM_isOn_9 (by decide) (fun c_8 => ?_) (fun c_8 => ?_)
    · skip
      refine lv_iconst (v := 0) hx hb dM_isOn_38 (by decide) ?_
      simp only [sM_isOn, hc_6, if_neg c_7, if_pos c_8] at hok
      have hF := Option.some.inj hok
      subst hF
      exact W.zret hx hb hr rfl (fun t ht9 hW => ⟨⟨_, (), rfl, rfl, by rw [ht9]; exact hP, hD⟩, hS.F ht9⟩) hS.2.2 dM_isOn_39
    · skip
      refine lv_iload_n hx hb dM_isOn_12 rfl (lv_at hl 2 rfl) ?_
      refine lv_aload_n hx hb dM_isOn_13 rfl (lv_at hl 0 rfl) ?_
      refine va_get (D := g.1) (ci := 6) (v := .ref (b 26)) (C := "NodeMakerModel") (T := Fd_M) (N := 37) hx hb ht i_M hown hK.1 hP 0 rfl rfl 26 (by decide) (ht _ q_551) (fun _ h9 => h9) rfl dM_isOn_14 ?_
      refine lv_aload_n hx hb dM_isOn_17 rfl (lv_at hl 0 rfl) ?_
      refine lv_iload_n hx hb dM_isOn_18 rfl (lv_at hl 1 rfl) ?_
      obtain ⟨r_9, hc_10⟩ : ∃ r9, sM_isNode r_5.1 k N9 N2 = some r9 := by
        cases hc9 : sM_isNode r_5.1 k N9 N2 with
        | some r9 => exact ⟨r9, rfl⟩
        | none => exfalso; simp only [sM_isOn, hc_6, if_neg c_7, if_neg c_8, hc9] at hok; cases hok
      refine rw_iA (va_runV (As := [.int k]) (rest := [.ref (b 26), .int i]) ⟨hx, hb, hml, hown, ht⟩ (cM_isNode l g H.size aM b r_5.1 k N9 N2 r_9 hc_10) (cwV 1 ht (g_V q_688 q_690 q_17 q_39 q_691) rfl rfl rfl hd_M_isNode ⟨Nat.le_of_ble_eq_true rfl, Nat.le_of_ble_eq_true rfl⟩) (rw_V hK hP hD (va_recv hK.1 hP (ci := 6) (q0 := 0) rfl rfl)) rfl rfl hl.1 rfl (lv_room (Nat.le_of_ble_eq_true rfl)) dM_isOn_19 ⟨Nat.zero_le _, Nat.zero_le _⟩) hD hS hA (fun rr _ H locs hw hP hD hS => ?_)
      subst hw
      have hP : va_P g.1 vwCl (mX g aM b (r_9.1)) H := hP
      have hD : va_D A (mX g aM b (r_9.1)) := hD
      refine lv_if_eq (tgt := 29) hx hb dM_isOn_22 (by decide) (fun c_11 => ?_) (fun c_11 => ?_)
      · skip
        refine lv_iconst (v := 0) hx hb dM_isOn_29 (by decide) ?_
        have h_12 : vpin 0 4200 := Decidable.byContradiction (fun h9 => by simp only [sM_isOn, hc_6, if_neg c_7, if_neg c_8, hc_10, if_pos c_11, if_neg h9] at hok; cases hok)
        refine va_iald hx hb hK.1 hP 21 0 rfl rfl (vp_in_iff.mpr h_12) dM_isOn_30 ?_
        refine lv_icmp_ge (tgt := 38) hx hb dM_isOn_31 (by decide) (fun c_13 => ?_) (fun c_13 => ?_)
        · skip
          refine lv_iconst (v := 0) hx hb dM_isOn_38 (by decide) ?_
          simp only [sM_isOn, hc_6, if_neg c_7, if_neg c_8, hc_10, if_pos c_11, if_pos h_12, if_pos c_13] at hok
          have hF := Option.some.inj hok
          subst hF
          exact W.zret hx hb hr rfl (fun t ht9 hW => ⟨⟨_, (), rfl, rfl, by rw [ht9]; exact hP, hD⟩, hS.F ht9⟩) hS.2.2 dM_isOn_39
        · skip
          refine lv_iconst (v := 1) hx hb dM_isOn_34 (by decide) ?_
          refine lv_goto (tgt := 39) hx hb dM_isOn_35 (by decide) ?_
          simp only [sM_isOn, hc_6, if_neg c_7, if_neg c_8, hc_10, if_pos c_11, if_pos h_12, if_neg c_13] at hok
          have hF := Option.some.inj hok
          subst hF
          exact W.zret hx hb hr rfl (fun t ht9 hW => ⟨⟨_, (), rfl, rfl, by rw [ht9]; exact hP, hD⟩, hS.F ht9⟩) hS.2.2 dM_isOn_39
      · skip
        refine lv_iload_n hx hb dM_isOn_25 rfl (lv_at hl 1 rfl) ?_
        refine lv_goto (tgt := 30) hx hb dM_isOn_26 (by decide) ?_
        have h_14 : vpin k 4200 := Decidable.byContradiction (fun h9 => by simp only [sM_isOn, hc_6, if_neg c_7, if_neg c_8, hc_10, if_neg c_11, if_neg h9] at hok; cases hok)
        refine va_iald hx hb hK.1 hP 21 0 rfl rfl (vp_in_iff.mpr h_14) dM_isOn_30 ?_
        refine lv_icmp_ge (tgt := 38) hx hb dM_isOn_31 (by decide) (fun c_15 => ?_) (fun c_15 => ?_)
        · skip
          refine lv_iconst (v := 0) hx hb dM_isOn_38 (by decide) ?_
          simp only [sM_isOn, hc_6, if_neg c_7, if_neg c_8, hc_10, if_neg c_11, if_pos h_14, if_pos c_15] at hok
          have hF := Option.some.inj hok
          subst hF
          exact W.zret hx hb hr rfl (fun t ht9 hW => ⟨⟨_, (), rfl, rfl, by rw [ht9]; exact hP, hD⟩, hS.F ht9⟩) hS.2.2 dM_isOn_39
        · skip
          refine lv_iconst (v := 1) hx hb dM_isOn_34 (by decide) ?_
          refine lv_goto (tgt := 39) hx hb dM_isOn_35 (by decide) ?_
          simp only [sM_isOn, hc_6, if_neg c_7, if_neg c_8, hc_10, if_neg c_11, if_pos h_14, if_neg c_15] at hok
          have hF := Option.some.inj hok
          subst hF
          exact W.zret hx hb hr rfl (fun t ht9 hW => ⟨⟨_, (), rfl, rfl, by rw [ht9]; exact hP, hD⟩, hS.F ht9⟩) hS.2.2 dM_isOn_39

def sM_wall (mz : MSt) (k : Int32) (i : Int32) (N9 : Nat) (N2 : Nat) : Option (MSt × Int32) :=
  (match sM_isOn (mV 0 0 mz) k i N9 N2 with
  | none => none
  | some r_17 => if r_17.2 = 0 then
      some (r_17.1, (-1))
    else
      if vpin k 4200 then
        if vpin (((r_17.1.2.1 25) k.toNatClampNeg) + i) 8300 then
          if vpin ((r_17.1.2.1 27) ((((r_17.1.2.1 25) k.toNatClampNeg) + i).toNatClampNeg)) 8300 then
            some (r_17.1, ((r_17.1.2.1 8) (((r_17.1.2.1 27) ((((r_17.1.2.1 25) k.toNatClampNeg) + i).toNatClampNeg)).toNatClampNeg)))
          else
            none
        else
          none
      else
        none)

set_option maxHeartbeats 4000000 in
set_option maxRecDepth 100000 in
theorem cM_wall (l : Launch) (g : CX) (sz : Nat) (aM : Nat) (b : Nat → Nat) (mz : MSt) (k : Int32) (i : Int32) (N9 : Nat) (N2 : Nat) (r0 : MSt × Int32) (hok : sM_wall mz k i N9 N2 = some r0) : Met l yM_wall (wm yM_wall kM_wall 3 (some .int)) ({ frames := 10, cells := 0, slots := 0, locals := 278 }) (rw g [.ref aM, .int k, .int i] (mX g aM b mz) sz) (va_Qi (fun (r : Int32) (_u : Unit) => r = r0.2) (rB g (va_A (mX g aM b mz) sz) (fun _u => (mX g aM b r0.1))) (va_A (mX g aM b mz) sz)) 0 0 (va_A (mX g aM b mz) sz) := by
  refine Met.ofW (cc := kM_wall) (maxL := 3) (ret := (some .int)) (by decide) rfl ?_
  intro p e s m args below meth c s₁ B hml hv
  obtain ⟨rfl, hsz, hK, hP, hD0⟩ := hv
  have hx := B.exec
  have hb := B.bytes
  have hr := B.returns
  have ht : ∀ w ∈ wT, w.before _ s = true := fun w h => atoms_spec (ws := wm yM_wall kM_wall 3 (some .int)) B.pre w (List.mem_cons_of_mem _ h)
  have hown : s.vm.findClass "NodeMakerModel" = some m.cls := findClass_of_methodNamed B.named
  have hlocks := B.notSynchronized
  subst hsz
  have hD := hD0.self (sz := s.heap.size)
  generalize hAe : va_A (mX g aM b mz) s.heap.size = A at hD ⊢
  have hA : ∀ q : Nat, s.heap.size ≤ q → A q := fun q h => by rw [← hAe]; exact Or.inr h
  have hS : va_S A s.heap s.heap [] := va_S.rf
  have hl := lv_entry ([.ref aM, .int k, .int i]) (n := 3) (Nat.le_of_ble_eq_true rfl)
  rw [lg_entry_eq]
  generalize (lg_sl ([.ref aM, .int k, .int i]) ++ List.replicate (3 - (lg_sl ([.ref aM, .int k, .int i])).length) Slot.unset).toArray = ls at hl ⊢
  have hl : lv_has ls 3 [(0, .ref aM), (1, .int k), (2, .int i)] := hl
  refine lv_aload_n hx hb dM_wall_0 rfl (lv_at hl 0 rfl) ?_
  refine lv_iconst (v := 0) hx hb dM_wall_1 (by decide) ?_
  refine va_put (D := g.1) (ci := 6) (v := .int 0) (ty := .int) (C := "NodeMakerModel") (T := Fd_M) (N := 37) hx hb ht i_M ty_M ty_M_ok nm_M hown hK.1 hP hD hS 0 rfl rfl 0 (by decide) (ht _ q_525) (fun _ h9 => h9) rfl (by decide +kernel) rfl rfl (Nat.le_of_ble_eq_true rfl) dM_wall_2 (fun H locs hP hD hS => ?_)
  have hP : va_P g.1 vwCl (mX g aM b (mV 0 0 mz)) H := hP
  have hD : va_D A (mX g aM b (mV 0 0 mz)) := hD
  simp only [sM_wall] at hok
  obtain ⟨z_16, ez_16⟩ : ∃ x9, x9 = mV 0 0 mz := ⟨_, rfl⟩
  rw [← ez_16] at hP hD hok
  refine lv_aload_n hx hb dM_wall_5 rfl (lv_at hl 0 rfl) ?_
  refine lv_iload_n hx hb dM_wall_6 rfl (lv_at hl 1 rfl) ?_
  refine lv_iload_n hx hb dM_wall_7 rfl (lv_at hl 2 rfl) ?_
  obtain ⟨r_17, hc_18⟩ : ∃ r9, sM_isOn z_16 k i N9 N2 = some r9 := by
    cases hc9 : sM_isOn z_16 k i N9 N2 with
    | some r9 => exact ⟨r9, rfl⟩
    | none => exfalso; simp only [hc9] at hok; cases hok
  refine rw_iA (va_runV (As := [.int k, .int i]) (rest := []) ⟨hx, hb, hml, hown, ht⟩ (cM_isOn l g H.size aM b z_16 k i N9 N2 r_17 hc_18) (cwV 2 ht (g_V q_749 q_751 q_29 q_39 q_752) rfl rfl rfl hd_M_isOn ⟨Nat.le_of_ble_eq_true rfl, Nat.le_of_ble_eq_true rfl⟩) (rw_V hK hP hD (va_recv hK.1 hP (ci := 6) (q0 := 0) rfl rfl)) rfl rfl hl.1 rfl (lv_room (Nat.le_of_ble_eq_true rfl)) dM_wall_8 ⟨Nat.zero_le _, Nat.zero_le _⟩) hD hS hA (fun rr _ H locs hw hP hD hS => ?_)
  subst hw
  have hP : va_P g.1 vwCl (mX g aM b (r_17.1)) H := hP
  have hD : va_D A (mX g aM b (r_17.1)) := hD
  refine lv_if_eq (tgt := 35) hx hb dM_wall_11 (by decide) (fun c_19 => ?_) (fun c_19 => ?_)
  · skip
    refine lv_iconst (v := -1) hx hb dM_wall_35 (by decide) ?_
    simp only [hc_18, if_pos c_19] at hok
    have hF := Option.some.inj hok
    subst hF
    exact W.iret hx hb hr (fun t ht9 hW => ⟨⟨_, (), rfl, rfl, by rw [ht9]; exact hP, hD⟩, hS.F ht9⟩) hS.2.2 dM_wall_36
  · skip
    refine lv_aload_n hx hb dM_wall_14 rfl (lv_at hl 0 rfl) ?_
    refine va_get (D := g.1) (ci := 6) (v := .ref (b 8)) (C := "NodeMakerModel") (T := Fd_M) (N := 37) hx hb ht i_M hown hK.1 hP 0 rfl rfl 8 (by decide) (ht _ q_533) (fun _ h9 => h9) rfl dM_wall_15 ?_
    refine lv_aload_n hx hb dM_wall_18 rfl (lv_at hl 0 rfl) ?_
    refine va_get (D := g.1) (ci := 6) (v := .ref (b 27)) (C := "NodeMakerModel") (T := Fd_M) (N := 37) hx hb ht i_M hown hK.1 hP 0 rfl rfl 27 (by decide) (ht _ q_552) (fun _ h9 => h9) rfl dM_wall_19 ?_
    refine lv_aload_n hx hb dM_wall_22 rfl (lv_at hl 0 rfl) ?_
    refine va_get (D := g.1) (ci := 6) (v := .ref (b 25)) (C := "NodeMakerModel") (T := Fd_M) (N := 37) hx hb ht i_M hown hK.1 hP 0 rfl rfl 25 (by decide) (ht _ q_550) (fun _ h9 => h9) rfl dM_wall_23 ?_
    refine lv_iload_n hx hb dM_wall_26 rfl (lv_at hl 1 rfl) ?_
    have h_20 : vpin k 4200 := Decidable.byContradiction (fun h9 => by simp only [hc_18, if_neg c_19, if_neg h9] at hok; cases hok)
    refine va_iald hx hb hK.1 hP 20 0 rfl rfl (vp_in_iff.mpr h_20) dM_wall_27 ?_
    refine lv_iload_n hx hb dM_wall_28 rfl (lv_at hl 2 rfl) ?_
    refine lv_iadd hx hb dM_wall_29 ?_
    have h_21 : vpin (((r_17.1.2.1 25) k.toNatClampNeg) + i) 8300 := Decidable.byContradiction (fun h9 => by simp only [hc_18, if_neg c_19, if_pos h_20, if_neg h9] at hok; cases hok)
    refine va_iald hx hb hK.1 hP 22 0 rfl rfl (vp_in_iff.mpr h_21) dM_wall_30 ?_
    have h_22 : vpin ((r_17.1.2.1 27) ((((r_17.1.2.1 25) k.toNatClampNeg) + i).toNatClampNeg)) 8300 := Decidable.byContradiction (fun h9 => by simp only [hc_18, if_neg c_19, if_pos h_20, if_pos h_21, if_neg h9] at hok; cases hok)
    refine va_iald hx hb hK.1 hP 6 0 rfl rfl (vp_in_iff.mpr h_22) dM_wall_31 ?_
    refine lv_goto (tgt := 36) hx hb dM_wall_32 (by decide) ?_
    simp only [hc_18, if_neg c_19, if_pos h_20, if_pos h_21, if_pos h_22] at hok
    have hF := Option.some.inj hok
    subst hF
    exact W.iret hx hb hr (fun t ht9 hW => ⟨⟨_, (), rfl, rfl, by rw [ht9]; exact hP, hD⟩, hS.F ht9⟩) hS.2.2 dM_wall_36

def sM_look (mz : MSt) (wh : Int32) (N9 : Nat) (N2 : Nat) : Option (MSt × Int32) :=
  (match sM_know (mV 0 0 mz)  N9 N2 with
  | none => none
  | some r_24 => if wh = 0 then
      some (r_24, (r_24.1 6))
    else
      if wh = 1 then
        some (r_24, (r_24.1 28))
      else
        if wh = 2 then
          some (r_24, (r_24.1 29))
        else
          if wh = 3 then
            some (r_24, (r_24.1 30))
          else
            if wh = 4 then
              some (r_24, (r_24.1 31))
            else
              if wh = 5 then
                some (r_24, (r_24.1 14))
              else
                some (r_24, (-1)))

set_option maxHeartbeats 4000000 in
set_option maxRecDepth 100000 in
theorem cM_look (l : Launch) (g : CX) (sz : Nat) (aM : Nat) (b : Nat → Nat) (mz : MSt) (wh : Int32) (N9 : Nat) (N2 : Nat) (r0 : MSt × Int32) (hok : sM_look mz wh N9 N2 = some r0) : Met l yM_look (wm yM_look kM_look 2 (some .int)) ({ frames := 8, cells := 0, slots := 0, locals := 235 }) (rw g [.ref aM, .int wh] (mX g aM b mz) sz) (va_Qi (fun (r : Int32) (_u : Unit) => r = r0.2) (rB g (va_A (mX g aM b mz) sz) (fun _u => (mX g aM b r0.1))) (va_A (mX g aM b mz) sz)) 0 0 (va_A (mX g aM b mz) sz) := by
  refine Met.ofW (cc := kM_look) (maxL := 2) (ret := (some .int)) (by decide) rfl ?_
  intro p e s m args below meth c s₁ B hml hv
  obtain ⟨rfl, hsz, hK, hP, hD0⟩ := hv
  have hx := B.exec
  have hb := B.bytes
  have hr := B.returns
  have ht : ∀ w ∈ wT, w.before _ s = true := fun w h => atoms_spec (ws := wm yM_look kM_look 2 (some .int)) B.pre w (List.mem_cons_of_mem _ h)
  have hown : s.vm.findClass "NodeMakerModel" = some m.cls := findClass_of_methodNamed B.named
  have hlocks := B.notSynchronized
  subst hsz
  have hD := hD0.self (sz := s.heap.size)
  generalize hAe : va_A (mX g aM b mz) s.heap.size = A at hD ⊢
  have hA : ∀ q : Nat, s.heap.size ≤ q → A q := fun q h => by rw [← hAe]; exact Or.inr h
  have hS : va_S A s.heap s.heap [] := va_S.rf
  have hl := lv_entry ([.ref aM, .int wh]) (n := 2) (Nat.le_of_ble_eq_true rfl)
  rw [lg_entry_eq]
  generalize (lg_sl ([.ref aM, .int wh]) ++ List.replicate (2 - (lg_sl ([.ref aM, .int wh])).length) Slot.unset).toArray = ls at hl ⊢
  have hl : lv_has ls 2 [(0, .ref aM), (1, .int wh)] := hl
  refine lv_aload_n hx hb dM_look_0 rfl (lv_at hl 0 rfl) ?_
  refine lv_iconst (v := 0) hx hb dM_look_1 (by decide) ?_
  refine va_put (D := g.1) (ci := 6) (v := .int 0) (ty := .int) (C := "NodeMakerModel") (T := Fd_M) (N := 37) hx hb ht i_M ty_M ty_M_ok nm_M hown hK.1 hP hD hS 0 rfl rfl 0 (by decide) (ht _ q_525) (fun _ h9 => h9) rfl (by decide +kernel) rfl rfl (Nat.le_of_ble_eq_true rfl) dM_look_2 (fun H locs hP hD hS => ?_)
  have hP : va_P g.1 vwCl (mX g aM b (mV 0 0 mz)) H := hP
  have hD : va_D A (mX g aM b (mV 0 0 mz)) := hD
  simp only [sM_look] at hok
  obtain ⟨z_23, ez_23⟩ : ∃ x9, x9 = mV 0 0 mz := ⟨_, rfl⟩
  rw [← ez_23] at hP hD hok
  refine lv_aload_n hx hb dM_look_5 rfl (lv_at hl 0 rfl) ?_
  obtain ⟨r_24, hc_25⟩ : ∃ r9, sM_know z_23  N9 N2 = some r9 := by
    cases hc9 : sM_know z_23  N9 N2 with
    | some r9 => exact ⟨r9, rfl⟩
    | none => exfalso; simp only [hc9] at hok; cases hok
  refine rw_vA (va_runV (As := []) (rest := []) ⟨hx, hb, hml, hown, ht⟩ (cM_know l g H.size aM b z_23  N9 N2 r_24 hc_25) (cwV 0 ht (g_V q_692 q_694 q_18 q_39 q_695) rfl rfl rfl hd_M_know ⟨Nat.le_of_ble_eq_true rfl, Nat.le_of_ble_eq_true rfl⟩) (rw_V hK hP hD (va_recv hK.1 hP (ci := 6) (q0 := 0) rfl rfl)) rfl rfl hl.1 rfl (lv_room (Nat.le_of_ble_eq_true rfl)) dM_look_6 ⟨Nat.zero_le _, Nat.zero_le _⟩) hD hS hA (fun _ H locs _ hP hD hS => ?_)
  have hP : va_P g.1 vwCl (mX g aM b (r_24)) H := hP
  have hD : va_D A (mX g aM b (r_24)) := hD
  refine lv_iload_n hx hb dM_look_9 rfl (lv_at hl 1 rfl) ?_
  by_cases c_26 : wh = 0
  · skip
    refine lv_tableIn (off := 38) (tgt := 48) hx hb dM_look_10 (by rw [c_26]; decide) (by rw [c_26]; decide) (by rw [c_26]; decide) (by decide) ?_
    refine lv_aload_n hx hb dM_look_48 rfl (lv_at hl 0 rfl) ?_
    refine va_get (D := g.1) (ci := 6) (v := .int (r_24.1 6)) (C := "NodeMakerModel") (T := Fd_M) (N := 37) hx hb ht i_M hown hK.1 hP 0 rfl rfl 6 (by decide) (ht _ q_531) (fun _ h9 => h9) rfl dM_look_49 ?_
    simp only [hc_25, if_pos c_26] at hok
    have hF := Option.some.inj hok
    subst hF
    exact W.iret hx hb hr (fun t ht9 hW => ⟨⟨_, (), rfl, rfl, by rw [ht9]; exact hP, hD⟩, hS.F ht9⟩) hS.2.2 dM_look_52
  by_cases c_27 : wh = 1
  · skip
    refine lv_tableIn (off := 43) (tgt := 53) hx hb dM_look_10 (by rw [c_27]; decide) (by rw [c_27]; decide) (by rw [c_27]; decide) (by decide) ?_
    refine lv_aload_n hx hb dM_look_53 rfl (lv_at hl 0 rfl) ?_
    refine va_get (D := g.1) (ci := 6) (v := .int (r_24.1 28)) (C := "NodeMakerModel") (T := Fd_M) (N := 37) hx hb ht i_M hown hK.1 hP 0 rfl rfl 28 (by decide) (ht _ q_553) (fun _ h9 => h9) rfl dM_look_54 ?_
    simp only [hc_25, if_neg c_26, if_pos c_27] at hok
    have hF := Option.some.inj hok
    subst hF
    exact W.iret hx hb hr (fun t ht9 hW => ⟨⟨_, (), rfl, rfl, by rw [ht9]; exact hP, hD⟩, hS.F ht9⟩) hS.2.2 dM_look_57
  by_cases c_28 : wh = 2
  · skip
    refine lv_tableIn (off := 48) (tgt := 58) hx hb dM_look_10 (by rw [c_28]; decide) (by rw [c_28]; decide) (by rw [c_28]; decide) (by decide) ?_
    refine lv_aload_n hx hb dM_look_58 rfl (lv_at hl 0 rfl) ?_
    refine va_get (D := g.1) (ci := 6) (v := .int (r_24.1 29)) (C := "NodeMakerModel") (T := Fd_M) (N := 37) hx hb ht i_M hown hK.1 hP 0 rfl rfl 29 (by decide) (ht _ q_554) (fun _ h9 => h9) rfl dM_look_59 ?_
    simp only [hc_25, if_neg c_26, if_neg c_27, if_pos c_28] at hok
    have hF := Option.some.inj hok
    subst hF
    exact W.iret hx hb hr (fun t ht9 hW => ⟨⟨_, (), rfl, rfl, by rw [ht9]; exact hP, hD⟩, hS.F ht9⟩) hS.2.2 dM_look_62
  by_cases c_29 : wh = 3
  · skip
    refine lv_tableIn (off := 53) (tgt := 63) hx hb dM_look_10 (by rw [c_29]; decide) (by rw [c_29]; decide) (by rw [c_29]; decide) (by decide) ?_
    refine lv_aload_n hx hb dM_look_63 rfl (lv_at hl 0 rfl) ?_
    refine va_get (D := g.1) (ci := 6) (v := .int (r_24.1 30)) (C := "NodeMakerModel") (T := Fd_M) (N := 37) hx hb ht i_M hown hK.1 hP 0 rfl rfl 30 (by decide) (ht _ q_555) (fun _ h9 => h9) rfl dM_look_64 ?_
    simp only [hc_25, if_neg c_26, if_neg c_27, if_neg c_28, if_pos c_29] at hok
    have hF := Option.some.inj hok
    subst hF
    exact W.iret hx hb hr (fun t ht9 hW => ⟨⟨_, (), rfl, rfl, by rw [ht9]; exact hP, hD⟩, hS.F ht9⟩) hS.2.2 dM_look_67
  by_cases c_30 : wh = 4
  · skip
    refine lv_tableIn (off := 58) (tgt := 68) hx hb dM_look_10 (by rw [c_30]; decide) (by rw [c_30]; decide) (by rw [c_30]; decide) (by decide) ?_
    refine lv_aload_n hx hb dM_look_68 rfl (lv_at hl 0 rfl) ?_
    refine va_get (D := g.1) (ci := 6) (v := .int (r_24.1 31)) (C := "NodeMakerModel") (T := Fd_M) (N := 37) hx hb ht i_M hown hK.1 hP 0 rfl rfl 31 (by decide) (ht _ q_556) (fun _ h9 => h9) rfl dM_look_69 ?_
    simp only [hc_25, if_neg c_26, if_neg c_27, if_neg c_28, if_neg c_29, if_pos c_30] at hok
    have hF := Option.some.inj hok
    subst hF
    exact W.iret hx hb hr (fun t ht9 hW => ⟨⟨_, (), rfl, rfl, by rw [ht9]; exact hP, hD⟩, hS.F ht9⟩) hS.2.2 dM_look_72
  by_cases c_31 : wh = 5
  · skip
    refine lv_tableIn (off := 63) (tgt := 73) hx hb dM_look_10 (by rw [c_31]; decide) (by rw [c_31]; decide) (by rw [c_31]; decide) (by decide) ?_
    refine lv_aload_n hx hb dM_look_73 rfl (lv_at hl 0 rfl) ?_
    refine va_get (D := g.1) (ci := 6) (v := .int (r_24.1 14)) (C := "NodeMakerModel") (T := Fd_M) (N := 37) hx hb ht i_M hown hK.1 hP 0 rfl rfl 14 (by decide) (ht _ q_539) (fun _ h9 => h9) rfl dM_look_74 ?_
    simp only [hc_25, if_neg c_26, if_neg c_27, if_neg c_28, if_neg c_29, if_neg c_30, if_pos c_31] at hok
    have hF := Option.some.inj hok
    subst hF
    exact W.iret hx hb hr (fun t ht9 hW => ⟨⟨_, (), rfl, rfl, by rw [ht9]; exact hP, hD⟩, hS.F ht9⟩) hS.2.2 dM_look_77
  refine lv_tableOut (tgt := 78) hx hb dM_look_10 (sw_out6 c_26 c_27 c_28 c_29 c_30 c_31) (by decide) ?_
  refine lv_iconst (v := -1) hx hb dM_look_78 (by decide) ?_
  simp only [hc_25, if_neg c_26, if_neg c_27, if_neg c_28, if_neg c_29, if_neg c_30, if_neg c_31] at hok
  have hF := Option.some.inj hok
  subst hF
  exact W.iret hx hb hr (fun t ht9 hW => ⟨⟨_, (), rfl, rfl, by rw [ht9]; exact hP, hD⟩, hS.F ht9⟩) hS.2.2 dM_look_79

def sM_of (mz : MSt) (i : Int32) (what : Int32) (N9 : Nat) (N2 : Nat) : Option (MSt × Int32) :=
  (match sM_isWall (mV 0 0 mz) i with
  | none => none
  | some r_33 => if r_33 = 0 then
      some ((mV 0 0 mz), 100000)
    else
      if what < 0 then
        some ((mV 0 0 mz), 100000)
      else
        if what ≤ 4 then
          (match sM_know (mV 0 0 mz)  N9 N2 with
          | none => none
          | some r_38 => if what = 0 then
              if vpin i 64 then
                some (r_38, ((r_38.2.1 2) i.toNatClampNeg))
              else
                none
            else
              if what = 1 then
                if vpin i 64 then
                  some (r_38, ((r_38.2.1 3) i.toNatClampNeg))
                else
                  none
              else
                if what = 2 then
                  if vpin i 64 then
                    some (r_38, ((r_38.2.1 4) i.toNatClampNeg))
                  else
                    none
                else
                  if what = 3 then
                    if vpin i 64 then
                      some (r_38, ((r_38.2.1 5) i.toNatClampNeg))
                    else
                      none
                  else
                    if vpin i 64 then
                      some (r_38, ((r_38.2.1 32) i.toNatClampNeg))
                    else
                      none)
        else
          some ((mV 0 0 mz), 100000))

set_option maxHeartbeats 4000000 in
set_option maxRecDepth 100000 in
theorem cM_of (l : Launch) (g : CX) (sz : Nat) (aM : Nat) (b : Nat → Nat) (mz : MSt) (i : Int32) (what : Int32) (N9 : Nat) (N2 : Nat) (r0 : MSt × Int32) (hok : sM_of mz i what N9 N2 = some r0) : Met l yM_of (wm yM_of kM_of 3 (some .int)) ({ frames := 8, cells := 0, slots := 0, locals := 235 }) (rw g [.ref aM, .int i, .int what] (mX g aM b mz) sz) (va_Qi (fun (r : Int32) (_u : Unit) => r = r0.2) (rB g (va_A (mX g aM b mz) sz) (fun _u => (mX g aM b r0.1))) (va_A (mX g aM b mz) sz)) 0 0 (va_A (mX g aM b mz) sz) := by
  refine Met.ofW (cc := kM_of) (maxL := 3) (ret := (some .int)) (by decide) rfl ?_
  intro p e s m args below meth c s₁ B hml hv
  obtain ⟨rfl, hsz, hK, hP, hD0⟩ := hv
  have hx := B.exec
  have hb := B.bytes
  have hr := B.returns
  have ht : ∀ w ∈ wT, w.before _ s = true := fun w h => atoms_spec (ws := wm yM_of kM_of 3 (some .int)) B.pre w (List.mem_cons_of_mem _ h)
  have hown : s.vm.findClass "NodeMakerModel" = some m.cls := findClass_of_methodNamed B.named
  have hlocks := B.notSynchronized
  subst hsz
  have hD := hD0.self (sz := s.heap.size)
  generalize hAe : va_A (mX g aM b mz) s.heap.size = A at hD ⊢
  have hA : ∀ q : Nat, s.heap.size ≤ q → A q := fun q h => by rw [← hAe]; exact Or.inr h
  have hS : va_S A s.heap s.heap [] := va_S.rf
  have hl := lv_entry ([.ref aM, .int i, .int what]) (n := 3) (Nat.le_of_ble_eq_true rfl)
  rw [lg_entry_eq]
  generalize (lg_sl ([.ref aM, .int i, .int what]) ++ List.replicate (3 - (lg_sl ([.ref aM, .int i, .int what])).length) Slot.unset).toArray = ls at hl ⊢
  have hl : lv_has ls 3 [(0, .ref aM), (1, .int i), (2, .int what)] := hl
  refine lv_aload_n hx hb dM_of_0 rfl (lv_at hl 0 rfl) ?_
  refine lv_iconst (v := 0) hx hb dM_of_1 (by decide) ?_
  refine va_put (D := g.1) (ci := 6) (v := .int 0) (ty := .int) (C := "NodeMakerModel") (T := Fd_M) (N := 37) hx hb ht i_M ty_M ty_M_ok nm_M hown hK.1 hP hD hS 0 rfl rfl 0 (by decide) (ht _ q_525) (fun _ h9 => h9) rfl (by decide +kernel) rfl rfl (Nat.le_of_ble_eq_true rfl) dM_of_2 (fun H locs hP hD hS => ?_)
  have hP : va_P g.1 vwCl (mX g aM b (mV 0 0 mz)) H := hP
  have hD : va_D A (mX g aM b (mV 0 0 mz)) := hD
  simp only [sM_of] at hok
  obtain ⟨z_32, ez_32⟩ : ∃ x9, x9 = mV 0 0 mz := ⟨_, rfl⟩
  rw [← ez_32] at hP hD hok
  refine lv_aload_n hx hb dM_of_5 rfl (lv_at hl 0 rfl) ?_
  refine lv_iload_n hx hb dM_of_6 rfl (lv_at hl 1 rfl) ?_
  obtain ⟨r_33, hc_34⟩ : ∃ r9, sM_isWall z_32 i = some r9 := by
    cases hc9 : sM_isWall z_32 i with
    | some r9 => exact ⟨r9, rfl⟩
    | none => exfalso; simp only [hc9] at hok; cases hok
  refine ro_Vi (v := r_33) (As := [.int i]) (rest := []) ⟨hx, hb, hml, hown, ht⟩ (cM_isWall l g aM b z_32 i r_33 hc_34) (cwV 1 ht (g_V q_676 q_678 q_16 q_39 q_679) rfl rfl rfl hd_M_isWall ⟨Nat.le_of_ble_eq_true rfl, Nat.le_of_ble_eq_true rfl⟩) hK (hP) (va_recv hK.1 hP (ci := 6) (q0 := 0) rfl rfl) rfl hl.1 rfl (Nat.le_of_ble_eq_true rfl) dM_of_7 ⟨Nat.zero_le _, Nat.zero_le _⟩ ?_
  refine lv_if_eq (tgt := 22) hx hb dM_of_10 (by decide) (fun c_35 => ?_) (fun c_35 => ?_)
  · skip
    refine lv_ldc (v := 100000) hx hb hown (ht _ q_789) dM_of_22 ?_
    simp only [hc_34, if_pos c_35] at hok
    have hF := Option.some.inj hok
    subst hF
    exact W.iret hx hb hr (fun t ht9 hW => ⟨⟨_, (), rfl, rfl, by rw [ht9]; exact hP, hD⟩, hS.F ht9⟩) hS.2.2 dM_of_24
  · skip
    refine lv_iload_n hx hb dM_of_13 rfl (lv_at hl 2 rfl) ?_
    refine lv_if_lt (tgt := 22) hx hb dM_of_14 (by decide) (fun c_36 => ?_) (fun c_36 => ?_)
    · skip
      refine lv_ldc (v := 100000) hx hb hown (ht _ q_789) dM_of_22 ?_
      simp only [hc_34, if_neg c_35, if_pos c_36] at hok
      have hF := Option.some.inj hok
      subst hF
      exact W.iret hx hb hr (fun t ht9 hW => ⟨⟨_, (), rfl, rfl, by rw [ht9]; exact hP, hD⟩, hS.F ht9⟩) hS.2.2 dM_of_24
    · skip
      refine lv_iload_n hx hb dM_of_17 rfl (lv_at hl 2 rfl) ?_
      refine lv_iconst (v := 4) hx hb dM_of_18 (by decide) ?_
      refine lv_icmp_le (tgt := 25) hx hb dM_of_19 (by decide) (fun c_37 => ?_) (fun c_37 => ?_)
      · skip
        refine lv_aload_n hx hb dM_of_25 rfl (lv_at hl 0 rfl) ?_
        obtain ⟨r_38, hc_39⟩ : ∃ r9, sM_know z_32  N9 N2 = some r9 := by
          cases hc9 : sM_know z_32  N9 N2 with
          | some r9 => exact ⟨r9, rfl⟩
          | none => exfalso; simp only [hc_34, if_neg c_35, if_neg c_36, if_pos c_37, hc9] at hok; cases hok
        refine rw_vA (va_runV (As := []) (rest := []) ⟨hx, hb, hml, hown, ht⟩ (cM_know l g H.size aM b z_32  N9 N2 r_38 hc_39) (cwV 0 ht (g_V q_692 q_694 q_18 q_39 q_695) rfl rfl rfl hd_M_know ⟨Nat.le_of_ble_eq_true rfl, Nat.le_of_ble_eq_true rfl⟩) (rw_V hK hP hD (va_recv hK.1 hP (ci := 6) (q0 := 0) rfl rfl)) rfl rfl hl.1 rfl (lv_room (Nat.le_of_ble_eq_true rfl)) dM_of_26 ⟨Nat.zero_le _, Nat.zero_le _⟩) hD hS hA (fun _ H locs _ hP hD hS => ?_)
        have hP : va_P g.1 vwCl (mX g aM b (r_38)) H := hP
        have hD : va_D A (mX g aM b (r_38)) := hD
        refine lv_iload_n hx hb dM_of_29 rfl (lv_at hl 2 rfl) ?_
        refine lv_if_ne (tgt := 42) hx hb dM_of_30 (by decide) (fun c_40 => ?_) (fun c_40 => ?_)
        · skip
          refine lv_iload_n hx hb dM_of_42 rfl (lv_at hl 2 rfl) ?_
          refine lv_iconst (v := 1) hx hb dM_of_43 (by decide) ?_
          refine lv_icmp_ne (tgt := 56) hx hb dM_of_44 (by decide) (fun c_41 => ?_) (fun c_41 => ?_)
          · skip
            refine lv_iload_n hx hb dM_of_56 rfl (lv_at hl 2 rfl) ?_
            refine lv_iconst (v := 2) hx hb dM_of_57 (by decide) ?_
            refine lv_icmp_ne (tgt := 70) hx hb dM_of_58 (by decide) (fun c_42 => ?_) (fun c_42 => ?_)
            · skip
              refine lv_iload_n hx hb dM_of_70 rfl (lv_at hl 2 rfl) ?_
              refine lv_iconst (v := 3) hx hb dM_of_71 (by decide) ?_
              refine lv_icmp_ne (tgt := 84) hx hb dM_of_72 (by decide) (fun c_43 => ?_) (fun c_43 => ?_)
              · skip
                refine lv_aload_n hx hb dM_of_84 rfl (lv_at hl 0 rfl) ?_
                refine va_get (D := g.1) (ci := 6) (v := .ref (b 32)) (C := "NodeMakerModel") (T := Fd_M) (N := 37) hx hb ht i_M hown hK.1 hP 0 rfl rfl 32 (by decide) (ht _ q_557) (fun _ h9 => h9) rfl dM_of_85 ?_
                refine lv_iload_n hx hb dM_of_88 rfl (lv_at hl 1 rfl) ?_
                have h_44 : vpin i 64 := Decidable.byContradiction (fun h9 => by simp only [hc_34, if_neg c_35, if_neg c_36, if_pos c_37, hc_39, if_neg c_40, if_neg c_41, if_neg c_42, if_neg c_43, if_neg h9] at hok; cases hok)
                refine va_iald hx hb hK.1 hP 23 0 rfl rfl (vp_in_iff.mpr h_44) dM_of_89 ?_
                simp only [hc_34, if_neg c_35, if_neg c_36, if_pos c_37, hc_39, if_neg c_40, if_neg c_41, if_neg c_42, if_neg c_43, if_pos h_44] at hok
                have hF := Option.some.inj hok
                subst hF
                exact W.iret hx hb hr (fun t ht9 hW => ⟨⟨_, (), rfl, rfl, by rw [ht9]; exact hP, hD⟩, hS.F ht9⟩) hS.2.2 dM_of_90
              · skip
                refine lv_aload_n hx hb dM_of_75 rfl (lv_at hl 0 rfl) ?_
                refine va_get (D := g.1) (ci := 6) (v := .ref (b 5)) (C := "NodeMakerModel") (T := Fd_M) (N := 37) hx hb ht i_M hown hK.1 hP 0 rfl rfl 5 (by decide) (ht _ q_530) (fun _ h9 => h9) rfl dM_of_76 ?_
                refine lv_iload_n hx hb dM_of_79 rfl (lv_at hl 1 rfl) ?_
                have h_45 : vpin i 64 := Decidable.byContradiction (fun h9 => by simp only [hc_34, if_neg c_35, if_neg c_36, if_pos c_37, hc_39, if_neg c_40, if_neg c_41, if_neg c_42, if_pos c_43, if_neg h9] at hok; cases hok)
                refine va_iald hx hb hK.1 hP 5 0 rfl rfl (vp_in_iff.mpr h_45) dM_of_80 ?_
                refine lv_goto (tgt := 90) hx hb dM_of_81 (by decide) ?_
                simp only [hc_34, if_neg c_35, if_neg c_36, if_pos c_37, hc_39, if_neg c_40, if_neg c_41, if_neg c_42, if_pos c_43, if_pos h_45] at hok
                have hF := Option.some.inj hok
                subst hF
                exact W.iret hx hb hr (fun t ht9 hW => ⟨⟨_, (), rfl, rfl, by rw [ht9]; exact hP, hD⟩, hS.F ht9⟩) hS.2.2 dM_of_90
            · skip
              refine lv_aload_n hx hb dM_of_61 rfl (lv_at hl 0 rfl) ?_
              refine va_get (D := g.1) (ci := 6) (v := .ref (b 4)) (C := "NodeMakerModel") (T := Fd_M) (N := 37) hx hb ht i_M hown hK.1 hP 0 rfl rfl 4 (by decide) (ht _ q_529) (fun _ h9 => h9) rfl dM_of_62 ?_
              refine lv_iload_n hx hb dM_of_65 rfl (lv_at hl 1 rfl) ?_
              have h_46 : vpin i 64 := Decidable.byContradiction (fun h9 => by simp only [hc_34, if_neg c_35, if_neg c_36, if_pos c_37, hc_39, if_neg c_40, if_neg c_41, if_pos c_42, if_neg h9] at hok; cases hok)
              refine va_iald hx hb hK.1 hP 4 0 rfl rfl (vp_in_iff.mpr h_46) dM_of_66 ?_
              refine lv_goto (tgt := 90) hx hb dM_of_67 (by decide) ?_
              simp only [hc_34, if_neg c_35, if_neg c_36, if_pos c_37, hc_39, if_neg c_40, if_neg c_41, if_pos c_42, if_pos h_46] at hok
              have hF := Option.some.inj hok
              subst hF
              exact W.iret hx hb hr (fun t ht9 hW => ⟨⟨_, (), rfl, rfl, by rw [ht9]; exact hP, hD⟩, hS.F ht9⟩) hS.2.2 dM_of_90
          · skip
            refine lv_aload_n hx hb dM_of_47 rfl (lv_at hl 0 rfl) ?_
            refine va_get (D := g.1) (ci := 6) (v := .ref (b 3)) (C := "NodeMakerModel") (T := Fd_M) (N := 37) hx hb ht i_M hown hK.1 hP 0 rfl rfl 3 (by decide) (ht _ q_528) (fun _ h9 => h9) rfl dM_of_48 ?_
            refine lv_iload_n hx hb dM_of_51 rfl (lv_at hl 1 rfl) ?_
            have h_47 : vpin i 64 := Decidable.byContradiction (fun h9 => by simp only [hc_34, if_neg c_35, if_neg c_36, if_pos c_37, hc_39, if_neg c_40, if_pos c_41, if_neg h9] at hok; cases hok)
            refine va_iald hx hb hK.1 hP 3 0 rfl rfl (vp_in_iff.mpr h_47) dM_of_52 ?_
            refine lv_goto (tgt := 90) hx hb dM_of_53 (by decide) ?_
            simp only [hc_34, if_neg c_35, if_neg c_36, if_pos c_37, hc_39, if_neg c_40, if_pos c_41, if_pos h_47] at hok
            have hF := Option.some.inj hok
            subst hF
            exact W.iret hx hb hr (fun t ht9 hW => ⟨⟨_, (), rfl, rfl, by rw [ht9]; exact hP, hD⟩, hS.F ht9⟩) hS.2.2 dM_of_90
        · skip
          refine lv_aload_n hx hb dM_of_33 rfl (lv_at hl 0 rfl) ?_
          refine va_get (D := g.1) (ci := 6) (v := .ref (b 2)) (C := "NodeMakerModel") (T := Fd_M) (N := 37) hx hb ht i_M hown hK.1 hP 0 rfl rfl 2 (by decide) (ht _ q_527) (fun _ h9 => h9) rfl dM_of_34 ?_
          refine lv_iload_n hx hb dM_of_37 rfl (lv_at hl 1 rfl) ?_
          have h_48 : vpin i 64 := Decidable.byContradiction (fun h9 => by simp only [hc_34, if_neg c_35, if_neg c_36, if_pos c_37, hc_39, if_pos c_40, if_neg h9] at hok; cases hok)
          refine va_iald hx hb hK.1 hP 2 0 rfl rfl (vp_in_iff.mpr h_48) dM_of_38 ?_
          refine lv_goto (tgt := 90) hx hb dM_of_39 (by decide) ?_
          simp only [hc_34, if_neg c_35, if_neg c_36, if_pos c_37, hc_39, if_pos c_40, if_pos h_48] at hok
          have hF := Option.some.inj hok
          subst hF
          exact W.iret hx hb hr (fun t ht9 hW => ⟨⟨_, (), rfl, rfl, by rw [ht9]; exact hP, hD⟩, hS.F ht9⟩) hS.2.2 dM_of_90
      · skip
        refine lv_ldc (v := 100000) hx hb hown (ht _ q_789) dM_of_22 ?_
        simp only [hc_34, if_neg c_35, if_neg c_36, if_neg c_37] at hok
        have hF := Option.some.inj hok
        subst hF
        exact W.iret hx hb hr (fun t ht9 hW => ⟨⟨_, (), rfl, rfl, by rw [ht9]; exact hP, hD⟩, hS.F ht9⟩) hS.2.2 dM_of_24

def sM_way (mz : MSt) (x : Int32) (y : Int32) (N9 : Nat) (N2 : Nat) : Option (MSt × Int32) :=
  if (sM_isPlace x) = 0 then
    some ((mV 0 0 mz), (-1))
  else
    if (sM_isPlace y) = 0 then
      some ((mV 0 0 mz), (-1))
    else
      (match sM_know (mV 35 y (mV 34 x (mV 33 1 (mV 0 0 mz))))  N9 N2 with
      | none => none
      | some r_55 => some (r_55, (r_55.1 30)))

set_option maxHeartbeats 4000000 in
set_option maxRecDepth 100000 in
theorem cM_way (l : Launch) (g : CX) (sz : Nat) (aM : Nat) (b : Nat → Nat) (mz : MSt) (x : Int32) (y : Int32) (N9 : Nat) (N2 : Nat) (r0 : MSt × Int32) (hok : sM_way mz x y N9 N2 = some r0) : Met l yM_way (wm yM_way kM_way 3 (some .int)) ({ frames := 8, cells := 0, slots := 0, locals := 235 }) (rw g [.ref aM, .int x, .int y] (mX g aM b mz) sz) (va_Qi (fun (r : Int32) (_u : Unit) => r = r0.2) (rB g (va_A (mX g aM b mz) sz) (fun _u => (mX g aM b r0.1))) (va_A (mX g aM b mz) sz)) 0 0 (va_A (mX g aM b mz) sz) := by
  refine Met.ofW (cc := kM_way) (maxL := 3) (ret := (some .int)) (by decide) rfl ?_
  intro p e s m args below meth c s₁ B hml hv
  obtain ⟨rfl, hsz, hK, hP, hD0⟩ := hv
  have hx := B.exec
  have hb := B.bytes
  have hr := B.returns
  have ht : ∀ w ∈ wT, w.before _ s = true := fun w h => atoms_spec (ws := wm yM_way kM_way 3 (some .int)) B.pre w (List.mem_cons_of_mem _ h)
  have hown : s.vm.findClass "NodeMakerModel" = some m.cls := findClass_of_methodNamed B.named
  have hlocks := B.notSynchronized
  subst hsz
  have hD := hD0.self (sz := s.heap.size)
  generalize hAe : va_A (mX g aM b mz) s.heap.size = A at hD ⊢
  have hA : ∀ q : Nat, s.heap.size ≤ q → A q := fun q h => by rw [← hAe]; exact Or.inr h
  have hS : va_S A s.heap s.heap [] := va_S.rf
  have hl := lv_entry ([.ref aM, .int x, .int y]) (n := 3) (Nat.le_of_ble_eq_true rfl)
  rw [lg_entry_eq]
  generalize (lg_sl ([.ref aM, .int x, .int y]) ++ List.replicate (3 - (lg_sl ([.ref aM, .int x, .int y])).length) Slot.unset).toArray = ls at hl ⊢
  have hl : lv_has ls 3 [(0, .ref aM), (1, .int x), (2, .int y)] := hl
  refine lv_aload_n hx hb dM_way_0 rfl (lv_at hl 0 rfl) ?_
  refine lv_iconst (v := 0) hx hb dM_way_1 (by decide) ?_
  refine va_put (D := g.1) (ci := 6) (v := .int 0) (ty := .int) (C := "NodeMakerModel") (T := Fd_M) (N := 37) hx hb ht i_M ty_M ty_M_ok nm_M hown hK.1 hP hD hS 0 rfl rfl 0 (by decide) (ht _ q_525) (fun _ h9 => h9) rfl (by decide +kernel) rfl rfl (Nat.le_of_ble_eq_true rfl) dM_way_2 (fun H locs hP hD hS => ?_)
  have hP : va_P g.1 vwCl (mX g aM b (mV 0 0 mz)) H := hP
  have hD : va_D A (mX g aM b (mV 0 0 mz)) := hD
  simp only [sM_way] at hok
  obtain ⟨z_49, ez_49⟩ : ∃ x9, x9 = mV 0 0 mz := ⟨_, rfl⟩
  rw [← ez_49] at hP hD hok
  refine lv_iload_n hx hb dM_way_5 rfl (lv_at hl 1 rfl) ?_
  refine ro_Si (v := sM_isPlace x) (As := [.int x]) (rest := []) ⟨hx, hb, hml, hown, ht⟩ (cM_isPlace l g x) (cwS 1 ht (g_S q_647 q_648 q_39 q_649) rfl rfl rfl hd_M_isPlace ⟨Nat.le_of_ble_eq_true rfl, Nat.le_of_ble_eq_true rfl⟩) hK (trivial) rfl hl.1 rfl (Nat.le_of_ble_eq_true rfl) dM_way_6 ⟨Nat.zero_le _, Nat.zero_le _⟩ ?_
  refine lv_if_eq (tgt := 19) hx hb dM_way_9 (by decide) (fun c_50 => ?_) (fun c_50 => ?_)
  · skip
    refine lv_iconst (v := -1) hx hb dM_way_19 (by decide) ?_
    simp only [if_pos c_50] at hok
    have hF := Option.some.inj hok
    subst hF
    exact W.iret hx hb hr (fun t ht9 hW => ⟨⟨_, (), rfl, rfl, by rw [ht9]; exact hP, hD⟩, hS.F ht9⟩) hS.2.2 dM_way_20
  · skip
    refine lv_iload_n hx hb dM_way_12 rfl (lv_at hl 2 rfl) ?_
    refine ro_Si (v := sM_isPlace y) (As := [.int y]) (rest := []) ⟨hx, hb, hml, hown, ht⟩ (cM_isPlace l g y) (cwS 1 ht (g_S q_647 q_648 q_39 q_649) rfl rfl rfl hd_M_isPlace ⟨Nat.le_of_ble_eq_true rfl, Nat.le_of_ble_eq_true rfl⟩) hK (trivial) rfl hl.1 rfl (Nat.le_of_ble_eq_true rfl) dM_way_13 ⟨Nat.zero_le _, Nat.zero_le _⟩ ?_
    refine lv_if_ne (tgt := 21) hx hb dM_way_16 (by decide) (fun c_51 => ?_) (fun c_51 => ?_)
    · skip
      refine lv_aload_n hx hb dM_way_21 rfl (lv_at hl 0 rfl) ?_
      refine lv_iconst (v := 1) hx hb dM_way_22 (by decide) ?_
      refine va_put (D := g.1) (ci := 6) (v := .int 1) (ty := .boolean) (C := "NodeMakerModel") (T := Fd_M) (N := 37) hx hb ht i_M ty_M ty_M_ok nm_M hown hK.1 hP hD hS 0 rfl rfl 33 (by decide) (ht _ q_558) (fun _ h9 => h9) rfl (by decide +kernel) rfl rfl (Nat.le_of_ble_eq_true rfl) dM_way_23 (fun H locs hP hD hS => ?_)
      have hP : va_P g.1 vwCl (mX g aM b (mV 33 1 z_49)) H := hP
      have hD : va_D A (mX g aM b (mV 33 1 z_49)) := hD
      simp only [if_neg c_50, if_neg c_51] at hok
      obtain ⟨z_52, ez_52⟩ : ∃ x9, x9 = mV 33 1 z_49 := ⟨_, rfl⟩
      rw [← ez_52] at hP hD hok
      refine lv_aload_n hx hb dM_way_26 rfl (lv_at hl 0 rfl) ?_
      refine lv_iload_n hx hb dM_way_27 rfl (lv_at hl 1 rfl) ?_
      refine va_put (D := g.1) (ci := 6) (v := .int x) (ty := .int) (C := "NodeMakerModel") (T := Fd_M) (N := 37) hx hb ht i_M ty_M ty_M_ok nm_M hown hK.1 hP hD hS 0 rfl rfl 34 (by decide) (ht _ q_559) (fun _ h9 => h9) rfl (by decide +kernel) rfl rfl (Nat.le_of_ble_eq_true rfl) dM_way_28 (fun H locs hP hD hS => ?_)
      have hP : va_P g.1 vwCl (mX g aM b (mV 34 x z_52)) H := hP
      have hD : va_D A (mX g aM b (mV 34 x z_52)) := hD
      obtain ⟨z_53, ez_53⟩ : ∃ x9, x9 = mV 34 x z_52 := ⟨_, rfl⟩
      rw [← ez_53] at hP hD hok
      refine lv_aload_n hx hb dM_way_31 rfl (lv_at hl 0 rfl) ?_
      refine lv_iload_n hx hb dM_way_32 rfl (lv_at hl 2 rfl) ?_
      refine va_put (D := g.1) (ci := 6) (v := .int y) (ty := .int) (C := "NodeMakerModel") (T := Fd_M) (N := 37) hx hb ht i_M ty_M ty_M_ok nm_M hown hK.1 hP hD hS 0 rfl rfl 35 (by decide) (ht _ q_560) (fun _ h9 => h9) rfl (by decide +kernel) rfl rfl (Nat.le_of_ble_eq_true rfl) dM_way_33 (fun H locs hP hD hS => ?_)
      have hP : va_P g.1 vwCl (mX g aM b (mV 35 y z_53)) H := hP
      have hD : va_D A (mX g aM b (mV 35 y z_53)) := hD
      obtain ⟨z_54, ez_54⟩ : ∃ x9, x9 = mV 35 y z_53 := ⟨_, rfl⟩
      rw [← ez_54] at hP hD hok
      refine lv_aload_n hx hb dM_way_36 rfl (lv_at hl 0 rfl) ?_
      obtain ⟨r_55, hc_56⟩ : ∃ r9, sM_know z_54  N9 N2 = some r9 := by
        cases hc9 : sM_know z_54  N9 N2 with
        | some r9 => exact ⟨r9, rfl⟩
        | none => exfalso; simp only [hc9] at hok; cases hok
      refine rw_vA (va_runV (As := []) (rest := []) ⟨hx, hb, hml, hown, ht⟩ (cM_know l g H.size aM b z_54  N9 N2 r_55 hc_56) (cwV 0 ht (g_V q_692 q_694 q_18 q_39 q_695) rfl rfl rfl hd_M_know ⟨Nat.le_of_ble_eq_true rfl, Nat.le_of_ble_eq_true rfl⟩) (rw_V hK hP hD (va_recv hK.1 hP (ci := 6) (q0 := 0) rfl rfl)) rfl rfl hl.1 rfl (lv_room (Nat.le_of_ble_eq_true rfl)) dM_way_37 ⟨Nat.zero_le _, Nat.zero_le _⟩) hD hS hA (fun _ H locs _ hP hD hS => ?_)
      have hP : va_P g.1 vwCl (mX g aM b (r_55)) H := hP
      have hD : va_D A (mX g aM b (r_55)) := hD
      refine lv_aload_n hx hb dM_way_40 rfl (lv_at hl 0 rfl) ?_
      refine va_get (D := g.1) (ci := 6) (v := .int (r_55.1 30)) (C := "NodeMakerModel") (T := Fd_M) (N := 37) hx hb ht i_M hown hK.1 hP 0 rfl rfl 30 (by decide) (ht _ q_555) (fun _ h9 => h9) rfl dM_way_41 ?_
      simp only [hc_56] at hok
      have hF := Option.some.inj hok
      subst hF
      exact W.iret hx hb hr (fun t ht9 hW => ⟨⟨_, (), rfl, rfl, by rw [ht9]; exact hP, hD⟩, hS.F ht9⟩) hS.2.2 dM_way_44
    · skip
      refine lv_iconst (v := -1) hx hb dM_way_19 (by decide) ?_
      simp only [if_neg c_50, if_pos c_51] at hok
      have hF := Option.some.inj hok
      subst hF
      exact W.iret hx hb hr (fun t ht9 hW => ⟨⟨_, (), rfl, rfl, by rw [ht9]; exact hP, hD⟩, hS.F ht9⟩) hS.2.2 dM_way_20

def sM_take (mz : MSt) (i : Int32) : Option (MSt × Int32) :=
  (match sM_isWall (mV 0 0 mz) i with
  | none => none
  | some r_58 => if r_58 = 0 then
      some ((mV 0 0 mz), 0)
    else
      if vpin i 64 then
        some ((mV 7 0 (mV 6 (((mI 1 i 0 (mV 0 0 mz)).1 6) - 1) (mI 1 i 0 (mV 0 0 mz)))), 1)
      else
        none)

set_option maxHeartbeats 4000000 in
set_option maxRecDepth 100000 in
theorem cM_take (l : Launch) (g : CX) (sz : Nat) (aM : Nat) (b : Nat → Nat) (mz : MSt) (i : Int32) (r0 : MSt × Int32) (hok : sM_take mz i = some r0) : Met l yM_take (wm yM_take kM_take 2 (some .boolean)) ({ frames := 1, cells := 0, slots := 0, locals := 21 }) (rw g [.ref aM, .int i] (mX g aM b mz) sz) (va_Qi (fun (r : Int32) (_u : Unit) => r = r0.2) (rB g (va_A (mX g aM b mz) sz) (fun _u => (mX g aM b r0.1))) (va_A (mX g aM b mz) sz)) 0 0 (va_A (mX g aM b mz) sz) := by
  refine Met.ofW (cc := kM_take) (maxL := 2) (ret := (some .boolean)) (by decide) rfl ?_
  intro p e s m args below meth c s₁ B hml hv
  obtain ⟨rfl, hsz, hK, hP, hD0⟩ := hv
  have hx := B.exec
  have hb := B.bytes
  have hr := B.returns
  have ht : ∀ w ∈ wT, w.before _ s = true := fun w h => atoms_spec (ws := wm yM_take kM_take 2 (some .boolean)) B.pre w (List.mem_cons_of_mem _ h)
  have hown : s.vm.findClass "NodeMakerModel" = some m.cls := findClass_of_methodNamed B.named
  have hlocks := B.notSynchronized
  subst hsz
  have hD := hD0.self (sz := s.heap.size)
  generalize hAe : va_A (mX g aM b mz) s.heap.size = A at hD ⊢
  have hA : ∀ q : Nat, s.heap.size ≤ q → A q := fun q h => by rw [← hAe]; exact Or.inr h
  have hS : va_S A s.heap s.heap [] := va_S.rf
  have hl := lv_entry ([.ref aM, .int i]) (n := 2) (Nat.le_of_ble_eq_true rfl)
  rw [lg_entry_eq]
  generalize (lg_sl ([.ref aM, .int i]) ++ List.replicate (2 - (lg_sl ([.ref aM, .int i])).length) Slot.unset).toArray = ls at hl ⊢
  have hl : lv_has ls 2 [(0, .ref aM), (1, .int i)] := hl
  refine lv_aload_n hx hb dM_take_0 rfl (lv_at hl 0 rfl) ?_
  refine lv_iconst (v := 0) hx hb dM_take_1 (by decide) ?_
  refine va_put (D := g.1) (ci := 6) (v := .int 0) (ty := .int) (C := "NodeMakerModel") (T := Fd_M) (N := 37) hx hb ht i_M ty_M ty_M_ok nm_M hown hK.1 hP hD hS 0 rfl rfl 0 (by decide) (ht _ q_525) (fun _ h9 => h9) rfl (by decide +kernel) rfl rfl (Nat.le_of_ble_eq_true rfl) dM_take_2 (fun H locs hP hD hS => ?_)
  have hP : va_P g.1 vwCl (mX g aM b (mV 0 0 mz)) H := hP
  have hD : va_D A (mX g aM b (mV 0 0 mz)) := hD
  simp only [sM_take] at hok
  obtain ⟨z_57, ez_57⟩ : ∃ x9, x9 = mV 0 0 mz := ⟨_, rfl⟩
  rw [← ez_57] at hP hD hok
  refine lv_aload_n hx hb dM_take_5 rfl (lv_at hl 0 rfl) ?_
  refine lv_iload_n hx hb dM_take_6 rfl (lv_at hl 1 rfl) ?_
  obtain ⟨r_58, hc_59⟩ : ∃ r9, sM_isWall z_57 i = some r9 := by
    cases hc9 : sM_isWall z_57 i with
    | some r9 => exact ⟨r9, rfl⟩
    | none => exfalso; simp only [hc9] at hok; cases hok
  refine ro_Vi (v := r_58) (As := [.int i]) (rest := []) ⟨hx, hb, hml, hown, ht⟩ (cM_isWall l g aM b z_57 i r_58 hc_59) (cwV 1 ht (g_V q_676 q_678 q_16 q_39 q_679) rfl rfl rfl hd_M_isWall ⟨Nat.le_of_ble_eq_true rfl, Nat.le_of_ble_eq_true rfl⟩) hK (hP) (va_recv hK.1 hP (ci := 6) (q0 := 0) rfl rfl) rfl hl.1 rfl (Nat.le_of_ble_eq_true rfl) dM_take_7 ⟨Nat.zero_le _, Nat.zero_le _⟩ ?_
  refine lv_if_ne (tgt := 15) hx hb dM_take_10 (by decide) (fun c_60 => ?_) (fun c_60 => ?_)
  · skip
    refine lv_aload_n hx hb dM_take_15 rfl (lv_at hl 0 rfl) ?_
    refine va_get (D := g.1) (ci := 6) (v := .ref (b 1)) (C := "NodeMakerModel") (T := Fd_M) (N := 37) hx hb ht i_M hown hK.1 hP 0 rfl rfl 1 (by decide) (ht _ q_526) (fun _ h9 => h9) rfl dM_take_16 ?_
    refine lv_iload_n hx hb dM_take_19 rfl (lv_at hl 1 rfl) ?_
    refine lv_iconst (v := 0) hx hb dM_take_20 (by decide) ?_
    have h_61 : vpin i 64 := Decidable.byContradiction (fun h9 => by simp only [hc_59, if_neg c_60, if_neg h9] at hok; cases hok)
    refine va_zast hx hb hK.1 hP hD hS 1 3 rfl rfl (vp_in_iff.mpr h_61) dM_take_21 (fun H locs hP hD hS => ?_)
    have hP : va_P g.1 vwCl (mX g aM b (mI 1 i 0 z_57)) H := hP
    have hD : va_D A (mX g aM b (mI 1 i 0 z_57)) := hD
    simp only [hc_59, if_neg c_60, if_pos h_61] at hok
    obtain ⟨z_62, ez_62⟩ : ∃ x9, x9 = mI 1 i 0 z_57 := ⟨_, rfl⟩
    rw [← ez_62] at hP hD hok
    refine lv_aload_n hx hb dM_take_22 rfl (lv_at hl 0 rfl) ?_
    refine lv_dup hx hb dM_take_23 rfl ?_
    refine va_get (D := g.1) (ci := 6) (v := .int (z_62.1 6)) (C := "NodeMakerModel") (T := Fd_M) (N := 37) hx hb ht i_M hown hK.1 hP 0 rfl rfl 6 (by decide) (ht _ q_531) (fun _ h9 => h9) rfl dM_take_24 ?_
    refine lv_iconst (v := 1) hx hb dM_take_27 (by decide) ?_
    refine lv_isub hx hb dM_take_28 ?_
    refine va_put (D := g.1) (ci := 6) (v := .int ((z_62.1 6) - 1)) (ty := .int) (C := "NodeMakerModel") (T := Fd_M) (N := 37) hx hb ht i_M ty_M ty_M_ok nm_M hown hK.1 hP hD hS 0 rfl rfl 6 (by decide) (ht _ q_531) (fun _ h9 => h9) rfl (by decide +kernel) rfl rfl (Nat.le_of_ble_eq_true rfl) dM_take_29 (fun H locs hP hD hS => ?_)
    have hP : va_P g.1 vwCl (mX g aM b (mV 6 ((z_62.1 6) - 1) z_62)) H := hP
    have hD : va_D A (mX g aM b (mV 6 ((z_62.1 6) - 1) z_62)) := hD
    obtain ⟨z_63, ez_63⟩ : ∃ x9, x9 = mV 6 ((z_62.1 6) - 1) z_62 := ⟨_, rfl⟩
    rw [← ez_63] at hP hD hok
    refine lv_aload_n hx hb dM_take_32 rfl (lv_at hl 0 rfl) ?_
    refine lv_iconst (v := 0) hx hb dM_take_33 (by decide) ?_
    refine va_put (D := g.1) (ci := 6) (v := .int 0) (ty := .boolean) (C := "NodeMakerModel") (T := Fd_M) (N := 37) hx hb ht i_M ty_M ty_M_ok nm_M hown hK.1 hP hD hS 0 rfl rfl 7 (by decide) (ht _ q_532) (fun _ h9 => h9) rfl (by decide +kernel) rfl rfl (Nat.le_of_ble_eq_true rfl) dM_take_34 (fun H locs hP hD hS => ?_)
    have hP : va_P g.1 vwCl (mX g aM b (mV 7 0 z_63)) H := hP
    have hD : va_D A (mX g aM b (mV 7 0 z_63)) := hD
    obtain ⟨z_64, ez_64⟩ : ∃ x9, x9 = mV 7 0 z_63 := ⟨_, rfl⟩
    rw [← ez_64] at hP hD hok
    refine lv_iconst (v := 1) hx hb dM_take_37 (by decide) ?_
    have hF := Option.some.inj hok
    subst hF
    exact W.zret hx hb hr rfl (fun t ht9 hW => ⟨⟨_, (), rfl, rfl, by rw [ht9]; exact hP, hD⟩, hS.F ht9⟩) hS.2.2 dM_take_38
  · skip
    refine lv_iconst (v := 0) hx hb dM_take_13 (by decide) ?_
    simp only [hc_59, if_pos c_60] at hok
    have hF := Option.some.inj hok
    subst hF
    exact W.zret hx hb hr rfl (fun t ht9 hW => ⟨⟨_, (), rfl, rfl, by rw [ht9]; exact hP, hD⟩, hS.F ht9⟩) hS.2.2 dM_take_14
