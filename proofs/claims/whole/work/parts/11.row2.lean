theorem hd_A_copyOf : yA_copyOf.cls ≠ "java/lang/invoke/MethodHandle" ∧ yA_copyOf.cls ≠ "java/lang/invoke/VarHandle" ∧ (parseMethodDescriptor yA_copyOf.desc).map (fun d => d.parameters.length) = some 2 := by decide +kernel
set_option maxHeartbeats 4000000 in
set_option maxRecDepth 100000 in
theorem cA_copyOf (l : Launch) (g : CX) (sz : Nat) (a cap N : Nat) (f : Nat → Int32) (n : Int32) (hn : n = nI N) (h1 : cap < N) (h2 : N ≤ 8192) : Met l yA_copyOf (wm yA_copyOf kA_copyOf 3 (some (.array .int))) ({ frames := 1, cells := 1, slots := N, locals := 60 }) (rw g [.ref a, .int n] [(a, .inl (g.2 0, cap, .inl f))] sz) (va_Qr (fun (u : Nat → Int32) => (∀ j, j < cap → u j = f j)) (fun u x t => rB g (va_A [(a, .inl (g.2 0, cap, .inl f))] sz) (fun u => [(a, .inl (g.2 0, cap, .inl f)), (x, .inl (g.2 0, N, .inl u))]) u t) (va_A [(a, .inl (g.2 0, cap, .inl f))] sz)) 1 N (va_A [(a, .inl (g.2 0, cap, .inl f))] sz) := by
  refine Met.ofW (cc := kA_copyOf) (maxL := 3) (ret := (some (.array .int))) (by decide) rfl ?_
  intro p e s m args below meth c s₁ B hml hv
  obtain ⟨rfl, hsz, hK, hP, hD0⟩ := hv
  have hx := B.exec
  have hb := B.bytes
  have hr := B.returns
  have ht : ∀ w ∈ wT, w.before _ s = true := fun w h => atoms_spec (ws := wm yA_copyOf kA_copyOf 3 (some (.array .int))) B.pre w (List.mem_cons_of_mem _ h)
  have hown : s.vm.findClass "java/util/Arrays" = some m.cls := findClass_of_methodNamed B.named
  have hlocks := B.notSynchronized
  subst hsz
  have hD := hD0.self (sz := s.heap.size)
  generalize hAe : va_A [(a, .inl (g.2 0, cap, .inl f))] s.heap.size = A at hD ⊢
  have hA : ∀ q : Nat, s.heap.size ≤ q → A q := fun q h => by rw [← hAe]; exact Or.inr h
  have hS : va_S A s.heap s.heap [] := va_S.rf
  have hl := lv_entry ([.ref a, .int n]) (n := 3) (Nat.le_of_ble_eq_true rfl)
  rw [lg_entry_eq]
  generalize (lg_sl ([.ref a, .int n]) ++ List.replicate (3 - (lg_sl ([.ref a, .int n])).length) Slot.unset).toArray = ls at hl ⊢
  have hl : lv_has ls 3 [(0, .ref a), (1, .int n)] := hl
  refine lv_iload_n hx hb dA_copyOf_0 rfl (lv_at hl 1 rfl) ?_
  refine lv_aload_n hx hb dA_copyOf_1 rfl (lv_at hl 0 rfl) ?_
  refine va_alen hx hb hK.1 hP 0 0 rfl rfl (v := nI cap) rfl dA_copyOf_2 ?_
  refine lv_icmp_ne (tgt := 14) hx hb dA_copyOf_3 (by decide) (fun c_1 => ?_) (fun c_1 => ?_)
  · skip
    refine lv_iload_n hx hb dA_copyOf_14 rfl (lv_at hl 1 rfl) ?_
    refine xa_newi hx hb (ht _ q_86) hK hP hD hS hA (N' := N) hn (by omega) (Nat.le_of_ble_eq_true rfl) (by show 0 + N ≤ N; omega) dA_copyOf_15 (fun x H hP hD hS => ?_)
    have hP : va_P g.1 vwCl [(a, .inl (g.2 0, cap, .inl f)), (x, .inl (g.2 0, N, .inl (fun _ => 0)))] H := hP
    have hD : va_D A [(a, .inl (g.2 0, cap, .inl f)), (x, .inl (g.2 0, N, .inl (fun _ => 0)))] := hD
    refine lv_astore_n (lv' := [(2, .ref x), (0, .ref a), (1, .int n)]) hx hb dA_copyOf_17 rfl hl (by decide) rfl (fun ls hl => ?_)
    refine lv_aload_n hx hb dA_copyOf_18 rfl (lv_at hl 1 rfl) ?_
    refine lv_iconst (v := 0) hx hb dA_copyOf_19 (by decide) ?_
    refine lv_aload_n hx hb dA_copyOf_20 rfl (lv_at hl 0 rfl) ?_
    refine lv_iconst (v := 0) hx hb dA_copyOf_21 (by decide) ?_
    refine lv_aload_n hx hb dA_copyOf_22 rfl (lv_at hl 1 rfl) ?_
    refine va_alen hx hb hK.1 hP 0 0 rfl rfl (v := nI cap) rfl dA_copyOf_23 ?_
    refine lv_iload_n hx hb dA_copyOf_24 rfl (lv_at hl 2 rfl) ?_
    refine va_mmin hx hb (by rw [hml]; exact hl.1.symm) hown (ht _ q_303) (ht _ q_230) (ht _ q_41) (ht _ q_231) (Nat.le_of_ble_eq_true rfl) (Nat.le_of_ble_eq_true rfl) (Nat.le_refl _) (by show 0 + N ≤ N; omega) dA_copyOf_25 ?_
    have hmin : (if n < nI cap then n else nI cap) = nI cap := if_neg (by rw [hn]; exact nI_nlt (by omega) (by omega))
    rw [hmin]
    refine va_copyi hx hb (by rw [hml]; exact hl.1.symm) hown (ht _ q_304) (ht _ q_natCopy) (ht _ q_305) (ht _ q_43) hK.1 hP hD hS 0 1 0 0 rfl rfl rfl rfl rfl (by decide) (by decide) (nI_pos (by omega)) (by rw [nI_clamp (by omega)]; exact Nat.le_of_eq (Nat.zero_add _)) (by rw [nI_clamp (by omega)]; show 0 + cap ≤ N; omega) (fun _ _ => rfl) (Nat.le_of_ble_eq_true rfl) (by show _ ≤ 60; decide) dA_copyOf_28 (fun H locs hP hD hS => ?_)
    have hP : va_P g.1 vwCl [(a, .inl (g.2 0, cap, .inl f)), (x, .inl (g.2 0, N, .inl (va_cpy f (fun _ => 0) (0 : Int32).toNatClampNeg (0 : Int32).toNatClampNeg (nI cap).toNatClampNeg)))] H := hP
    have hD : va_D A [(a, .inl (g.2 0, cap, .inl f)), (x, .inl (g.2 0, N, .inl (va_cpy f (fun _ => 0) (0 : Int32).toNatClampNeg (0 : Int32).toNatClampNeg (nI cap).toNatClampNeg)))] := hD
    refine lv_aload_n hx hb dA_copyOf_31 rfl (lv_at hl 0 rfl) ?_
    refine W.widen (k := 1) (n := N) (Nat.le_refl _) (by show 0 + N ≤ N; omega) ?_
    have hcp : ∀ j, j < cap → (va_cpy f (fun _ => 0) (0 : Int32).toNatClampNeg (0 : Int32).toNatClampNeg (nI cap).toNatClampNeg) j = f j := fun j hj => by rw [nI_clamp (by omega)]; exact (pk_cpy_in (Nat.zero_le _) (by show j < 0 + cap; omega)).trans (by show f (0 + (j - 0)) = f j; congr 1; omega)
    exact W.aret hx hb hr (Or.inr ⟨_, rfl⟩) (Or.inr ⟨_, rfl⟩) (fun t ht9 hW => ⟨⟨_, x, rfl, hcp, by rw [ht9]; exact hP, hD⟩, hS.F ht9⟩) hS.2.2 dA_copyOf_32
  · skip
    exact absurd ((nI_eq (by omega) (by omega)).mp (hn.symm.trans c_1)) (by omega)
theorem rAdd_len {L : List Int32} {v : Int32} (h : L.length < 4096) : (rAdd L v).length = L.length + 1 := by rw [rAdd, if_neg (by omega), List.length_append, List.length_singleton]
set_option maxHeartbeats 4000000 in
set_option maxRecDepth 100000 in
theorem cR_add (l : Launch) (g : CX) (sz : Nat) (a q cap : Nat) (f : Nat → Int32) (L : List Int32) (hrow : rowR cap f L) (v : Int32) : Met l yR_add (wm yR_add kR_add 2 none) ({ frames := 2, cells := (aUse cap L), slots := (aUse cap L), locals := 82 }) (rw g [.ref a, .int v] (rowW g a q cap f L.length) sz) (va_Qv (fun (u : Nat × (Nat → Int32)) => rowR (aCap cap L) u.2 (rAdd L v)) (rB g (va_A (rowW g a q cap f L.length) sz) (fun u => (rowW g a u.1 (aCap cap L) u.2 (rAdd L v).length))) (va_A (rowW g a q cap f L.length) sz)) (aUse cap L) (aUse cap L) (va_A (rowW g a q cap f L.length) sz) := by
  refine Met.ofW (cc := kR_add) (maxL := 2) (ret := none) (by decide) rfl ?_
  intro p e s m args below meth c s₁ B hml hv
  obtain ⟨rfl, hsz, hK, hP, hD0⟩ := hv
  have hx := B.exec
  have hb := B.bytes
  have hr := B.returns
  have ht : ∀ w ∈ wT, w.before _ s = true := fun w h => atoms_spec (ws := wm yR_add kR_add 2 none) B.pre w (List.mem_cons_of_mem _ h)
  have hown : s.vm.findClass "NodeMaker$Row" = some m.cls := findClass_of_methodNamed B.named
  have hlocks := B.notSynchronized
  subst hsz
  have hD := hD0.self (sz := s.heap.size)
  generalize hAe : va_A (rowW g a q cap f L.length) s.heap.size = A at hD ⊢
  have hA : ∀ q : Nat, s.heap.size ≤ q → A q := fun q h => by rw [← hAe]; exact Or.inr h
  have hS : va_S A s.heap s.heap [] := va_S.rf
  have hl := lv_entry ([.ref a, .int v]) (n := 2) (Nat.le_of_ble_eq_true rfl)
  rw [lg_entry_eq]
  generalize (lg_sl ([.ref a, .int v]) ++ List.replicate (2 - (lg_sl ([.ref a, .int v])).length) Slot.unset).toArray = ls at hl ⊢
  have hl : lv_has ls 2 [(0, .ref a), (1, .int v)] := hl
  have hb1 : L.length < 2 ^ 31 := by have := hrow.1; have := hrow.2.2.1; omega
  have hcap : cap < 2 ^ 31 := by have := hrow.2.2.1; omega
  refine lv_aload_n hx hb dR_add_0 rfl (lv_at hl 0 rfl) ?_
  refine va_get (D := g.1) (ci := 0) (v := .int (nI L.length)) (C := "NodeMaker$Row") (T := Fd_R) (N := 2) hx hb ht i_R hown hK.1 hP 0 rfl rfl 1 (by decide) (ht _ q_80) (fun _ h9 => h9) rfl dR_add_1 ?_
  refine lv_sipush (v := 4096) hx hb dR_add_4 (by decide) ?_
  refine lv_icmp_lt (tgt := 11) hx hb dR_add_7 (by decide) (fun c_2 => ?_) (fun c_2 => ?_)
  · skip
    refine lv_aload_n hx hb dR_add_11 rfl (lv_at hl 0 rfl) ?_
    refine va_get (D := g.1) (ci := 0) (v := .int (nI L.length)) (C := "NodeMaker$Row") (T := Fd_R) (N := 2) hx hb ht i_R hown hK.1 hP 0 rfl rfl 1 (by decide) (ht _ q_80) (fun _ h9 => h9) rfl dR_add_12 ?_
    refine lv_aload_n hx hb dR_add_15 rfl (lv_at hl 0 rfl) ?_
    refine va_get (D := g.1) (ci := 0) (v := .ref q) (C := "NodeMaker$Row") (T := Fd_R) (N := 2) hx hb ht i_R hown hK.1 hP 0 rfl rfl 0 (by decide) (ht _ q_79) (fun _ h9 => h9) rfl dR_add_16 ?_
    refine va_alen hx hb hK.1 hP 1 0 rfl rfl (v := nI cap) rfl dR_add_19 ?_
    refine lv_icmp_lt (tgt := 41) hx hb dR_add_20 (by decide) (fun c_3 => ?_) (fun c_3 => ?_)
    · skip
      have h1 : L.length < 4096 := (lt4096 hb1).mp c_2
      have h2 : L.length < cap := (nI_ltI hb1 hcap).mp c_3
      have e1 : aCap cap L = cap := by rw [aCap, if_neg (by omega), if_pos h2]
      refine lv_aload_n hx hb dR_add_41 rfl (lv_at hl 0 rfl) ?_
      refine va_get (D := g.1) (ci := 0) (v := .ref q) (C := "NodeMaker$Row") (T := Fd_R) (N := 2) hx hb ht i_R hown hK.1 hP 0 rfl rfl 0 (by decide) (ht _ q_79) (fun _ h9 => h9) rfl dR_add_42 ?_
      refine lv_aload_n hx hb dR_add_45 rfl (lv_at hl 0 rfl) ?_
      refine va_get (D := g.1) (ci := 0) (v := .int (nI L.length)) (C := "NodeMaker$Row") (T := Fd_R) (N := 2) hx hb ht i_R hown hK.1 hP 0 rfl rfl 1 (by decide) (ht _ q_80) (fun _ h9 => h9) rfl dR_add_46 ?_
      refine lv_iload_n hx hb dR_add_49 rfl (lv_at hl 1 rfl) ?_
      refine va_iast hx hb hK.1 hP hD hS 1 0 rfl rfl (vp_in_nI (by omega) (by omega)) dR_add_50 (fun H locs hP hD hS => ?_)
      have hP : va_P g.1 vwCl [(a, .inr (0, [.ref q, .int (nI L.length)])), (q, .inl (g.2 0, cap, .inl (upd f (nI L.length).toNatClampNeg v)))] H := hP
      have hD : va_D A [(a, .inr (0, [.ref q, .int (nI L.length)])), (q, .inl (g.2 0, cap, .inl (upd f (nI L.length).toNatClampNeg v)))] := hD
      refine lv_aload_n hx hb dR_add_51 rfl (lv_at hl 0 rfl) ?_
      refine lv_dup hx hb dR_add_52 rfl ?_
      refine va_get (D := g.1) (ci := 0) (v := .int (nI L.length)) (C := "NodeMaker$Row") (T := Fd_R) (N := 2) hx hb ht i_R hown hK.1 hP 0 rfl rfl 1 (by decide) (ht _ q_80) (fun _ h9 => h9) rfl dR_add_53 ?_
      refine lv_iconst (v := 1) hx hb dR_add_56 (by decide) ?_
      refine lv_iadd hx hb dR_add_57 ?_
      refine va_put (D := g.1) (ci := 0) (v := .int ((nI L.length) + 1)) (ty := .int) (C := "NodeMaker$Row") (T := Fd_R) (N := 2) hx hb ht i_R ty_R ty_R_ok nm_R hown hK.1 hP hD hS 0 rfl rfl 1 (by decide) (ht _ q_80) (fun _ h9 => h9) rfl (by decide +kernel) rfl rfl (Nat.le_of_ble_eq_true rfl) dR_add_58 (fun H locs hP hD hS => ?_)
      have hP : va_P g.1 vwCl [(a, .inr (0, [.ref q, .int ((nI L.length) + 1)])), (q, .inl (g.2 0, cap, .inl (upd f (nI L.length).toNatClampNeg v)))] H := hP
      have hD : va_D A [(a, .inr (0, [.ref q, .int ((nI L.length) + 1)])), (q, .inl (g.2 0, cap, .inl (upd f (nI L.length).toNatClampNeg v)))] := hD
      have e2 : nI L.length + 1 = nI (rAdd L v).length := by rw [rAdd_len h1]; exact nI_1 _
      have hP9 : va_P g.1 vwCl (rowW g a q (aCap cap L) (upd f (nI L.length).toNatClampNeg v) (rAdd L v).length) H := by rw [e1, rowW, ← e2]; exact hP
      have hD9 : va_D A (rowW g a q (aCap cap L) (upd f (nI L.length).toNatClampNeg v) (rAdd L v).length) := by rw [e1, rowW, ← e2]; exact hD
      refine W.widen (k := aUse cap L) (n := aUse cap L) (Nat.zero_le _) (Nat.zero_le _) ?_
      exact W.vret hx hb hr (fun t ht9 hW => ⟨⟨(q, upd f (nI L.length).toNatClampNeg v), rfl, rowR_add hrow h1 (fun j hj => by rw [nI_clamp hb1]; exact pk_un (by omega)) (by rw [nI_clamp hb1]; exact pk_us), by rw [ht9]; exact hP9, hD9⟩, hS.F ht9⟩) hS.2.2 dR_add_61
    · skip
      have h1 : L.length < 4096 := (lt4096 hb1).mp c_2
      have h2 : ¬ L.length < cap := fun h => c_3 ((nI_ltI hb1 hcap).mpr h)
      have hc0 := hrow.1
      have hcb : cap ≤ 2048 := by have h := hrow.2.1; unfold capOK at h; omega
      have hc1 : 64 ≤ cap := by have h := hrow.2.1; unfold capOK at h; omega
      have e1 : aCap cap L = 2 * cap := by rw [aCap, if_neg (by omega), if_neg h2]
      have e3 : aUse cap L = 2 * cap := by rw [aUse, e1]; omega
      refine lv_aload_n hx hb dR_add_23 rfl (lv_at hl 0 rfl) ?_
      refine lv_aload_n hx hb dR_add_24 rfl (lv_at hl 0 rfl) ?_
      refine va_get (D := g.1) (ci := 0) (v := .ref q) (C := "NodeMaker$Row") (T := Fd_R) (N := 2) hx hb ht i_R hown hK.1 hP 0 rfl rfl 0 (by decide) (ht _ q_79) (fun _ h9 => h9) rfl dR_add_25 ?_
      refine lv_iconst (v := 2) hx hb dR_add_28 (by decide) ?_
      refine lv_aload_n hx hb dR_add_29 rfl (lv_at hl 0 rfl) ?_
      refine va_get (D := g.1) (ci := 0) (v := .ref q) (C := "NodeMaker$Row") (T := Fd_R) (N := 2) hx hb ht i_R hown hK.1 hP 0 rfl rfl 0 (by decide) (ht _ q_79) (fun _ h9 => h9) rfl dR_add_30 ?_
      refine va_alen hx hb hK.1 hP 1 0 rfl rfl (v := nI cap) rfl dR_add_33 ?_
      refine lv_imul hx hb dR_add_34 ?_
      have hPc := hP.sub (ws' := [(q, .inl (g.2 0, cap, .inl f))]) [1] rfl
      have hDc := hD.sub (ws' := [(q, .inl (g.2 0, cap, .inl f))]) [1] (by decide) rfl
      refine rw_r (wr := [(a, .inr (0, [.ref q, .int (nI L.length)]))]) (va_runS (As := [.ref q, .int (2 * nI cap)]) (rest := [.ref a]) ⟨hx, hb, hml, hown, ht⟩ (cA_copyOf l g s.heap.size q cap (2 * cap) f (2 * nI cap) (pk_mul 2 cap) (by omega) (by omega)) ⟨callB_of 2 ht (g_all q_295) rfl rfl rfl (ht _ q_42) (ht _ q_293) hd_A_copyOf ⟨Nat.le_of_ble_eq_true rfl, Nat.le_of_ble_eq_true rfl⟩, ht _ q_294⟩ (rw_S hK hPc hDc) rfl rfl hl.1 rfl (lv_room (Nat.le_of_ble_eq_true rfl)) dR_add_35 ⟨by show 0 + 1 ≤ aUse cap L; omega, by show 0 + 2 * cap ≤ aUse cap L; omega⟩) hP hD hS hA [1] [0] rfl rfl (by decide) (by decide) (fun f2 x H locs hw hP hD hS => ?_)
      have hP : va_P g.1 vwCl [(a, .inr (0, [.ref q, .int (nI L.length)])), (q, .inl (g.2 0, cap, .inl f)), (x, .inl (g.2 0, 2 * cap, .inl f2))] H := hP
      have hD : va_D A [(a, .inr (0, [.ref q, .int (nI L.length)])), (q, .inl (g.2 0, cap, .inl f)), (x, .inl (g.2 0, 2 * cap, .inl f2))] := hD
      refine va_put (D := g.1) (ci := 0) (v := .ref x) (ty := (.array .int)) (C := "NodeMaker$Row") (T := Fd_R) (N := 2) hx hb ht i_R ty_R ty_R_ok nm_R hown hK.1 hP hD hS 0 rfl rfl 0 (by decide) (ht _ q_79) (fun _ h9 => h9) rfl (by decide +kernel) rfl rfl (Nat.le_of_ble_eq_true rfl) dR_add_38 (fun H locs hP hD hS => ?_)
      have hP : va_P g.1 vwCl [(a, .inr (0, [.ref x, .int (nI L.length)])), (q, .inl (g.2 0, cap, .inl f)), (x, .inl (g.2 0, 2 * cap, .inl f2))] H := hP
      have hD : va_D A [(a, .inr (0, [.ref x, .int (nI L.length)])), (q, .inl (g.2 0, cap, .inl f)), (x, .inl (g.2 0, 2 * cap, .inl f2))] := hD
      refine lv_aload_n hx hb dR_add_41 rfl (lv_at hl 0 rfl) ?_
      refine va_get (D := g.1) (ci := 0) (v := .ref x) (C := "NodeMaker$Row") (T := Fd_R) (N := 2) hx hb ht i_R hown hK.1 hP 0 rfl rfl 0 (by decide) (ht _ q_79) (fun _ h9 => h9) rfl dR_add_42 ?_
      refine lv_aload_n hx hb dR_add_45 rfl (lv_at hl 0 rfl) ?_
      refine va_get (D := g.1) (ci := 0) (v := .int (nI L.length)) (C := "NodeMaker$Row") (T := Fd_R) (N := 2) hx hb ht i_R hown hK.1 hP 0 rfl rfl 1 (by decide) (ht _ q_80) (fun _ h9 => h9) rfl dR_add_46 ?_
      refine lv_iload_n hx hb dR_add_49 rfl (lv_at hl 1 rfl) ?_
      refine va_iast hx hb hK.1 hP hD hS 2 0 rfl rfl (vp_in_nI (by omega) (by omega)) dR_add_50 (fun H locs hP hD hS => ?_)
      have hP : va_P g.1 vwCl [(a, .inr (0, [.ref x, .int (nI L.length)])), (q, .inl (g.2 0, cap, .inl f)), (x, .inl (g.2 0, 2 * cap, .inl (upd f2 (nI L.length).toNatClampNeg v)))] H := hP
      have hD : va_D A [(a, .inr (0, [.ref x, .int (nI L.length)])), (q, .inl (g.2 0, cap, .inl f)), (x, .inl (g.2 0, 2 * cap, .inl (upd f2 (nI L.length).toNatClampNeg v)))] := hD
      refine lv_aload_n hx hb dR_add_51 rfl (lv_at hl 0 rfl) ?_
      refine lv_dup hx hb dR_add_52 rfl ?_
      refine va_get (D := g.1) (ci := 0) (v := .int (nI L.length)) (C := "NodeMaker$Row") (T := Fd_R) (N := 2) hx hb ht i_R hown hK.1 hP 0 rfl rfl 1 (by decide) (ht _ q_80) (fun _ h9 => h9) rfl dR_add_53 ?_
      refine lv_iconst (v := 1) hx hb dR_add_56 (by decide) ?_
      refine lv_iadd hx hb dR_add_57 ?_
      refine va_put (D := g.1) (ci := 0) (v := .int ((nI L.length) + 1)) (ty := .int) (C := "NodeMaker$Row") (T := Fd_R) (N := 2) hx hb ht i_R ty_R ty_R_ok nm_R hown hK.1 hP hD hS 0 rfl rfl 1 (by decide) (ht _ q_80) (fun _ h9 => h9) rfl (by decide +kernel) rfl rfl (Nat.le_of_ble_eq_true rfl) dR_add_58 (fun H locs hP hD hS => ?_)
      have hP : va_P g.1 vwCl [(a, .inr (0, [.ref x, .int ((nI L.length) + 1)])), (q, .inl (g.2 0, cap, .inl f)), (x, .inl (g.2 0, 2 * cap, .inl (upd f2 (nI L.length).toNatClampNeg v)))] H := hP
      have hD : va_D A [(a, .inr (0, [.ref x, .int ((nI L.length) + 1)])), (q, .inl (g.2 0, cap, .inl f)), (x, .inl (g.2 0, 2 * cap, .inl (upd f2 (nI L.length).toNatClampNeg v)))] := hD
      have e2 : nI L.length + 1 = nI (rAdd L v).length := by rw [rAdd_len h1]; exact nI_1 _
      have hP8 := hP.sub (ws' := [(a, .inr (0, [.ref x, .int ((nI L.length) + 1)])), (x, .inl (g.2 0, 2 * cap, .inl (upd f2 (nI L.length).toNatClampNeg v)))]) [0, 2] rfl
      have hD8 := hD.sub (ws' := [(a, .inr (0, [.ref x, .int ((nI L.length) + 1)])), (x, .inl (g.2 0, 2 * cap, .inl (upd f2 (nI L.length).toNatClampNeg v)))]) [0, 2] (by decide) rfl
      have hP9 : va_P g.1 vwCl (rowW g a x (aCap cap L) (upd f2 (nI L.length).toNatClampNeg v) (rAdd L v).length) H := by rw [e1, rowW, ← e2]; exact hP8
      have hD9 : va_D A (rowW g a x (aCap cap L) (upd f2 (nI L.length).toNatClampNeg v) (rAdd L v).length) := by rw [e1, rowW, ← e2]; exact hD8
      refine W.widen (k := aUse cap L) (n := aUse cap L) (by omega) (by omega) ?_
      exact W.vret hx hb hr (fun t ht9 hW => ⟨⟨(x, upd f2 (nI L.length).toNatClampNeg v), rfl, rowR_add hrow h1 (fun j hj => by rw [nI_clamp hb1]; exact (pk_un (by omega)).trans (hw j (by omega))) (by rw [nI_clamp hb1]; exact pk_us), by rw [ht9]; exact hP9, hD9⟩, hS.F ht9⟩) hS.2.2 dR_add_61
  · skip
    have hF : 4096 ≤ L.length := by rcases Nat.lt_or_ge L.length 4096 with h | h; exact absurd ((lt4096 hb1).mpr h) c_2; exact h
    have e1 : aCap cap L = cap := if_pos hF
    have e2 : rAdd L v = L := if_pos hF
    have hP9 : va_P g.1 vwCl (rowW g a q (aCap cap L) f (rAdd L v).length) s.heap := by rw [e1, e2]; exact hP
    have hD9 : va_D A (rowW g a q (aCap cap L) f (rAdd L v).length) := by rw [e1, e2]; exact hD
    refine W.widen (k := aUse cap L) (n := aUse cap L) (Nat.zero_le _) (Nat.zero_le _) ?_
    exact W.vret hx hb hr (fun t ht9 hW => ⟨⟨(q, f), rfl, by rw [e1, e2]; exact hrow, by rw [ht9]; exact hP9, hD9⟩, hS.F ht9⟩) hS.2.2 dR_add_10
