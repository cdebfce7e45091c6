def sDivV (fr nn : Int32) (N9 : Nat) (zs : MSt) (k : Int32) (ln : Int32) : Option (MSt) :=
  if vpin k 4200 then
    (match sM_collect (mI 26 k ((zs.1 30) - ((zs.2.1 25) k.toNatClampNeg)) zs) fr nn ln (-1) (fr + nn) N9 with
    | none => none
    | some r_3 => (match sM_collect r_3.1 fr nn ln 1 ((fr + nn) + r_3.2) N9 with
      | none => none
      | some r_5 => (match sM_push r_5.1 (fr + nn) r_3.2 k 1 with
        | none => none
        | some r_7 => (match sM_push r_7 ((fr + nn) + r_3.2) r_5.2 k 0 with
          | none => none
          | some r_9 => some r_9))))
  else
    none
def sDivL (fr nn ln : Int32) : Nat → MSt → Int32 → Option (MSt × Int32)
  | 0, _, _ => none
  | n + 1, zs, i => if nn ≤ i then
      some (zs, i)
    else
      if vpin (fr + i) 9000 then
        (match sM_lieOf zs ln ((zs.2.1 15) ((fr + i).toNatClampNeg)) with
        | none => none
        | some r_17 => if r_17 = 0 then
            if vpin (zs.1 30) 8300 then
              if vpin (((mI 27 (zs.1 30) ((zs.2.1 15) ((fr + i).toNatClampNeg)) zs).2.1 15) ((fr + i).toNatClampNeg)) 8300 then
                if vpin (((mI 27 (zs.1 30) ((zs.2.1 15) ((fr + i).toNatClampNeg)) zs).2.1 8) ((((mI 27 (zs.1 30) ((zs.2.1 15) ((fr + i).toNatClampNeg)) zs).2.1 15) ((fr + i).toNatClampNeg)).toNatClampNeg)) 64 then
                  sDivL fr nn ln n (mV 30 (((mI 32 (((mI 27 (zs.1 30) ((zs.2.1 15) ((fr + i).toNatClampNeg)) zs).2.1 8) ((((mI 27 (zs.1 30) ((zs.2.1 15) ((fr + i).toNatClampNeg)) zs).2.1 15) ((fr + i).toNatClampNeg)).toNatClampNeg)) ((((mI 27 (zs.1 30) ((zs.2.1 15) ((fr + i).toNatClampNeg)) zs).2.1 32) ((((mI 27 (zs.1 30) ((zs.2.1 15) ((fr + i).toNatClampNeg)) zs).2.1 8) ((((mI 27 (zs.1 30) ((zs.2.1 15) ((fr + i).toNatClampNeg)) zs).2.1 15) ((fr + i).toNatClampNeg)).toNatClampNeg)).toNatClampNeg)) + 1) (mI 27 (zs.1 30) ((zs.2.1 15) ((fr + i).toNatClampNeg)) zs)).1 30) + 1) (mI 32 (((mI 27 (zs.1 30) ((zs.2.1 15) ((fr + i).toNatClampNeg)) zs).2.1 8) ((((mI 27 (zs.1 30) ((zs.2.1 15) ((fr + i).toNatClampNeg)) zs).2.1 15) ((fr + i).toNatClampNeg)).toNatClampNeg)) ((((mI 27 (zs.1 30) ((zs.2.1 15) ((fr + i).toNatClampNeg)) zs).2.1 32) ((((mI 27 (zs.1 30) ((zs.2.1 15) ((fr + i).toNatClampNeg)) zs).2.1 8) ((((mI 27 (zs.1 30) ((zs.2.1 15) ((fr + i).toNatClampNeg)) zs).2.1 15) ((fr + i).toNatClampNeg)).toNatClampNeg)).toNatClampNeg)) + 1) (mI 27 (zs.1 30) ((zs.2.1 15) ((fr + i).toNatClampNeg)) zs))) (i + 1)
                else
                  none
              else
                none
            else
              none
          else
            sDivL fr nn ln n zs (i + 1))
      else
        none
def sDivU (fr nn : Int32) (N9 N2 : Nat) (zs : MSt) (k : Int32) (ln : Int32) : Option (MSt) :=
  if vpin k 4200 then
    (match sDivL fr nn ln N9 (mI 25 k (zs.1 30) zs) 0 with
    | none => none
    | some T_13 => sDivV fr nn N9 T_13.1 k ln)
  else
    none
def sDivT (fr nn nd : Int32) (N9 N2 : Nat) (zs : MSt)  : Option (MSt) :=
  (match sM_bestOf (mV 28 ((zs.1 28) + 1) zs) fr nn N9 N2 with
  | none => none
  | some r_27 => if vpin (zs.1 28) 4200 then
      if 0 ≤ nd then
        if vpin nd 4200 then
          if ((((mI 24 (zs.1 28) ((((mI 21 (zs.1 28) r_27 (mV 28 ((zs.1 28) + 1) zs)).2.1 24) nd.toNatClampNeg) + 1) (mI 21 (zs.1 28) r_27 (mV 28 ((zs.1 28) + 1) zs))).2.1 24) ((zs.1 28).toNatClampNeg)) + 1) ≤ ((mI 24 (zs.1 28) ((((mI 21 (zs.1 28) r_27 (mV 28 ((zs.1 28) + 1) zs)).2.1 24) nd.toNatClampNeg) + 1) (mI 21 (zs.1 28) r_27 (mV 28 ((zs.1 28) + 1) zs))).1 31) then
            sDivU fr nn N9 N2 (mV 31 ((mI 24 (zs.1 28) ((((mI 21 (zs.1 28) r_27 (mV 28 ((zs.1 28) + 1) zs)).2.1 24) nd.toNatClampNeg) + 1) (mI 21 (zs.1 28) r_27 (mV 28 ((zs.1 28) + 1) zs))).1 31) (mI 24 (zs.1 28) ((((mI 21 (zs.1 28) r_27 (mV 28 ((zs.1 28) + 1) zs)).2.1 24) nd.toNatClampNeg) + 1) (mI 21 (zs.1 28) r_27 (mV 28 ((zs.1 28) + 1) zs)))) (zs.1 28) r_27
          else
            sDivU fr nn N9 N2 (mV 31 ((((mI 24 (zs.1 28) ((((mI 21 (zs.1 28) r_27 (mV 28 ((zs.1 28) + 1) zs)).2.1 24) nd.toNatClampNeg) + 1) (mI 21 (zs.1 28) r_27 (mV 28 ((zs.1 28) + 1) zs))).2.1 24) ((zs.1 28).toNatClampNeg)) + 1) (mI 24 (zs.1 28) ((((mI 21 (zs.1 28) r_27 (mV 28 ((zs.1 28) + 1) zs)).2.1 24) nd.toNatClampNeg) + 1) (mI 21 (zs.1 28) r_27 (mV 28 ((zs.1 28) + 1) zs)))) (zs.1 28) r_27
        else
          none
      else
        if ((((mI 24 (zs.1 28) 0 (mI 21 (zs.1 28) r_27 (mV 28 ((zs.1 28) + 1) zs))).2.1 24) ((zs.1 28).toNatClampNeg)) + 1) ≤ ((mI 24 (zs.1 28) 0 (mI 21 (zs.1 28) r_27 (mV 28 ((zs.1 28) + 1) zs))).1 31) then
          sDivU fr nn N9 N2 (mV 31 ((mI 24 (zs.1 28) 0 (mI 21 (zs.1 28) r_27 (mV 28 ((zs.1 28) + 1) zs))).1 31) (mI 24 (zs.1 28) 0 (mI 21 (zs.1 28) r_27 (mV 28 ((zs.1 28) + 1) zs)))) (zs.1 28) r_27
        else
          sDivU fr nn N9 N2 (mV 31 ((((mI 24 (zs.1 28) 0 (mI 21 (zs.1 28) r_27 (mV 28 ((zs.1 28) + 1) zs))).2.1 24) ((zs.1 28).toNatClampNeg)) + 1) (mI 24 (zs.1 28) 0 (mI 21 (zs.1 28) r_27 (mV 28 ((zs.1 28) + 1) zs)))) (zs.1 28) r_27
    else
      none)
def sM_divide (mz : MSt) (fr : Int32) (nn : Int32) (nd : Int32) (sd : Int32) (N9 : Nat) (N2 : Nat) : Option (MSt) :=
  if nn = 0 then
    if nd < 0 then
      some (mV 29 ((mz.1 29) + 1) mz)
    else
      if sd = 0 then
        if vpin nd 4200 then
          some (mV 29 (((mI 22 nd ((-1) - (mz.1 29)) mz).1 29) + 1) (mI 22 nd ((-1) - (mz.1 29)) mz))
        else
          none
      else
        if vpin nd 4200 then
          some (mV 29 (((mI 23 nd ((-1) - (mz.1 29)) mz).1 29) + 1) (mI 23 nd ((-1) - (mz.1 29)) mz))
        else
          none
  else
    if nd < 0 then
      sDivT fr nn nd N9 N2 mz
    else
      if sd = 0 then
        if vpin nd 4200 then
          sDivT fr nn nd N9 N2 (mI 22 nd (mz.1 28) mz)
        else
          none
      else
        if vpin nd 4200 then
          sDivT fr nn nd N9 N2 (mI 23 nd (mz.1 28) mz)
        else
          none
set_option maxHeartbeats 4000000 in
set_option maxRecDepth 1000000 in
theorem jM_divide_253 (l : Launch) (g : CX) (aM : Nat) (b : Nat → Nat) (fr : Int32) (nn : Int32) (nd : Int32) (sd : Int32) (N9 : Nat) (N2 : Nat) (r0 : MSt) {p : Program} {e : Env} {s : State} {m : MethodId} {below : List Frame} {meth : Method} {c : Code} (hml : c.maxLocals = 12) (hK : KK g s) (hx : p.tables.exec = Jvm.exec) (hb : c.code = kM_divide) (hr : meth.sig.returnType = none) (ht : ∀ w ∈ wT, w.before ([.ref aM, .int fr, .int nn, .int nd, .int sd] : List Value).toArray s = true) (hown : s.vm.findClass "NodeMakerModel" = some m.cls) (hlocks : meth.locks = false) {A : Nat → Prop} (hA : ∀ q : Nat, s.heap.size ≤ q → A q) : ∀ (zs : MSt) (k : Int32) (ln : Int32) (H : Heap) (locs : List Loc) (ls : Array Slot), sDivV fr nn N9 zs k ln = some r0 → va_P g.1 vwCl (mX g aM b zs) H → va_D A (mX g aM b zs) → va_S A s.heap H locs → lv_has ls 12 [(6, .int k), (7, .int ln), (0, .ref aM), (1, .int fr), (2, .int nn)] → W p l e (headSpec (wm yM_divide kM_divide 12 none) ({ frames := 5, cells := 0, slots := 0, locals := 162 })).room s m ([.ref aM, .int fr, .int nn, .int nd, .int sd] : List Value).toArray below meth c H locs (0) (0) (MQ below (va_Qv (fun (_u : Unit) => True) (rB g A (fun _u => (mX g aM b r0))) A) ([.ref aM, .int fr, .int nn, .int nd, .int sd] : List Value).toArray s 0 0 A) (F0 m 253 ls []) := by
  intro zs k ln H locs ls hJ253 hP hD hS hl
  refine lv_aload_n hx hb dM_divide_253 rfl (lv_at hl 2 rfl) ?_
  refine va_get (D := g.1) (ci := 6) (v := .ref (b 26)) (C := "NodeMakerModel") (T := Fd_M) (N := 37) hx hb ht i_M hown hK.1 hP 0 rfl rfl 26 (by decide) (ht _ q_551) (fun _ h9 => h9) rfl dM_divide_254 ?_
  refine lv_iload hx hb dM_divide_257 (lv_at hl 0 rfl) ?_
  refine lv_aload_n hx hb dM_divide_259 rfl (lv_at hl 2 rfl) ?_
  refine va_get (D := g.1) (ci := 6) (v := .int (zs.1 30)) (C := "NodeMakerModel") (T := Fd_M) (N := 37) hx hb ht i_M hown hK.1 hP 0 rfl rfl 30 (by decide) (ht _ q_555) (fun _ h9 => h9) rfl dM_divide_260 ?_
  refine lv_aload_n hx hb dM_divide_263 rfl (lv_at hl 2 rfl) ?_
  refine va_get (D := g.1) (ci := 6) (v := .ref (b 25)) (C := "NodeMakerModel") (T := Fd_M) (N := 37) hx hb ht i_M hown hK.1 hP 0 rfl rfl 25 (by decide) (ht _ q_550) (fun _ h9 => h9) rfl dM_divide_264 ?_
  refine lv_iload hx hb dM_divide_267 (lv_at hl 0 rfl) ?_
  have h_1 : vpin k 4200 := Decidable.byContradiction (fun h9 => by simp only [sDivV, if_neg h9] at hJ253; cases hJ253)
  refine va_iald hx hb hK.1 hP 20 0 rfl rfl (vp_in_iff.mpr h_1) dM_divide_269 ?_
  refine lv_isub hx hb dM_divide_270 ?_
  refine va_iast hx hb hK.1 hP hD hS 21 0 rfl rfl (vp_in_iff.mpr h_1) dM_divide_271 (fun H locs hP hD hS => ?_)
  have hP : va_P g.1 vwCl (mX g aM b (mI 26 k ((zs.1 30) - ((zs.2.1 25) k.toNatClampNeg)) zs)) H := hP
  have hD : va_D A (mX g aM b (mI 26 k ((zs.1 30) - ((zs.2.1 25) k.toNatClampNeg)) zs)) := hD
  simp only [sDivV, if_pos h_1] at hJ253
  obtain ⟨z_2, ez_2⟩ : ∃ x, x = mI 26 k ((zs.1 30) - ((zs.2.1 25) k.toNatClampNeg)) zs := ⟨_, rfl⟩
  rw [← ez_2] at hP hD hJ253
  refine lv_iload_n hx hb dM_divide_272 rfl (lv_at hl 3 rfl) ?_
  refine lv_iload_n hx hb dM_divide_273 rfl (lv_at hl 4 rfl) ?_
  refine lv_iadd hx hb dM_divide_274 ?_
  refine lv_istore (lv' := [(8, .int (fr + nn)), (6, .int k), (7, .int ln), (0, .ref aM), (1, .int fr), (2, .int nn)]) hx hb dM_divide_275 hl (by decide) rfl (fun ls hl => ?_)
  refine lv_aload_n hx hb dM_divide_277 rfl (lv_at hl 3 rfl) ?_
  refine lv_iload_n hx hb dM_divide_278 rfl (lv_at hl 4 rfl) ?_
  refine lv_iload_n hx hb dM_divide_279 rfl (lv_at hl 5 rfl) ?_
  refine lv_iload hx hb dM_divide_280 (lv_at hl 2 rfl) ?_
  refine lv_iconst (v := -1) hx hb dM_divide_282 (by decide) ?_
  refine lv_iload hx hb dM_divide_283 (lv_at hl 0 rfl) ?_
  obtain ⟨r_3, hc_4⟩ : ∃ r9, sM_collect z_2 fr nn ln (-1) (fr + nn) N9 = some r9 := by
    cases hc9 : sM_collect z_2 fr nn ln (-1) (fr + nn) N9 with
    | some r9 => exact ⟨r9, rfl⟩
    | none => exfalso; simp only [hc9] at hJ253; cases hJ253
  refine rw_iA (va_runV (As := [.int fr, .int nn, .int ln, .int (-1), .int (fr + nn)]) (rest := []) ⟨hx, hb, hml, hown, ht⟩ (cM_collect l g H.size aM b z_2 fr nn ln (-1) (fr + nn) N9 r_3 hc_4) (cwV 5 ht (g_V q_733 q_735 q_26 q_39 q_736) rfl rfl rfl hd_M_collect ⟨Nat.le_of_ble_eq_true rfl, Nat.le_of_ble_eq_true rfl⟩) (rw_V hK hP hD (va_recv hK.1 hP (ci := 6) (q0 := 0) rfl rfl)) rfl rfl hl.1 rfl (lv_room (Nat.le_of_ble_eq_true rfl)) dM_divide_285 ⟨Nat.zero_le _, Nat.zero_le _⟩) hD hS hA (fun rr _ H locs hw hP hD hS => ?_)
  subst hw
  have hP : va_P g.1 vwCl (mX g aM b (r_3.1)) H := hP
  have hD : va_D A (mX g aM b (r_3.1)) := hD
  refine lv_istore (lv' := [(9, .int r_3.2), (8, .int (fr + nn)), (6, .int k), (7, .int ln), (0, .ref aM), (1, .int fr), (2, .int nn)]) hx hb dM_divide_288 hl (by decide) rfl (fun ls hl => ?_)
  refine lv_iload hx hb dM_divide_290 (lv_at hl 1 rfl) ?_
  refine lv_iload hx hb dM_divide_292 (lv_at hl 0 rfl) ?_
  refine lv_iadd hx hb dM_divide_294 ?_
  refine lv_istore (lv' := [(10, .int ((fr + nn) + r_3.2)), (9, .int r_3.2), (8, .int (fr + nn)), (6, .int k), (7, .int ln), (0, .ref aM), (1, .int fr), (2, .int nn)]) hx hb dM_divide_295 hl (by decide) rfl (fun ls hl => ?_)
  refine lv_aload_n hx hb dM_divide_297 rfl (lv_at hl 5 rfl) ?_
  refine lv_iload_n hx hb dM_divide_298 rfl (lv_at hl 6 rfl) ?_
  refine lv_iload_n hx hb dM_divide_299 rfl (lv_at hl 7 rfl) ?_
  refine lv_iload hx hb dM_divide_300 (lv_at hl 4 rfl) ?_
  refine lv_iconst (v := 1) hx hb dM_divide_302 (by decide) ?_
  refine lv_iload hx hb dM_divide_303 (lv_at hl 0 rfl) ?_
  obtain ⟨r_5, hc_6⟩ : ∃ r9, sM_collect r_3.1 fr nn ln 1 ((fr + nn) + r_3.2) N9 = some r9 := by
    cases hc9 : sM_collect r_3.1 fr nn ln 1 ((fr + nn) + r_3.2) N9 with
    | some r9 => exact ⟨r9, rfl⟩
    | none => exfalso; simp only [hc_4, hc9] at hJ253; cases hJ253
  refine rw_iA (va_runV (As := [.int fr, .int nn, .int ln, .int 1, .int ((fr + nn) + r_3.2)]) (rest := []) ⟨hx, hb, hml, hown, ht⟩ (cM_collect l g H.size aM b r_3.1 fr nn ln 1 ((fr + nn) + r_3.2) N9 r_5 hc_6) (cwV 5 ht (g_V q_733 q_735 q_26 q_39 q_736) rfl rfl rfl hd_M_collect ⟨Nat.le_of_ble_eq_true rfl, Nat.le_of_ble_eq_true rfl⟩) (rw_V hK hP hD (va_recv hK.1 hP (ci := 6) (q0 := 0) rfl rfl)) rfl rfl hl.1 rfl (lv_room (Nat.le_of_ble_eq_true rfl)) dM_divide_305 ⟨Nat.zero_le _, Nat.zero_le _⟩) hD hS hA (fun rr _ H locs hw hP hD hS => ?_)
  subst hw
  have hP : va_P g.1 vwCl (mX g aM b (r_5.1)) H := hP
  have hD : va_D A (mX g aM b (r_5.1)) := hD
  refine lv_istore (lv' := [(11, .int r_5.2), (10, .int ((fr + nn) + r_3.2)), (9, .int r_3.2), (8, .int (fr + nn)), (6, .int k), (7, .int ln), (0, .ref aM), (1, .int fr), (2, .int nn)]) hx hb dM_divide_308 hl (by decide) rfl (fun ls hl => ?_)
  refine lv_aload_n hx hb dM_divide_310 rfl (lv_at hl 6 rfl) ?_
  refine lv_iload hx hb dM_divide_311 (lv_at hl 3 rfl) ?_
  refine lv_iload hx hb dM_divide_313 (lv_at hl 2 rfl) ?_
  refine lv_iload hx hb dM_divide_315 (lv_at hl 4 rfl) ?_
  refine lv_iconst (v := 1) hx hb dM_divide_317 (by decide) ?_
  obtain ⟨r_7, hc_8⟩ : ∃ r9, sM_push r_5.1 (fr + nn) r_3.2 k 1 = some r9 := by
    cases hc9 : sM_push r_5.1 (fr + nn) r_3.2 k 1 with
    | some r9 => exact ⟨r9, rfl⟩
    | none => exfalso; simp only [hc_4, hc_6, hc9] at hJ253; cases hJ253
  refine rw_vA (va_runV (As := [.int (fr + nn), .int r_3.2, .int k, .int 1]) (rest := []) ⟨hx, hb, hml, hown, ht⟩ (cM_push l g H.size aM b r_5.1 (fr + nn) r_3.2 k 1  r_7 hc_8) (cwV 4 ht (g_V q_704 q_706 q_21 q_39 q_707) rfl rfl rfl hd_M_push ⟨Nat.le_of_ble_eq_true rfl, Nat.le_of_ble_eq_true rfl⟩) (rw_V hK hP hD (va_recv hK.1 hP (ci := 6) (q0 := 0) rfl rfl)) rfl rfl hl.1 rfl (lv_room (Nat.le_of_ble_eq_true rfl)) dM_divide_318 ⟨Nat.zero_le _, Nat.zero_le _⟩) hD hS hA (fun _ H locs _ hP hD hS => ?_)
  have hP : va_P g.1 vwCl (mX g aM b (r_7)) H := hP
  have hD : va_D A (mX g aM b (r_7)) := hD
  refine lv_aload_n hx hb dM_divide_321 rfl (lv_at hl 6 rfl) ?_
  refine lv_iload hx hb dM_divide_322 (lv_at hl 1 rfl) ?_
  refine lv_iload hx hb dM_divide_324 (lv_at hl 0 rfl) ?_
  refine lv_iload hx hb dM_divide_326 (lv_at hl 4 rfl) ?_
  refine lv_iconst (v := 0) hx hb dM_divide_328 (by decide) ?_
  obtain ⟨r_9, hc_10⟩ : ∃ r9, sM_push r_7 ((fr + nn) + r_3.2) r_5.2 k 0 = some r9 := by
    cases hc9 : sM_push r_7 ((fr + nn) + r_3.2) r_5.2 k 0 with
    | some r9 => exact ⟨r9, rfl⟩
    | none => exfalso; simp only [hc_4, hc_6, hc_8, hc9] at hJ253; cases hJ253
  refine rw_vA (va_runV (As := [.int ((fr + nn) + r_3.2), .int r_5.2, .int k, .int 0]) (rest := []) ⟨hx, hb, hml, hown, ht⟩ (cM_push l g H.size aM b r_7 ((fr + nn) + r_3.2) r_5.2 k 0  r_9 hc_10) (cwV 4 ht (g_V q_704 q_706 q_21 q_39 q_707) rfl rfl rfl hd_M_push ⟨Nat.le_of_ble_eq_true rfl, Nat.le_of_ble_eq_true rfl⟩) (rw_V hK hP hD (va_recv hK.1 hP (ci := 6) (q0 := 0) rfl rfl)) rfl rfl hl.1 rfl (lv_room (Nat.le_of_ble_eq_true rfl)) dM_divide_329 ⟨Nat.zero_le _, Nat.zero_le _⟩) hD hS hA (fun _ H locs _ hP hD hS => ?_)
  have hP : va_P g.1 vwCl (mX g aM b (r_9)) H := hP
  have hD : va_D A (mX g aM b (r_9)) := hD
  simp only [hc_4, hc_6, hc_8, hc_10] at hJ253
  have hF := Option.some.inj hJ253
  subst hF
  exact W.vret hx hb hr (fun t ht9 hW => ⟨⟨(), rfl, trivial, by rw [ht9]; exact hP, hD⟩, hS.F ht9⟩) hS.2.2 dM_divide_332
set_option maxHeartbeats 4000000 in
set_option maxRecDepth 1000000 in
theorem jM_divide_158 (l : Launch) (g : CX) (aM : Nat) (b : Nat → Nat) (fr : Int32) (nn : Int32) (nd : Int32) (sd : Int32) (N9 : Nat) (N2 : Nat) (r0 : MSt) {p : Program} {e : Env} {s : State} {m : MethodId} {below : List Frame} {meth : Method} {c : Code} (hml : c.maxLocals = 12) (hK : KK g s) (hx : p.tables.exec = Jvm.exec) (hb : c.code = kM_divide) (hr : meth.sig.returnType = none) (ht : ∀ w ∈ wT, w.before ([.ref aM, .int fr, .int nn, .int nd, .int sd] : List Value).toArray s = true) (hown : s.vm.findClass "NodeMakerModel" = some m.cls) (hlocks : meth.locks = false) {A : Nat → Prop} (hA : ∀ q : Nat, s.heap.size ≤ q → A q) : ∀ (zs : MSt) (k : Int32) (ln : Int32) (H : Heap) (locs : List Loc) (ls : Array Slot), sDivU fr nn N9 N2 zs k ln = some r0 → va_P g.1 vwCl (mX g aM b zs) H → va_D A (mX g aM b zs) → va_S A s.heap H locs → lv_has ls 12 [(6, .int k), (7, .int ln), (0, .ref aM), (1, .int fr), (2, .int nn)] → W p l e (headSpec (wm yM_divide kM_divide 12 none) ({ frames := 5, cells := 0, slots := 0, locals := 162 })).room s m ([.ref aM, .int fr, .int nn, .int nd, .int sd] : List Value).toArray below meth c H locs (0) (0) (MQ below (va_Qv (fun (_u : Unit) => True) (rB g A (fun _u => (mX g aM b r0))) A) ([.ref aM, .int fr, .int nn, .int nd, .int sd] : List Value).toArray s 0 0 A) (F0 m 158 ls []) := by
  intro zs k ln H locs ls hJ158 hP hD hS hl
  refine lv_aload_n hx hb dM_divide_158 rfl (lv_at hl 2 rfl) ?_
  refine va_get (D := g.1) (ci := 6) (v := .ref (b 25)) (C := "NodeMakerModel") (T := Fd_M) (N := 37) hx hb ht i_M hown hK.1 hP 0 rfl rfl 25 (by decide) (ht _ q_550) (fun _ h9 => h9) rfl dM_divide_159 ?_
  refine lv_iload hx hb dM_divide_162 (lv_at hl 0 rfl) ?_
  refine lv_aload_n hx hb dM_divide_164 rfl (lv_at hl 2 rfl) ?_
  refine va_get (D := g.1) (ci := 6) (v := .int (zs.1 30)) (C := "NodeMakerModel") (T := Fd_M) (N := 37) hx hb ht i_M hown hK.1 hP 0 rfl rfl 30 (by decide) (ht _ q_555) (fun _ h9 => h9) rfl dM_divide_165 ?_
  have h_11 : vpin k 4200 := Decidable.byContradiction (fun h9 => by simp only [sDivU, if_neg h9] at hJ158; cases hJ158)
  refine va_iast hx hb hK.1 hP hD hS 20 0 rfl rfl (vp_in_iff.mpr h_11) dM_divide_168 (fun H locs hP hD hS => ?_)
  have hP : va_P g.1 vwCl (mX g aM b (mI 25 k (zs.1 30) zs)) H := hP
  have hD : va_D A (mX g aM b (mI 25 k (zs.1 30) zs)) := hD
  simp only [sDivU, if_pos h_11] at hJ158
  obtain ⟨z_12, ez_12⟩ : ∃ x, x = mI 25 k (zs.1 30) zs := ⟨_, rfl⟩
  rw [← ez_12] at hP hD hJ158
  refine lv_iconst (v := 0) hx hb dM_divide_169 (by decide) ?_
  refine lv_istore (lv' := [(8, .int 0), (6, .int k), (7, .int ln), (0, .ref aM), (1, .int fr), (2, .int nn)]) hx hb dM_divide_170 hl (by decide) rfl (fun ls hl => ?_)
  obtain ⟨T_13, hT_14⟩ : ∃ t9, sDivL fr nn ln N9 z_12 0 = some t9 := by
    cases hc9 : sDivL fr nn ln N9 z_12 0 with
    | some t9 => exact ⟨t9, rfl⟩
    | none => exfalso; simp only [hc9] at hJ158; cases hJ158
  have loop172 : ∀ (n : Nat) (zs : MSt) (i : Int32) (H : Heap) (locs : List Loc) (ls : Array Slot), sDivL fr nn ln n zs i = some T_13 → va_P g.1 vwCl (mX g aM b zs) H → va_D A (mX g aM b zs) → va_S A s.heap H locs → lv_has ls 12 [(8, .int i), (7, .int ln), (6, .int k), (0, .ref aM), (1, .int fr), (2, .int nn)] → W p l e (headSpec (wm yM_divide kM_divide 12 none) ({ frames := 5, cells := 0, slots := 0, locals := 162 })).room s m ([.ref aM, .int fr, .int nn, .int nd, .int sd] : List Value).toArray below meth c H locs (0) (0) (MQ below (va_Qv (fun (_u : Unit) => True) (rB g A (fun _u => (mX g aM b r0))) A) ([.ref aM, .int fr, .int nn, .int nd, .int sd] : List Value).toArray s 0 0 A) (F0 m 172 ls []) := by
    intro n172
    induction n172 with
    | zero => intro zs i H locs ls hL172 hP hD hS hl; cases hL172
    | succ n172 ih172 =>
      intro zs i H locs ls hL172 hP hD hS hl
      refine lv_iload hx hb dM_divide_172 (lv_at hl 0 rfl) ?_
      refine lv_iload_n hx hb dM_divide_174 rfl (lv_at hl 5 rfl) ?_
      refine lv_icmp_ge (tgt := 253) hx hb dM_divide_175 (by decide) (fun c_15 => ?_) (fun c_15 => ?_)
      · skip
        simp only [sDivL, if_pos c_15] at hL172
        have hex : (zs, i) = T_13 := Option.some.inj hL172
        have e_zs : zs = T_13.1 := by rw [← hex]
        have e_i : i = T_13.2 := by rw [← hex]
        subst e_zs
        subst e_i
        simp only [hT_14] at hJ158
        exact jM_divide_253 l g aM b fr nn nd sd N9 N2 r0 hml hK hx hb hr ht hown hlocks hA T_13.1 k ln _ _ ls hJ158 hP hD hS (lv_sub hl [2, 1, 3, 4, 5] rfl)
      · skip
        refine lv_aload_n hx hb dM_divide_178 rfl (lv_at hl 3 rfl) ?_
        refine lv_iload hx hb dM_divide_179 (lv_at hl 1 rfl) ?_
        refine lv_aload_n hx hb dM_divide_181 rfl (lv_at hl 3 rfl) ?_
        refine va_get (D := g.1) (ci := 6) (v := .ref (b 15)) (C := "NodeMakerModel") (T := Fd_M) (N := 37) hx hb ht i_M hown hK.1 hP 0 rfl rfl 15 (by decide) (ht _ q_540) (fun _ h9 => h9) rfl dM_divide_182 ?_
        refine lv_iload_n hx hb dM_divide_185 rfl (lv_at hl 4 rfl) ?_
        refine lv_iload hx hb dM_divide_186 (lv_at hl 0 rfl) ?_
        refine lv_iadd hx hb dM_divide_188 ?_
        have h_16 : vpin (fr + i) 9000 := Decidable.byContradiction (fun h9 => by simp only [sDivL, if_neg c_15, if_neg h9] at hL172; cases hL172)
        refine va_iald hx hb hK.1 hP 11 0 rfl rfl (vp_in_iff.mpr h_16) dM_divide_189 ?_
        obtain ⟨r_17, hc_18⟩ : ∃ r9, sM_lieOf zs ln ((zs.2.1 15) ((fr + i).toNatClampNeg)) = some r9 := by
          cases hc9 : sM_lieOf zs ln ((zs.2.1 15) ((fr + i).toNatClampNeg)) with
          | some r9 => exact ⟨r9, rfl⟩
          | none => exfalso; simp only [sDivL, if_neg c_15, if_pos h_16, hc9] at hL172; cases hL172
        refine ro_Vi (v := r_17) (As := [.int ln, .int ((zs.2.1 15) ((fr + i).toNatClampNeg))]) (rest := []) ⟨hx, hb, hml, hown, ht⟩ (cM_lieOf l g aM b zs ln ((zs.2.1 15) ((fr + i).toNatClampNeg)) r_17 hc_18) (cwV 2 ht (g_V q_717 q_719 q_24 q_39 q_720) rfl rfl rfl hd_M_lieOf ⟨Nat.le_of_ble_eq_true rfl, Nat.le_of_ble_eq_true rfl⟩) hK (hP) (va_recv hK.1 hP (ci := 6) (q0 := 0) rfl rfl) rfl hl.1 rfl (Nat.le_of_ble_eq_true rfl) dM_divide_190 ⟨Nat.zero_le _, Nat.zero_le _⟩ ?_
        refine lv_if_ne (tgt := 247) hx hb dM_divide_193 (by decide) (fun c_19 => ?_) (fun c_19 => ?_)
        · skip
          refine lv_iinc (v := i + 1) (lv' := [(8, .int (i + 1)), (7, .int ln), (6, .int k), (0, .ref aM), (1, .int fr), (2, .int nn)]) hx hb dM_divide_247 hl (k := 0) rfl rfl (by decide) rfl (fun ls hl => ?_)
          refine lv_goto (tgt := 172) hx hb dM_divide_250 (by decide) ?_
          simp only [sDivL, if_neg c_15, if_pos h_16, hc_18, if_neg c_19] at hL172
          exact ih172 zs (i + 1) H locs ls hL172 hP hD hS (lv_sub hl [0, 1, 2, 3, 4, 5] rfl)
        · skip
          refine lv_aload_n hx hb dM_divide_196 rfl (lv_at hl 3 rfl) ?_
          refine va_get (D := g.1) (ci := 6) (v := .ref (b 27)) (C := "NodeMakerModel") (T := Fd_M) (N := 37) hx hb ht i_M hown hK.1 hP 0 rfl rfl 27 (by decide) (ht _ q_552) (fun _ h9 => h9) rfl dM_divide_197 ?_
          refine lv_aload_n hx hb dM_divide_200 rfl (lv_at hl 3 rfl) ?_
          refine va_get (D := g.1) (ci := 6) (v := .int (zs.1 30)) (C := "NodeMakerModel") (T := Fd_M) (N := 37) hx hb ht i_M hown hK.1 hP 0 rfl rfl 30 (by decide) (ht _ q_555) (fun _ h9 => h9) rfl dM_divide_201 ?_
          refine lv_aload_n hx hb dM_divide_204 rfl (lv_at hl 3 rfl) ?_
          refine va_get (D := g.1) (ci := 6) (v := .ref (b 15)) (C := "NodeMakerModel") (T := Fd_M) (N := 37) hx hb ht i_M hown hK.1 hP 0 rfl rfl 15 (by decide) (ht _ q_540) (fun _ h9 => h9) rfl dM_divide_205 ?_
          refine lv_iload_n hx hb dM_divide_208 rfl (lv_at hl 4 rfl) ?_
          refine lv_iload hx hb dM_divide_209 (lv_at hl 0 rfl) ?_
          refine lv_iadd hx hb dM_divide_211 ?_
          refine va_iald hx hb hK.1 hP 11 0 rfl rfl (vp_in_iff.mpr h_16) dM_divide_212 ?_
          have h_20 : vpin (zs.1 30) 8300 := Decidable.byContradiction (fun h9 => by simp only [sDivL, if_neg c_15, if_pos h_16, hc_18, if_pos c_19, if_neg h9] at hL172; cases hL172)
          refine va_iast hx hb hK.1 hP hD hS 22 0 rfl rfl (vp_in_iff.mpr h_20) dM_divide_213 (fun H locs hP hD hS => ?_)
          have hP : va_P g.1 vwCl (mX g aM b (mI 27 (zs.1 30) ((zs.2.1 15) ((fr + i).toNatClampNeg)) zs)) H := hP
          have hD : va_D A (mX g aM b (mI 27 (zs.1 30) ((zs.2.1 15) ((fr + i).toNatClampNeg)) zs)) := hD
          simp only [sDivL, if_neg c_15, if_pos h_16, hc_18, if_pos c_19, if_pos h_20] at hL172
          obtain ⟨z_21, ez_21⟩ : ∃ x, x = mI 27 (zs.1 30) ((zs.2.1 15) ((fr + i).toNatClampNeg)) zs := ⟨_, rfl⟩
          rw [← ez_21] at hP hD hL172
          refine lv_aload_n hx hb dM_divide_214 rfl (lv_at hl 3 rfl) ?_
          refine va_get (D := g.1) (ci := 6) (v := .ref (b 32)) (C := "NodeMakerModel") (T := Fd_M) (N := 37) hx hb ht i_M hown hK.1 hP 0 rfl rfl 32 (by decide) (ht _ q_557) (fun _ h9 => h9) rfl dM_divide_215 ?_
          refine lv_aload_n hx hb dM_divide_218 rfl (lv_at hl 3 rfl) ?_
          refine va_get (D := g.1) (ci := 6) (v := .ref (b 8)) (C := "NodeMakerModel") (T := Fd_M) (N := 37) hx hb ht i_M hown hK.1 hP 0 rfl rfl 8 (by decide) (ht _ q_533) (fun _ h9 => h9) rfl dM_divide_219 ?_
          refine lv_aload_n hx hb dM_divide_222 rfl (lv_at hl 3 rfl) ?_
          refine va_get (D := g.1) (ci := 6) (v := .ref (b 15)) (C := "NodeMakerModel") (T := Fd_M) (N := 37) hx hb ht i_M hown hK.1 hP 0 rfl rfl 15 (by decide) (ht _ q_540) (fun _ h9 => h9) rfl dM_divide_223 ?_
          refine lv_iload_n hx hb dM_divide_226 rfl (lv_at hl 4 rfl) ?_
          refine lv_iload hx hb dM_divide_227 (lv_at hl 0 rfl) ?_
          refine lv_iadd hx hb dM_divide_229 ?_
          refine va_iald hx hb hK.1 hP 11 0 rfl rfl (vp_in_iff.mpr h_16) dM_divide_230 ?_
          have h_22 : vpin ((z_21.2.1 15) ((fr + i).toNatClampNeg)) 8300 := Decidable.byContradiction (fun h9 => by simp only [if_neg h9] at hL172; cases hL172)
          refine va_iald hx hb hK.1 hP 6 0 rfl rfl (vp_in_iff.mpr h_22) dM_divide_231 ?_
          refine lv_dup2_11 hx hb dM_divide_232 rfl rfl ?_
          have h_23 : vpin ((z_21.2.1 8) (((z_21.2.1 15) ((fr + i).toNatClampNeg)).toNatClampNeg)) 64 := Decidable.byContradiction (fun h9 => by simp only [if_pos h_22, if_neg h9] at hL172; cases hL172)
          refine va_iald hx hb hK.1 hP 23 0 rfl rfl (vp_in_iff.mpr h_23) dM_divide_233 ?_
          refine lv_iconst (v := 1) hx hb dM_divide_234 (by decide) ?_
          refine lv_iadd hx hb dM_divide_235 ?_
          refine va_iast hx hb hK.1 hP hD hS 23 0 rfl rfl (vp_in_iff.mpr h_23) dM_divide_236 (fun H locs hP hD hS => ?_)
          have hP : va_P g.1 vwCl (mX g aM b (mI 32 ((z_21.2.1 8) (((z_21.2.1 15) ((fr + i).toNatClampNeg)).toNatClampNeg)) (((z_21.2.1 32) (((z_21.2.1 8) (((z_21.2.1 15) ((fr + i).toNatClampNeg)).toNatClampNeg)).toNatClampNeg)) + 1) z_21)) H := hP
          have hD : va_D A (mX g aM b (mI 32 ((z_21.2.1 8) (((z_21.2.1 15) ((fr + i).toNatClampNeg)).toNatClampNeg)) (((z_21.2.1 32) (((z_21.2.1 8) (((z_21.2.1 15) ((fr + i).toNatClampNeg)).toNatClampNeg)).toNatClampNeg)) + 1) z_21)) := hD
          simp only [if_pos h_22, if_pos h_23] at hL172
          obtain ⟨z_24, ez_24⟩ : ∃ x, x = mI 32 ((z_21.2.1 8) (((z_21.2.1 15) ((fr + i).toNatClampNeg)).toNatClampNeg)) (((z_21.2.1 32) (((z_21.2.1 8) (((z_21.2.1 15) ((fr + i).toNatClampNeg)).toNatClampNeg)).toNatClampNeg)) + 1) z_21 := ⟨_, rfl⟩
          rw [← ez_24] at hP hD hL172
          refine lv_aload_n hx hb dM_divide_237 rfl (lv_at hl 3 rfl) ?_
          refine lv_dup hx hb dM_divide_238 rfl ?_
          refine va_get (D := g.1) (ci := 6) (v := .int (z_24.1 30)) (C := "NodeMakerModel") (T := Fd_M) (N := 37) hx hb ht i_M hown hK.1 hP 0 rfl rfl 30 (by decide) (ht _ q_555) (fun _ h9 => h9) rfl dM_divide_239 ?_
          refine lv_iconst (v := 1) hx hb dM_divide_242 (by decide) ?_
          refine lv_iadd hx hb dM_divide_243 ?_
          refine va_put (D := g.1) (ci := 6) (v := .int ((z_24.1 30) + 1)) (ty := .int) (C := "NodeMakerModel") (T := Fd_M) (N := 37) hx hb ht i_M ty_M ty_M_ok nm_M hown hK.1 hP hD hS 0 rfl rfl 30 (by decide) (ht _ q_555) (fun _ h9 => h9) rfl (by decide +kernel) rfl rfl (Nat.le_of_ble_eq_true rfl) dM_divide_244 (fun H locs hP hD hS => ?_)
          have hP : va_P g.1 vwCl (mX g aM b (mV 30 ((z_24.1 30) + 1) z_24)) H := hP
          have hD : va_D A (mX g aM b (mV 30 ((z_24.1 30) + 1) z_24)) := hD
          obtain ⟨z_25, ez_25⟩ : ∃ x, x = mV 30 ((z_24.1 30) + 1) z_24 := ⟨_, rfl⟩
          rw [← ez_25] at hP hD hL172
          refine lv_iinc (v := i + 1) (lv' := [(8, .int (i + 1)), (7, .int ln), (6, .int k), (0, .ref aM), (1, .int fr), (2, .int nn)]) hx hb dM_divide_247 hl (k := 0) rfl rfl (by decide) rfl (fun ls hl => ?_)
          refine lv_goto (tgt := 172) hx hb dM_divide_250 (by decide) ?_
          exact ih172 z_25 (i + 1) H locs ls hL172 hP hD hS (lv_sub hl [0, 1, 2, 3, 4, 5] rfl)
  exact loop172 N9 z_12 0 _ _ ls hT_14 hP hD hS (lv_sub hl [0, 2, 1, 3, 4, 5] rfl)
set_option maxHeartbeats 4000000 in
set_option maxRecDepth 1000000 in
theorem jM_divide_66 (l : Launch) (g : CX) (aM : Nat) (b : Nat → Nat) (fr : Int32) (nn : Int32) (nd : Int32) (sd : Int32) (N9 : Nat) (N2 : Nat) (r0 : MSt) {p : Program} {e : Env} {s : State} {m : MethodId} {below : List Frame} {meth : Method} {c : Code} (hml : c.maxLocals = 12) (hK : KK g s) (hx : p.tables.exec = Jvm.exec) (hb : c.code = kM_divide) (hr : meth.sig.returnType = none) (ht : ∀ w ∈ wT, w.before ([.ref aM, .int fr, .int nn, .int nd, .int sd] : List Value).toArray s = true) (hown : s.vm.findClass "NodeMakerModel" = some m.cls) (hlocks : meth.locks = false) {A : Nat → Prop} (hA : ∀ q : Nat, s.heap.size ≤ q → A q) : ∀ (zs : MSt) (H : Heap) (locs : List Loc) (ls : Array Slot), sDivT fr nn nd N9 N2 zs = some r0 → va_P g.1 vwCl (mX g aM b zs) H → va_D A (mX g aM b zs) → va_S A s.heap H locs → lv_has ls 12 [(0, .ref aM), (1, .int fr), (2, .int nn), (3, .int nd)] → W p l e (headSpec (wm yM_divide kM_divide 12 none) ({ frames := 5, cells := 0, slots := 0, locals := 162 })).room s m ([.ref aM, .int fr, .int nn, .int nd, .int sd] : List Value).toArray below meth c H locs (0) (0) (MQ below (va_Qv (fun (_u : Unit) => True) (rB g A (fun _u => (mX g aM b r0))) A) ([.ref aM, .int fr, .int nn, .int nd, .int sd] : List Value).toArray s 0 0 A) (F0 m 66 ls []) := by
  intro zs H locs ls hJ66 hP hD hS hl
  refine lv_aload_n hx hb dM_divide_66 rfl (lv_at hl 0 rfl) ?_
  refine va_get (D := g.1) (ci := 6) (v := .int (zs.1 28)) (C := "NodeMakerModel") (T := Fd_M) (N := 37) hx hb ht i_M hown hK.1 hP 0 rfl rfl 28 (by decide) (ht _ q_553) (fun _ h9 => h9) rfl dM_divide_67 ?_
  refine lv_istore (lv' := [(6, .int (zs.1 28)), (0, .ref aM), (1, .int fr), (2, .int nn), (3, .int nd)]) hx hb dM_divide_70 hl (by decide) rfl (fun ls hl => ?_)
  refine lv_aload_n hx hb dM_divide_72 rfl (lv_at hl 1 rfl) ?_
  refine lv_dup hx hb dM_divide_73 rfl ?_
  refine va_get (D := g.1) (ci := 6) (v := .int (zs.1 28)) (C := "NodeMakerModel") (T := Fd_M) (N := 37) hx hb ht i_M hown hK.1 hP 0 rfl rfl 28 (by decide) (ht _ q_553) (fun _ h9 => h9) rfl dM_divide_74 ?_
  refine lv_iconst (v := 1) hx hb dM_divide_77 (by decide) ?_
  refine lv_iadd hx hb dM_divide_78 ?_
  refine va_put (D := g.1) (ci := 6) (v := .int ((zs.1 28) + 1)) (ty := .int) (C := "NodeMakerModel") (T := Fd_M) (N := 37) hx hb ht i_M ty_M ty_M_ok nm_M hown hK.1 hP hD hS 0 rfl rfl 28 (by decide) (ht _ q_553) (fun _ h9 => h9) rfl (by decide +kernel) rfl rfl (Nat.le_of_ble_eq_true rfl) dM_divide_79 (fun H locs hP hD hS => ?_)
  have hP : va_P g.1 vwCl (mX g aM b (mV 28 ((zs.1 28) + 1) zs)) H := hP
  have hD : va_D A (mX g aM b (mV 28 ((zs.1 28) + 1) zs)) := hD
  simp only [sDivT] at hJ66
  obtain ⟨z_26, ez_26⟩ : ∃ x, x = mV 28 ((zs.1 28) + 1) zs := ⟨_, rfl⟩
  rw [← ez_26] at hP hD hJ66
  refine lv_aload_n hx hb dM_divide_82 rfl (lv_at hl 1 rfl) ?_
  refine lv_iload_n hx hb dM_divide_83 rfl (lv_at hl 2 rfl) ?_
  refine lv_iload_n hx hb dM_divide_84 rfl (lv_at hl 3 rfl) ?_
  obtain ⟨r_27, hc_28⟩ : ∃ r9, sM_bestOf z_26 fr nn N9 N2 = some r9 := by
    cases hc9 : sM_bestOf z_26 fr nn N9 N2 with
    | some r9 => exact ⟨r9, rfl⟩
    | none => exfalso; simp only [hc9] at hJ66; cases hJ66
  refine ro_Vi (v := r_27) (As := [.int fr, .int nn]) (rest := []) ⟨hx, hb, hml, hown, ht⟩ (cM_bestOf l g aM b z_26 fr nn N9 N2 r_27 hc_28) (cwV 2 ht (g_V q_712 q_714 q_23 q_39 q_715) rfl rfl rfl hd_M_bestOf ⟨Nat.le_of_ble_eq_true rfl, Nat.le_of_ble_eq_true rfl⟩) hK (hP) (va_recv hK.1 hP (ci := 6) (q0 := 0) rfl rfl) rfl hl.1 rfl (Nat.le_of_ble_eq_true rfl) dM_divide_85 ⟨Nat.zero_le _, Nat.zero_le _⟩ ?_
  refine lv_istore (lv' := [(7, .int r_27), (6, .int (zs.1 28)), (0, .ref aM), (1, .int fr), (2, .int nn), (3, .int nd)]) hx hb dM_divide_88 hl (by decide) rfl (fun ls hl => ?_)
  refine lv_aload_n hx hb dM_divide_90 rfl (lv_at hl 2 rfl) ?_
  refine va_get (D := g.1) (ci := 6) (v := .ref (b 21)) (C := "NodeMakerModel") (T := Fd_M) (N := 37) hx hb ht i_M hown hK.1 hP 0 rfl rfl 21 (by decide) (ht _ q_546) (fun _ h9 => h9) rfl dM_divide_91 ?_
  refine lv_iload hx hb dM_divide_94 (lv_at hl 1 rfl) ?_
  refine lv_iload hx hb dM_divide_96 (lv_at hl 0 rfl) ?_
  have h_29 : vpin (zs.1 28) 4200 := Decidable.byContradiction (fun h9 => by simp only [hc_28, if_neg h9] at hJ66; cases hJ66)
  refine va_iast hx hb hK.1 hP hD hS 16 0 rfl rfl (vp_in_iff.mpr h_29) dM_divide_98 (fun H locs hP hD hS => ?_)
  have hP : va_P g.1 vwCl (mX g aM b (mI 21 (zs.1 28) r_27 z_26)) H := hP
  have hD : va_D A (mX g aM b (mI 21 (zs.1 28) r_27 z_26)) := hD
  simp only [hc_28, if_pos h_29] at hJ66
  obtain ⟨z_30, ez_30⟩ : ∃ x, x = mI 21 (zs.1 28) r_27 z_26 := ⟨_, rfl⟩
  rw [← ez_30] at hP hD hJ66
  refine lv_aload_n hx hb dM_divide_99 rfl (lv_at hl 2 rfl) ?_
  refine va_get (D := g.1) (ci := 6) (v := .ref (b 24)) (C := "NodeMakerModel") (T := Fd_M) (N := 37) hx hb ht i_M hown hK.1 hP 0 rfl rfl 24 (by decide) (ht _ q_549) (fun _ h9 => h9) rfl dM_divide_100 ?_
  refine lv_iload hx hb dM_divide_103 (lv_at hl 1 rfl) ?_
  refine lv_iload_n hx hb dM_divide_105 rfl (lv_at hl 5 rfl) ?_
  refine lv_if_ge (tgt := 113) hx hb dM_divide_106 (by decide) (fun c_31 => ?_) (fun c_31 => ?_)
  · skip
    refine lv_aload_n hx hb dM_divide_113 rfl (lv_at hl 2 rfl) ?_
    refine va_get (D := g.1) (ci := 6) (v := .ref (b 24)) (C := "NodeMakerModel") (T := Fd_M) (N := 37) hx hb ht i_M hown hK.1 hP 0 rfl rfl 24 (by decide) (ht _ q_549) (fun _ h9 => h9) rfl dM_divide_114 ?_
    refine lv_iload_n hx hb dM_divide_117 rfl (lv_at hl 5 rfl) ?_
    have h_32 : vpin nd 4200 := Decidable.byContradiction (fun h9 => by simp only [if_pos c_31, if_neg h9] at hJ66; cases hJ66)
    refine va_iald hx hb hK.1 hP 19 0 rfl rfl (vp_in_iff.mpr h_32) dM_divide_118 ?_
    refine lv_iconst (v := 1) hx hb dM_divide_119 (by decide) ?_
    refine lv_iadd hx hb dM_divide_120 ?_
    refine va_iast hx hb hK.1 hP hD hS 19 0 rfl rfl (vp_in_iff.mpr h_29) dM_divide_121 (fun H locs hP hD hS => ?_)
    have hP : va_P g.1 vwCl (mX g aM b (mI 24 (zs.1 28) (((z_30.2.1 24) nd.toNatClampNeg) + 1) z_30)) H := hP
    have hD : va_D A (mX g aM b (mI 24 (zs.1 28) (((z_30.2.1 24) nd.toNatClampNeg) + 1) z_30)) := hD
    simp only [if_pos c_31, if_pos h_32] at hJ66
    obtain ⟨z_33, ez_33⟩ : ∃ x, x = mI 24 (zs.1 28) (((z_30.2.1 24) nd.toNatClampNeg) + 1) z_30 := ⟨_, rfl⟩
    rw [← ez_33] at hP hD hJ66
    refine lv_aload_n hx hb dM_divide_122 rfl (lv_at hl 2 rfl) ?_
    refine lv_aload_n hx hb dM_divide_123 rfl (lv_at hl 2 rfl) ?_
    refine va_get (D := g.1) (ci := 6) (v := .ref (b 24)) (C := "NodeMakerModel") (T := Fd_M) (N := 37) hx hb ht i_M hown hK.1 hP 0 rfl rfl 24 (by decide) (ht _ q_549) (fun _ h9 => h9) rfl dM_divide_124 ?_
    refine lv_iload hx hb dM_divide_127 (lv_at hl 1 rfl) ?_
    refine va_iald hx hb hK.1 hP 19 0 rfl rfl (vp_in_iff.mpr h_29) dM_divide_129 ?_
    refine lv_iconst (v := 1) hx hb dM_divide_130 (by decide) ?_
    refine lv_iadd hx hb dM_divide_131 ?_
    refine lv_aload_n hx hb dM_divide_132 rfl (lv_at hl 2 rfl) ?_
    refine va_get (D := g.1) (ci := 6) (v := .int (z_33.1 31)) (C := "NodeMakerModel") (T := Fd_M) (N := 37) hx hb ht i_M hown hK.1 hP 0 rfl rfl 31 (by decide) (ht _ q_556) (fun _ h9 => h9) rfl dM_divide_133 ?_
    refine lv_icmp_le (tgt := 151) hx hb dM_divide_136 (by decide) (fun c_34 => ?_) (fun c_34 => ?_)
    · skip
      refine lv_aload_n hx hb dM_divide_151 rfl (lv_at hl 2 rfl) ?_
      refine va_get (D := g.1) (ci := 6) (v := .int (z_33.1 31)) (C := "NodeMakerModel") (T := Fd_M) (N := 37) hx hb ht i_M hown hK.1 hP 0 rfl rfl 31 (by decide) (ht _ q_556) (fun _ h9 => h9) rfl dM_divide_152 ?_
      refine va_put (D := g.1) (ci := 6) (v := .int (z_33.1 31)) (ty := .int) (C := "NodeMakerModel") (T := Fd_M) (N := 37) hx hb ht i_M ty_M ty_M_ok nm_M hown hK.1 hP hD hS 0 rfl rfl 31 (by decide) (ht _ q_556) (fun _ h9 => h9) rfl (by decide +kernel) rfl rfl (Nat.le_of_ble_eq_true rfl) dM_divide_155 (fun H locs hP hD hS => ?_)
      have hP : va_P g.1 vwCl (mX g aM b (mV 31 (z_33.1 31) z_33)) H := hP
      have hD : va_D A (mX g aM b (mV 31 (z_33.1 31) z_33)) := hD
      simp only [if_pos c_34] at hJ66
      obtain ⟨z_35, ez_35⟩ : ∃ x, x = mV 31 (z_33.1 31) z_33 := ⟨_, rfl⟩
      rw [← ez_35] at hP hD hJ66
      exact jM_divide_158 l g aM b fr nn nd sd N9 N2 r0 hml hK hx hb hr ht hown hlocks hA z_35 (zs.1 28) r_27 _ _ ls hJ66 hP hD hS (lv_sub hl [1, 0, 2, 3, 4] rfl)
    · skip
      refine lv_aload_n hx hb dM_divide_139 rfl (lv_at hl 2 rfl) ?_
      refine va_get (D := g.1) (ci := 6) (v := .ref (b 24)) (C := "NodeMakerModel") (T := Fd_M) (N := 37) hx hb ht i_M hown hK.1 hP 0 rfl rfl 24 (by decide) (ht _ q_549) (fun _ h9 => h9) rfl dM_divide_140 ?_
      refine lv_iload hx hb dM_divide_143 (lv_at hl 1 rfl) ?_
      refine va_iald hx hb hK.1 hP 19 0 rfl rfl (vp_in_iff.mpr h_29) dM_divide_145 ?_
      refine lv_iconst (v := 1) hx hb dM_divide_146 (by decide) ?_
      refine lv_iadd hx hb dM_divide_147 ?_
      refine lv_goto (tgt := 155) hx hb dM_divide_148 (by decide) ?_
      refine va_put (D := g.1) (ci := 6) (v := .int (((z_33.2.1 24) ((zs.1 28).toNatClampNeg)) + 1)) (ty := .int) (C := "NodeMakerModel") (T := Fd_M) (N := 37) hx hb ht i_M ty_M ty_M_ok nm_M hown hK.1 hP hD hS 0 rfl rfl 31 (by decide) (ht _ q_556) (fun _ h9 => h9) rfl (by decide +kernel) rfl rfl (Nat.le_of_ble_eq_true rfl) dM_divide_155 (fun H locs hP hD hS => ?_)
      have hP : va_P g.1 vwCl (mX g aM b (mV 31 (((z_33.2.1 24) ((zs.1 28).toNatClampNeg)) + 1) z_33)) H := hP
      have hD : va_D A (mX g aM b (mV 31 (((z_33.2.1 24) ((zs.1 28).toNatClampNeg)) + 1) z_33)) := hD
      simp only [if_neg c_34] at hJ66
      obtain ⟨z_36, ez_36⟩ : ∃ x, x = mV 31 (((z_33.2.1 24) ((zs.1 28).toNatClampNeg)) + 1) z_33 := ⟨_, rfl⟩
      rw [← ez_36] at hP hD hJ66
      exact jM_divide_158 l g aM b fr nn nd sd N9 N2 r0 hml hK hx hb hr ht hown hlocks hA z_36 (zs.1 28) r_27 _ _ ls hJ66 hP hD hS (lv_sub hl [1, 0, 2, 3, 4] rfl)
  · skip
    refine lv_iconst (v := 0) hx hb dM_divide_109 (by decide) ?_
    refine lv_goto (tgt := 121) hx hb dM_divide_110 (by decide) ?_
    refine va_iast hx hb hK.1 hP hD hS 19 0 rfl rfl (vp_in_iff.mpr h_29) dM_divide_121 (fun H locs hP hD hS => ?_)
    have hP : va_P g.1 vwCl (mX g aM b (mI 24 (zs.1 28) 0 z_30)) H := hP
    have hD : va_D A (mX g aM b (mI 24 (zs.1 28) 0 z_30)) := hD
    simp only [if_neg c_31] at hJ66
    obtain ⟨z_37, ez_37⟩ : ∃ x, x = mI 24 (zs.1 28) 0 z_30 := ⟨_, rfl⟩
    rw [← ez_37] at hP hD hJ66
    refine lv_aload_n hx hb dM_divide_122 rfl (lv_at hl 2 rfl) ?_
    refine lv_aload_n hx hb dM_divide_123 rfl (lv_at hl 2 rfl) ?_
    refine va_get (D := g.1) (ci := 6) (v := .ref (b 24)) (C := "NodeMakerModel") (T := Fd_M) (N := 37) hx hb ht i_M hown hK.1 hP 0 rfl rfl 24 (by decide) (ht _ q_549) (fun _ h9 => h9) rfl dM_divide_124 ?_
    refine lv_iload hx hb dM_divide_127 (lv_at hl 1 rfl) ?_
    refine va_iald hx hb hK.1 hP 19 0 rfl rfl (vp_in_iff.mpr h_29) dM_divide_129 ?_
    refine lv_iconst (v := 1) hx hb dM_divide_130 (by decide) ?_
    refine lv_iadd hx hb dM_divide_131 ?_
    refine lv_aload_n hx hb dM_divide_132 rfl (lv_at hl 2 rfl) ?_
    refine va_get (D := g.1) (ci := 6) (v := .int (z_37.1 31)) (C := "NodeMakerModel") (T := Fd_M) (N := 37) hx hb ht i_M hown hK.1 hP 0 rfl rfl 31 (by decide) (ht _ q_556) (fun _ h9 => h9) rfl dM_divide_133 ?_
    refine lv_icmp_le (tgt := 151) hx hb dM_divide_136 (by decide) (fun c_38 => ?_) (fun c_38 => ?_)
    · skip
      refine lv_aload_n hx hb dM_divide_151 rfl (lv_at hl 2 rfl) ?_
      refine va_get (D := g.1) (ci := 6) (v := .int (z_37.1 31)) (C := "NodeMakerModel") (T := Fd_M) (N := 37) hx hb ht i_M hown hK.1 hP 0 rfl rfl 31 (by decide) (ht _ q_556) (fun _ h9 => h9) rfl dM_divide_152 ?_
      refine va_put (D := g.1) (ci := 6) (v := .int (z_37.1 31)) (ty := .int) (C := "NodeMakerModel") (T := Fd_M) (N := 37) hx hb ht i_M ty_M ty_M_ok nm_M hown hK.1 hP hD hS 0 rfl rfl 31 (by decide) (ht _ q_556) (fun _ h9 => h9) rfl (by decide +kernel) rfl rfl (Nat.le_of_ble_eq_true rfl) dM_divide_155 (fun H locs hP hD hS => ?_)
      have hP : va_P g.1 vwCl (mX g aM b (mV 31 (z_37.1 31) z_37)) H := hP
      have hD : va_D A (mX g aM b (mV 31 (z_37.1 31) z_37)) := hD
      simp only [if_pos c_38] at hJ66
      obtain ⟨z_39, ez_39⟩ : ∃ x, x = mV 31 (z_37.1 31) z_37 := ⟨_, rfl⟩
      rw [← ez_39] at hP hD hJ66
      exact jM_divide_158 l g aM b fr nn nd sd N9 N2 r0 hml hK hx hb hr ht hown hlocks hA z_39 (zs.1 28) r_27 _ _ ls hJ66 hP hD hS (lv_sub hl [1, 0, 2, 3, 4] rfl)
    · skip
      refine lv_aload_n hx hb dM_divide_139 rfl (lv_at hl 2 rfl) ?_
      refine va_get (D := g.1) (ci := 6) (v := .ref (b 24)) (C := "NodeMakerModel") (T := Fd_M) (N := 37) hx hb ht i_M hown hK.1 hP 0 rfl rfl 24 (by decide) (ht _ q_549) (fun _ h9 => h9) rfl dM_divide_140 ?_
      refine lv_iload hx hb dM_divide_143 (lv_at hl 1 rfl) ?_
      refine va_iald hx hb hK.1 hP 19 0 rfl rfl (vp_in_iff.mpr h_29) dM_divide_145 ?_
      refine lv_iconst (v := 1) hx hb dM_divide_146 (by decide) ?_
      refine lv_iadd hx hb dM_divide_147 ?_
      refine lv_goto (tgt := 155) hx hb dM_divide_148 (by decide) ?_
      refine va_put (D := g.1) (ci := 6) (v := .int (((z_37.2.1 24) ((zs.1 28).toNatClampNeg)) + 1)) (ty := .int) (C := "NodeMakerModel") (T := Fd_M) (N := 37) hx hb ht i_M ty_M ty_M_ok nm_M hown hK.1 hP hD hS 0 rfl rfl 31 (by decide) (ht _ q_556) (fun _ h9 => h9) rfl (by decide +kernel) rfl rfl (Nat.le_of_ble_eq_true rfl) dM_divide_155 (fun H locs hP hD hS => ?_)
      have hP : va_P g.1 vwCl (mX g aM b (mV 31 (((z_37.2.1 24) ((zs.1 28).toNatClampNeg)) + 1) z_37)) H := hP
      have hD : va_D A (mX g aM b (mV 31 (((z_37.2.1 24) ((zs.1 28).toNatClampNeg)) + 1) z_37)) := hD
      simp only [if_neg c_38] at hJ66
      obtain ⟨z_40, ez_40⟩ : ∃ x, x = mV 31 (((z_37.2.1 24) ((zs.1 28).toNatClampNeg)) + 1) z_37 := ⟨_, rfl⟩
      rw [← ez_40] at hP hD hJ66
      exact jM_divide_158 l g aM b fr nn nd sd N9 N2 r0 hml hK hx hb hr ht hown hlocks hA z_40 (zs.1 28) r_27 _ _ ls hJ66 hP hD hS (lv_sub hl [1, 0, 2, 3, 4] rfl)
set_option maxHeartbeats 4000000 in
set_option maxRecDepth 100000 in
theorem cM_divide (l : Launch) (g : CX) (sz : Nat) (aM : Nat) (b : Nat → Nat) (mz : MSt) (fr : Int32) (nn : Int32) (nd : Int32) (sd : Int32) (N9 : Nat) (N2 : Nat) (r0 : MSt) (hok : sM_divide mz fr nn nd sd N9 N2 = some r0) : Met l yM_divide (wm yM_divide kM_divide 12 none) ({ frames := 5, cells := 0, slots := 0, locals := 162 }) (rw g [.ref aM, .int fr, .int nn, .int nd, .int sd] (mX g aM b mz) sz) (va_Qv (fun (_u : Unit) => True) (rB g (va_A (mX g aM b mz) sz) (fun _u => (mX g aM b r0))) (va_A (mX g aM b mz) sz)) 0 0 (va_A (mX g aM b mz) sz) := by
  refine Met.ofW (cc := kM_divide) (maxL := 12) (ret := none) (by decide) rfl ?_
  intro p e s m args below meth c s₁ B hml hv
  obtain ⟨rfl, hsz, hK, hP, hD0⟩ := hv
  have hx := B.exec
  have hb := B.bytes
  have hr := B.returns
  have ht : ∀ w ∈ wT, w.before _ s = true := fun w h => atoms_spec (ws := wm yM_divide kM_divide 12 none) B.pre w (List.mem_cons_of_mem _ h)
  have hown : s.vm.findClass "NodeMakerModel" = some m.cls := findClass_of_methodNamed B.named
  have hlocks := B.notSynchronized
  subst hsz
  have hD := hD0.self (sz := s.heap.size)
  generalize hAe : va_A (mX g aM b mz) s.heap.size = A at hD ⊢
  have hA : ∀ q : Nat, s.heap.size ≤ q → A q := fun q h => by rw [← hAe]; exact Or.inr h
  have hS : va_S A s.heap s.heap [] := va_S.rf
  have hl := lv_entry ([.ref aM, .int fr, .int nn, .int nd, .int sd]) (n := 12) (Nat.le_of_ble_eq_true rfl)
  rw [lg_entry_eq]
  generalize (lg_sl ([.ref aM, .int fr, .int nn, .int nd, .int sd]) ++ List.replicate (12 - (lg_sl ([.ref aM, .int fr, .int nn, .int nd, .int sd])).length) Slot.unset).toArray = ls at hl ⊢
  have hl : lv_has ls 12 [(0, .ref aM), (1, .int fr), (2, .int nn), (3, .int nd), (4, .int sd)] := hl
  refine lv_iload_n hx hb dM_divide_0 rfl (lv_at hl 2 rfl) ?_
  refine lv_if_ne (tgt := 13) hx hb dM_divide_1 (by decide) (fun c_41 => ?_) (fun c_41 => ?_)
  · skip
    refine lv_aload_n hx hb dM_divide_13 rfl (lv_at hl 0 rfl) ?_
    refine va_get (D := g.1) (ci := 6) (v := .int (mz.1 28)) (C := "NodeMakerModel") (T := Fd_M) (N := 37) hx hb ht i_M hown hK.1 hP 0 rfl rfl 28 (by decide) (ht _ q_553) (fun _ h9 => h9) rfl dM_divide_14 ?_
    refine lv_istore (lv' := [(5, .int (mz.1 28)), (0, .ref aM), (1, .int fr), (2, .int nn), (3, .int nd), (4, .int sd)]) hx hb dM_divide_17 hl (by decide) rfl (fun ls hl => ?_)
    refine lv_iload_n hx hb dM_divide_19 rfl (lv_at hl 4 rfl) ?_
    refine lv_if_lt (tgt := 39) hx hb dM_divide_20 (by decide) (fun c_42 => ?_) (fun c_42 => ?_)
    · skip
      refine lv_iload_n hx hb dM_divide_39 rfl (lv_at hl 4 rfl) ?_
      refine lv_if_lt (tgt := 51) hx hb dM_divide_40 (by decide) (fun c_43 => ?_) (fun c_43 => ?_)
      · skip
        refine lv_iload_n hx hb dM_divide_51 rfl (lv_at hl 3 rfl) ?_
        refine lv_if_ne (tgt := 66) hx hb dM_divide_52 (by decide) (fun c_44 => ?_) (fun c_44 => ?_)
        · skip
          simp only [sM_divide, if_neg c_41, if_pos c_42] at hok
          exact jM_divide_66 l g aM b fr nn nd sd N9 N2 r0 hml hK hx hb hr ht hown hlocks hA mz _ _ ls hok hP hD hS (lv_sub hl [1, 2, 3, 4] rfl)
        · skip
          exact absurd c_44 c_41
      · skip
        exact absurd c_42 c_43
    · skip
      refine lv_iload hx hb dM_divide_23 (lv_at hl 5 rfl) ?_
      refine lv_if_ne (tgt := 39) hx hb dM_divide_25 (by decide) (fun c_45 => ?_) (fun c_45 => ?_)
      · skip
        refine lv_iload_n hx hb dM_divide_39 rfl (lv_at hl 4 rfl) ?_
        refine lv_if_lt (tgt := 51) hx hb dM_divide_40 (by decide) (fun c_46 => ?_) (fun c_46 => ?_)
        · skip
          exact absurd c_46 c_42
        · skip
          refine lv_aload_n hx hb dM_divide_43 rfl (lv_at hl 1 rfl) ?_
          refine va_get (D := g.1) (ci := 6) (v := .ref (b 23)) (C := "NodeMakerModel") (T := Fd_M) (N := 37) hx hb ht i_M hown hK.1 hP 0 rfl rfl 23 (by decide) (ht _ q_548) (fun _ h9 => h9) rfl dM_divide_44 ?_
          refine lv_iload_n hx hb dM_divide_47 rfl (lv_at hl 4 rfl) ?_
          refine lv_iload hx hb dM_divide_48 (lv_at hl 0 rfl) ?_
          have h_47 : vpin nd 4200 := Decidable.byContradiction (fun h9 => by simp only [sM_divide, if_neg c_41, if_neg c_42, if_neg c_45, if_neg h9] at hok; cases hok)
          refine va_iast hx hb hK.1 hP hD hS 18 0 rfl rfl (vp_in_iff.mpr h_47) dM_divide_50 (fun H locs hP hD hS => ?_)
          have hP : va_P g.1 vwCl (mX g aM b (mI 23 nd (mz.1 28) mz)) H := hP
          have hD : va_D A (mX g aM b (mI 23 nd (mz.1 28) mz)) := hD
          simp only [sM_divide, if_neg c_41, if_neg c_42, if_neg c_45, if_pos h_47] at hok
          obtain ⟨z_48, ez_48⟩ : ∃ x, x = mI 23 nd (mz.1 28) mz := ⟨_, rfl⟩
          rw [← ez_48] at hP hD hok
          refine lv_iload_n hx hb dM_divide_51 rfl (lv_at hl 3 rfl) ?_
          refine lv_if_ne (tgt := 66) hx hb dM_divide_52 (by decide) (fun c_49 => ?_) (fun c_49 => ?_)
          · skip
            exact jM_divide_66 l g aM b fr nn nd sd N9 N2 r0 hml hK hx hb hr ht hown hlocks hA z_48 _ _ ls hok hP hD hS (lv_sub hl [1, 2, 3, 4] rfl)
          · skip
            exact absurd c_49 c_41
      · skip
        refine lv_aload_n hx hb dM_divide_28 rfl (lv_at hl 1 rfl) ?_
        refine va_get (D := g.1) (ci := 6) (v := .ref (b 22)) (C := "NodeMakerModel") (T := Fd_M) (N := 37) hx hb ht i_M hown hK.1 hP 0 rfl rfl 22 (by decide) (ht _ q_547) (fun _ h9 => h9) rfl dM_divide_29 ?_
        refine lv_iload_n hx hb dM_divide_32 rfl (lv_at hl 4 rfl) ?_
        refine lv_iload hx hb dM_divide_33 (lv_at hl 0 rfl) ?_
        have h_50 : vpin nd 4200 := Decidable.byContradiction (fun h9 => by simp only [sM_divide, if_neg c_41, if_neg c_42, if_pos c_45, if_neg h9] at hok; cases hok)
        refine va_iast hx hb hK.1 hP hD hS 17 0 rfl rfl (vp_in_iff.mpr h_50) dM_divide_35 (fun H locs hP hD hS => ?_)
        have hP : va_P g.1 vwCl (mX g aM b (mI 22 nd (mz.1 28) mz)) H := hP
        have hD : va_D A (mX g aM b (mI 22 nd (mz.1 28) mz)) := hD
        simp only [sM_divide, if_neg c_41, if_neg c_42, if_pos c_45, if_pos h_50] at hok
        obtain ⟨z_51, ez_51⟩ : ∃ x, x = mI 22 nd (mz.1 28) mz := ⟨_, rfl⟩
        rw [← ez_51] at hP hD hok
        refine lv_goto (tgt := 51) hx hb dM_divide_36 (by decide) ?_
        refine lv_iload_n hx hb dM_divide_51 rfl (lv_at hl 3 rfl) ?_
        refine lv_if_ne (tgt := 66) hx hb dM_divide_52 (by decide) (fun c_52 => ?_) (fun c_52 => ?_)
        · skip
          exact jM_divide_66 l g aM b fr nn nd sd N9 N2 r0 hml hK hx hb hr ht hown hlocks hA z_51 _ _ ls hok hP hD hS (lv_sub hl [1, 2, 3, 4] rfl)
        · skip
          exact absurd c_52 c_41
  · skip
    refine lv_iconst (v := -1) hx hb dM_divide_4 (by decide) ?_
    refine lv_aload_n hx hb dM_divide_5 rfl (lv_at hl 0 rfl) ?_
    refine va_get (D := g.1) (ci := 6) (v := .int (mz.1 29)) (C := "NodeMakerModel") (T := Fd_M) (N := 37) hx hb ht i_M hown hK.1 hP 0 rfl rfl 29 (by decide) (ht _ q_554) (fun _ h9 => h9) rfl dM_divide_6 ?_
    refine lv_isub hx hb dM_divide_9 ?_
    refine lv_goto (tgt := 17) hx hb dM_divide_10 (by decide) ?_
    refine lv_istore (lv' := [(5, .int ((-1) - (mz.1 29))), (0, .ref aM), (1, .int fr), (2, .int nn), (3, .int nd), (4, .int sd)]) hx hb dM_divide_17 hl (by decide) rfl (fun ls hl => ?_)
    refine lv_iload_n hx hb dM_divide_19 rfl (lv_at hl 4 rfl) ?_
    refine lv_if_lt (tgt := 39) hx hb dM_divide_20 (by decide) (fun c_53 => ?_) (fun c_53 => ?_)
    · skip
      refine lv_iload_n hx hb dM_divide_39 rfl (lv_at hl 4 rfl) ?_
      refine lv_if_lt (tgt := 51) hx hb dM_divide_40 (by decide) (fun c_54 => ?_) (fun c_54 => ?_)
      · skip
        refine lv_iload_n hx hb dM_divide_51 rfl (lv_at hl 3 rfl) ?_
        refine lv_if_ne (tgt := 66) hx hb dM_divide_52 (by decide) (fun c_55 => ?_) (fun c_55 => ?_)
        · skip
          exact absurd c_41 c_55
        · skip
          refine lv_aload_n hx hb dM_divide_55 rfl (lv_at hl 1 rfl) ?_
          refine lv_dup hx hb dM_divide_56 rfl ?_
          refine va_get (D := g.1) (ci := 6) (v := .int (mz.1 29)) (C := "NodeMakerModel") (T := Fd_M) (N := 37) hx hb ht i_M hown hK.1 hP 0 rfl rfl 29 (by decide) (ht _ q_554) (fun _ h9 => h9) rfl dM_divide_57 ?_
          refine lv_iconst (v := 1) hx hb dM_divide_60 (by decide) ?_
          refine lv_iadd hx hb dM_divide_61 ?_
          refine va_put (D := g.1) (ci := 6) (v := .int ((mz.1 29) + 1)) (ty := .int) (C := "NodeMakerModel") (T := Fd_M) (N := 37) hx hb ht i_M ty_M ty_M_ok nm_M hown hK.1 hP hD hS 0 rfl rfl 29 (by decide) (ht _ q_554) (fun _ h9 => h9) rfl (by decide +kernel) rfl rfl (Nat.le_of_ble_eq_true rfl) dM_divide_62 (fun H locs hP hD hS => ?_)
          have hP : va_P g.1 vwCl (mX g aM b (mV 29 ((mz.1 29) + 1) mz)) H := hP
          have hD : va_D A (mX g aM b (mV 29 ((mz.1 29) + 1) mz)) := hD
          simp only [sM_divide, if_pos c_41, if_pos c_53] at hok
          obtain ⟨z_56, ez_56⟩ : ∃ x, x = mV 29 ((mz.1 29) + 1) mz := ⟨_, rfl⟩
          rw [← ez_56] at hP hD hok
          have hF := Option.some.inj hok
          subst hF
          exact W.vret hx hb hr (fun t ht9 hW => ⟨⟨(), rfl, trivial, by rw [ht9]; exact hP, hD⟩, hS.F ht9⟩) hS.2.2 dM_divide_65
      · skip
        exact absurd c_53 c_54
    · skip
      refine lv_iload hx hb dM_divide_23 (lv_at hl 5 rfl) ?_
      refine lv_if_ne (tgt := 39) hx hb dM_divide_25 (by decide) (fun c_57 => ?_) (fun c_57 => ?_)
      · skip
        refine lv_iload_n hx hb dM_divide_39 rfl (lv_at hl 4 rfl) ?_
        refine lv_if_lt (tgt := 51) hx hb dM_divide_40 (by decide) (fun c_58 => ?_) (fun c_58 => ?_)
        · skip
          exact absurd c_58 c_53
        · skip
          refine lv_aload_n hx hb dM_divide_43 rfl (lv_at hl 1 rfl) ?_
          refine va_get (D := g.1) (ci := 6) (v := .ref (b 23)) (C := "NodeMakerModel") (T := Fd_M) (N := 37) hx hb ht i_M hown hK.1 hP 0 rfl rfl 23 (by decide) (ht _ q_548) (fun _ h9 => h9) rfl dM_divide_44 ?_
          refine lv_iload_n hx hb dM_divide_47 rfl (lv_at hl 4 rfl) ?_
          refine lv_iload hx hb dM_divide_48 (lv_at hl 0 rfl) ?_
          have h_59 : vpin nd 4200 := Decidable.byContradiction (fun h9 => by simp only [sM_divide, if_pos c_41, if_neg c_53, if_neg c_57, if_neg h9] at hok; cases hok)
          refine va_iast hx hb hK.1 hP hD hS 18 0 rfl rfl (vp_in_iff.mpr h_59) dM_divide_50 (fun H locs hP hD hS => ?_)
          have hP : va_P g.1 vwCl (mX g aM b (mI 23 nd ((-1) - (mz.1 29)) mz)) H := hP
          have hD : va_D A (mX g aM b (mI 23 nd ((-1) - (mz.1 29)) mz)) := hD
          simp only [sM_divide, if_pos c_41, if_neg c_53, if_neg c_57, if_pos h_59] at hok
          obtain ⟨z_60, ez_60⟩ : ∃ x, x = mI 23 nd ((-1) - (mz.1 29)) mz := ⟨_, rfl⟩
          rw [← ez_60] at hP hD hok
          refine lv_iload_n hx hb dM_divide_51 rfl (lv_at hl 3 rfl) ?_
          refine lv_if_ne (tgt := 66) hx hb dM_divide_52 (by decide) (fun c_61 => ?_) (fun c_61 => ?_)
          · skip
            exact absurd c_41 c_61
          · skip
            refine lv_aload_n hx hb dM_divide_55 rfl (lv_at hl 1 rfl) ?_
            refine lv_dup hx hb dM_divide_56 rfl ?_
            refine va_get (D := g.1) (ci := 6) (v := .int (z_60.1 29)) (C := "NodeMakerModel") (T := Fd_M) (N := 37) hx hb ht i_M hown hK.1 hP 0 rfl rfl 29 (by decide) (ht _ q_554) (fun _ h9 => h9) rfl dM_divide_57 ?_
            refine lv_iconst (v := 1) hx hb dM_divide_60 (by decide) ?_
            refine lv_iadd hx hb dM_divide_61 ?_
            refine va_put (D := g.1) (ci := 6) (v := .int ((z_60.1 29) + 1)) (ty := .int) (C := "NodeMakerModel") (T := Fd_M) (N := 37) hx hb ht i_M ty_M ty_M_ok nm_M hown hK.1 hP hD hS 0 rfl rfl 29 (by decide) (ht _ q_554) (fun _ h9 => h9) rfl (by decide +kernel) rfl rfl (Nat.le_of_ble_eq_true rfl) dM_divide_62 (fun H locs hP hD hS => ?_)
            have hP : va_P g.1 vwCl (mX g aM b (mV 29 ((z_60.1 29) + 1) z_60)) H := hP
            have hD : va_D A (mX g aM b (mV 29 ((z_60.1 29) + 1) z_60)) := hD
            obtain ⟨z_62, ez_62⟩ : ∃ x, x = mV 29 ((z_60.1 29) + 1) z_60 := ⟨_, rfl⟩
            rw [← ez_62] at hP hD hok
            have hF := Option.some.inj hok
            subst hF
            exact W.vret hx hb hr (fun t ht9 hW => ⟨⟨(), rfl, trivial, by rw [ht9]; exact hP, hD⟩, hS.F ht9⟩) hS.2.2 dM_divide_65
      · skip
        refine lv_aload_n hx hb dM_divide_28 rfl (lv_at hl 1 rfl) ?_
        refine va_get (D := g.1) (ci := 6) (v := .ref (b 22)) (C := "NodeMakerModel") (T := Fd_M) (N := 37) hx hb ht i_M hown hK.1 hP 0 rfl rfl 22 (by decide) (ht _ q_547) (fun _ h9 => h9) rfl dM_divide_29 ?_
        refine lv_iload_n hx hb dM_divide_32 rfl (lv_at hl 4 rfl) ?_
        refine lv_iload hx hb dM_divide_33 (lv_at hl 0 rfl) ?_
        have h_63 : vpin nd 4200 := Decidable.byContradiction (fun h9 => by simp only [sM_divide, if_pos c_41, if_neg c_53, if_pos c_57, if_neg h9] at hok; cases hok)
        refine va_iast hx hb hK.1 hP hD hS 17 0 rfl rfl (vp_in_iff.mpr h_63) dM_divide_35 (fun H locs hP hD hS => ?_)
        have hP : va_P g.1 vwCl (mX g aM b (mI 22 nd ((-1) - (mz.1 29)) mz)) H := hP
        have hD : va_D A (mX g aM b (mI 22 nd ((-1) - (mz.1 29)) mz)) := hD
        simp only [sM_divide, if_pos c_41, if_neg c_53, if_pos c_57, if_pos h_63] at hok
        obtain ⟨z_64, ez_64⟩ : ∃ x, x = mI 22 nd ((-1) - (mz.1 29)) mz := ⟨_, rfl⟩
        rw [← ez_64] at hP hD hok
        refine lv_goto (tgt := 51) hx hb dM_divide_36 (by decide) ?_
        refine lv_iload_n hx hb dM_divide_51 rfl (lv_at hl 3 rfl) ?_
        refine lv_if_ne (tgt := 66) hx hb dM_divide_52 (by decide) (fun c_65 => ?_) (fun c_65 => ?_)
        · skip
          exact absurd c_41 c_65
        · skip
          refine lv_aload_n hx hb dM_divide_55 rfl (lv_at hl 1 rfl) ?_
          refine lv_dup hx hb dM_divide_56 rfl ?_
          refine va_get (D := g.1) (ci := 6) (v := .int (z_64.1 29)) (C := "NodeMakerModel") (T := Fd_M) (N := 37) hx hb ht i_M hown hK.1 hP 0 rfl rfl 29 (by decide) (ht _ q_554) (fun _ h9 => h9) rfl dM_divide_57 ?_
          refine lv_iconst (v := 1) hx hb dM_divide_60 (by decide) ?_
          refine lv_iadd hx hb dM_divide_61 ?_
          refine va_put (D := g.1) (ci := 6) (v := .int ((z_64.1 29) + 1)) (ty := .int) (C := "NodeMakerModel") (T := Fd_M) (N := 37) hx hb ht i_M ty_M ty_M_ok nm_M hown hK.1 hP hD hS 0 rfl rfl 29 (by decide) (ht _ q_554) (fun _ h9 => h9) rfl (by decide +kernel) rfl rfl (Nat.le_of_ble_eq_true rfl) dM_divide_62 (fun H locs hP hD hS => ?_)
          have hP : va_P g.1 vwCl (mX g aM b (mV 29 ((z_64.1 29) + 1) z_64)) H := hP
          have hD : va_D A (mX g aM b (mV 29 ((z_64.1 29) + 1) z_64)) := hD
          obtain ⟨z_66, ez_66⟩ : ∃ x, x = mV 29 ((z_64.1 29) + 1) z_64 := ⟨_, rfl⟩
          rw [← ez_66] at hP hD hok
          have hF := Option.some.inj hok
          subst hF
          exact W.vret hx hb hr (fun t ht9 hW => ⟨⟨(), rfl, trivial, by rw [ht9]; exact hP, hD⟩, hS.F ht9⟩) hS.2.2 dM_divide_65
