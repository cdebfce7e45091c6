theorem len5 {L j : Nat} (hL : L ≤ 2560) (hj : 5 * j ≤ 2560) : (Int32.ofNat L - 5 < nI (5 * j)) ↔ L < 5 * j + 5 := by
  have e1 : (nI L).toInt = (L : Int) := nI_toInt (by omega)
  have e2 : (nI (5 * j)).toInt = ((5 * j : Nat) : Int) := nI_toInt (by omega)
  have e3 : (5 : Int32).toInt = 5 := by decide
  show (nI L - 5 < nI (5 * j)) ↔ _
  rw [Int32.lt_iff_toInt_lt, sub32 (by rw [e1, e3]; omega) (by rw [e1, e3]; omega), e1, e2, e3]
  omega
set_option maxHeartbeats 4000000 in
set_option maxRecDepth 100000 in
/-- the law's loop -/
theorem law_loop {p : Program} {l : Launch} {e : Env} {s : State} {m : MethodId} {below : List Frame} {meth : Method} {c : Code} {b L : Nat} {xs : Nat → Int32} {g : CX} {aN aM : Nat} {N9 N2 : Nat} {m1s : Int32 → Int32} (m1s_eq : ∀ x, m1s x = -1 - x) (hN9 : 9000 < N9) (hN2 : 64 < N2) (hL : L ≤ 2560) (C0 : lw_At p s m meth c b L xs) (hK : KK g s) : ∀ (n j : Nat), 5 * j ≤ L → L < 5 * (j + n) + 5 → KON p l e s m below meth c b g aN aM 18 (nI (5 * j)) j := by
  have C1 := C0
  obtain ⟨hx, hb, hr, hml, hown9, hts, hX, hbl, hlocks, hgv⟩ := C1
  have hA : ∀ q : Nat, s.heap.size ≤ q → (fun q : Nat => s.heap.size ≤ q) q := fun _ h => h
  have hbA : ¬ (fun q : Nat => s.heap.size ≤ q) b := Nat.not_le.mpr hbl
  intro n
  induction n with
  | zero =>
    intro j hj hn hw wx wy ad q f s0 sl cnt h st LW wv bM mz H locs ls hz hsl HR hmu hP hD hS hl
    have hmb := (rows_cps hz).mu
    refine lv_iload_n hx hb dL_law_18 rfl (lv_at hl 3 rfl) ?_
    refine lv_aload_n hx hb dL_law_19 rfl (lv_at hl 0 rfl) ?_
    refine va_slen hx hb hX hbl hbA hS dL_law_20 ?_
    refine lv_iconst (v := 5) hx hb dL_law_21 (by decide) ?_
    refine lv_isub hx hb dL_law_22 ?_
    refine lv_icmp_gt (tgt := 450) hx hb dL_law_23 (by decide) (fun c9 => ?_) (fun c9 => absurd ((len5 hL (by omega)).2 (by omega)) c9)
    refine lv_iconst (v := 1) hx hb dL_law_450 (by decide) ?_
    refine va_forget (fun q hq => hS.2.2 q hq) ?_
    refine W.widen (k := 600000) (n := 7302250) (by omega) (by omega) ?_
    exact lw_ret hx hb hr hlocks dL_law_451
  | succ n ih =>
    intro j hj hn hw wx wy ad q f s0 sl cnt h st LW wv bM mz H locs ls hz hsl HR hmu hP hD hS hl
    have hmb := (rows_cps hz).mu
    refine lv_iload_n hx hb dL_law_18 rfl (lv_at hl 3 rfl) ?_
    refine lv_aload_n hx hb dL_law_19 rfl (lv_at hl 0 rfl) ?_
    refine va_slen hx hb hX hbl hbA hS dL_law_20 ?_
    refine lv_iconst (v := 5) hx hb dL_law_21 (by decide) ?_
    refine lv_isub hx hb dL_law_22 ?_
    refine lv_icmp_gt (tgt := 450) hx hb dL_law_23 (by decide) (fun c9 => ?_) (fun c9 => ?_)
    · refine lv_iconst (v := 1) hx hb dL_law_450 (by decide) ?_
      refine va_forget (fun q hq => hS.2.2 q hq) ?_
      refine W.widen (k := 600000) (n := 7302250) (by omega) (by omega) ?_
      exact lw_ret hx hb hr hlocks dL_law_451
    · have h5 : 5 * j + 5 ≤ L := Nat.le_of_not_lt (fun q => c9 ((len5 hL (by omega)).2 q))
      have h0 : vp_in (nI (5 * j)) L := vp_in_nI (by omega) (by omega)
      have h1 : vp_in (nI (5 * j) + 1) L := by rw [nI_1]; exact vp_in_nI (by omega) (by omega)
      have h2 : vp_in (nI (5 * j) + 2) L := by rw [show nI (5 * j) + 2 = nI (5 * j + 2) from nI_add (5 * j) 2]; exact vp_in_nI (by omega) (by omega)
      have h3 : vp_in (nI (5 * j) + 3) L := by rw [show nI (5 * j) + 3 = nI (5 * j + 3) from nI_add (5 * j) 3]; exact vp_in_nI (by omega) (by omega)
      have h4 : vp_in (nI (5 * j) + 4) L := by rw [show nI (5 * j) + 4 = nI (5 * j + 4) from nI_add (5 * j) 4]; exact vp_in_nI (by omega) (by omega)
      have K9 : KON p l e s m below meth c b g aN aM 444 (nI (5 * j)) (j + 1) := by
        intro hw wx wy ad q f s0 sl cnt h st LW wv bM mz H locs ls hz hsl HR hmu hP hD hS hl
        have e5 : nI (5 * j) + 5 = nI (5 * (j + 1)) := nI_add (5 * j) 5
        refine lv_iinc (v := nI (5 * j) + 5) (lv' := [(3, .int (nI (5 * j) + 5)), (0, .ref b), (1, .ref aN), (2, .ref aM)]) hx hb dL_law_444 hl (k := 3) rfl rfl (by decide) rfl (fun ls hl => ?_)
        rw [e5] at hl
        refine lv_goto (tgt := 18) hx hb dL_law_447 (by decide) ?_
        exact ih (j + 1) (by omega) (by omega) _ _ _ _ _ _ _ _ _ _ _ _ _ _ _ _ _ _ hz hsl HR hmu hP hD hS (lv_sub hl [1, 2, 3, 0] rfl)
      refine lv_aload_n hx hb dL_law_26 rfl (lv_at hl 0 rfl) ?_
      refine lv_iload_n hx hb dL_law_27 rfl (lv_at hl 3 rfl) ?_
      refine va_sld hx hb hX hbl hbA hS h0 dL_law_28 ?_
      refine lv_bipush (v := 15) hx hb dL_law_29 (by decide) ?_
      refine lv_iand hx hb dL_law_31 ?_
      refine lv_topi (fun v9 ev9 => ?_)
      clear ev9
      by_cases c0 : v9 = 0
      · refine lv_tableIn (off := 60) (tgt := 92) hx hb dL_law_32 (by rw [c0]; decide) (by rw [c0]; decide) (by rw [c0]; decide) (by decide) ?_
        exact law_put hN9 hN2 C0 hK (by omega) h1 h2 h3 h4 K9 _ _ _ _ _ _ _ _ _ _ _ _ _ _ _ _ _ _ hz hsl HR hmu hP hD hS hl
      by_cases c1 : v9 = 1
      · refine lv_tableIn (off := 113) (tgt := 145) hx hb dL_law_32 (by rw [c1]; decide) (by rw [c1]; decide) (by rw [c1]; decide) (by decide) ?_
        exact law_take hN9 hN2 C0 hK (by omega) h1 K9 _ _ _ _ _ _ _ _ _ _ _ _ _ _ _ _ _ _ hz hsl HR hmu hP hD hS hl
      by_cases c2 : v9 = 2
      · refine lv_tableIn (off := 136) (tgt := 168) hx hb dL_law_32 (by rw [c2]; decide) (by rw [c2]; decide) (by rw [c2]; decide) (by decide) ?_
        exact law_clear hN9 hN2 C0 hK (by omega)  K9 _ _ _ _ _ _ _ _ _ _ _ _ _ _ _ _ _ _ hz hsl HR hmu hP hD hS hl
      by_cases c3 : v9 = 3
      · refine lv_tableIn (off := 147) (tgt := 179) hx hb dL_law_32 (by rw [c3]; decide) (by rw [c3]; decide) (by rw [c3]; decide) (by decide) ?_
        exact law_node hN9 hN2 C0 hK (by omega) h1 h2 K9 _ _ _ _ _ _ _ _ _ _ _ _ _ _ _ _ _ _ hz hsl HR hmu hP hD hS hl
      by_cases c4 : v9 = 4
      · refine lv_tableIn (off := 180) (tgt := 212) hx hb dL_law_32 (by rw [c4]; decide) (by rw [c4]; decide) (by rw [c4]; decide) (by decide) ?_
        exact law_wall hN9 hN2 C0 hK (by omega) h1 h2 K9 _ _ _ _ _ _ _ _ _ _ _ _ _ _ _ _ _ _ hz hsl HR hmu hP hD hS hl
      by_cases c5 : v9 = 5
      · refine lv_tableIn (off := 213) (tgt := 245) hx hb dL_law_32 (by rw [c5]; decide) (by rw [c5]; decide) (by rw [c5]; decide) (by decide) ?_
        exact law_quotient hN9 hN2 C0 hK (by omega) h1 h2 h3 K9 _ _ _ _ _ _ _ _ _ _ _ _ _ _ _ _ _ _ hz hsl HR hmu hP hD hS hl
      by_cases c6 : v9 = 6
      · refine lv_tableIn (off := 257) (tgt := 289) hx hb dL_law_32 (by rw [c6]; decide) (by rw [c6]; decide) (by rw [c6]; decide) (by decide) ?_
        exact law_leaf hN9 hN2 C0 hK (by omega) h1 h2 K9 _ _ _ _ _ _ _ _ _ _ _ _ _ _ _ _ _ _ hz hsl HR hmu hP hD hS hl
      by_cases c7 : v9 = 7
      · refine lv_tableIn (off := 290) (tgt := 322) hx hb dL_law_32 (by rw [c7]; decide) (by rw [c7]; decide) (by rw [c7]; decide) (by decide) ?_
        exact law_way hN9 hN2 C0 hK (by omega) h1 h2 K9 _ _ _ _ _ _ _ _ _ _ _ _ _ _ _ _ _ _ hz hsl HR hmu hP hD hS hl
      by_cases c8 : v9 = 8
      · refine lv_tableIn (off := 323) (tgt := 355) hx hb dL_law_32 (by rw [c8]; decide) (by rw [c8]; decide) (by rw [c8]; decide) (by decide) ?_
        exact law_step m1s_eq hN9 hN2 C0 hK (by omega) h1 h2 K9 _ _ _ _ _ _ _ _ _ _ _ _ _ _ _ _ _ _ hz hsl HR hmu hP hD hS hl
      by_cases c9 : v9 = 9
      · refine lv_tableIn (off := 356) (tgt := 388) hx hb dL_law_32 (by rw [c9]; decide) (by rw [c9]; decide) (by rw [c9]; decide) (by decide) ?_
        exact law_of hN9 hN2 C0 hK (by omega) h1 h2 K9 _ _ _ _ _ _ _ _ _ _ _ _ _ _ _ _ _ _ hz hsl HR hmu hP hD hS hl
      by_cases c10 : v9 = 10
      · refine lv_tableIn (off := 389) (tgt := 421) hx hb dL_law_32 (by rw [c10]; decide) (by rw [c10]; decide) (by rw [c10]; decide) (by decide) ?_
        exact law_look hN9 hN2 C0 hK (by omega) h1 K9 _ _ _ _ _ _ _ _ _ _ _ _ _ _ _ _ _ _ hz hsl HR hmu hP hD hS hl
      refine lv_tableOut (tgt := 444) hx hb dL_law_32 (sw_out11 c0 c1 c2 c3 c4 c5 c6 c7 c8 c9 c10) (by decide) ?_
      refine W.widen (k := 70 + (mu s0.1 - 2432) + (j + 1)) (n := 94930 + (mu s0.1 - 2432) + 4 * (j + 1)) (by omega) (by omega) ?_
      exact K9 _ _ _ _ _ _ _ _ _ _ _ _ _ _ _ _ _ _ hz hsl HR hmu hP hD hS hl
