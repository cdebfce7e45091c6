theorem makR (Wl : Nat → Option WV) (N9 N2 : Nat) (hN9 : 64 < N9) (hN2 : 64 < N2) : ∀ (D : Nat) (L : List Pc), D ≤ 64 → L.length ≤ D → ∀ (a : MSt) (n c t k0 l0 p0 fr kk jd N : Nat) (h nd sd : Int32), MI a n c (t + 1) k0 l0 p0 h → AG Wl a → (∀ q, q ∈ L → okP Wl q) → HL Wl a n fr L → par k0 kk jd nd sd → dpt a kk jd (64 - D) → (a.2.1 16 t = nI fr ∧ a.2.1 17 t = nI L.length ∧ a.2.1 18 t = nd ∧ a.2.1 19 t = sd) → t + D + 1 ≤ 140 → fr + (2 * tri D + D) ≤ 9000 → n + 2 * ctT Wl D L ≤ 8300 → k0 + nN Wl D L ≤ 4200 → p0 + (pcs Wl D L).length ≤ 8300 → ∃ b, sMakM N9 N2 (N + (2 * nN Wl D L + 1)) a = sMakM N9 N2 N b ∧ frT t fr k0 p0 n kk jd a b ∧ MI b (n + 2 * ctT Wl D L) (c + ctT Wl D L) t (k0 + nN Wl D L) (l0 + (nN Wl D L + 1)) (p0 + (pcs Wl D L).length) (hgt Wl D L h) ∧ (kk ≠ 0 → b.2.1 kk jd = lk (nN Wl D L) l0 k0) ∧ (∀ x, x ∈ nds Wl D L k0 p0 l0 → NR b x) ∧ HQ Wl b (n + 2 * ctT Wl D L) p0 (pcs Wl D L) ∧ ∀ w, w < 64 → b.2.1 32 w = a.2.1 32 w + nI (cW (nI w) (pcs Wl D L)) := by
  intro D
  induction D with
  | zero =>
    intro L hD hL a n c t k0 l0 p0 fr kk jd N h nd sd hI hA hO hH hpar hdp hs ht hf hn hk hp
    obtain rfl : L = [] := List.eq_nil_of_length_eq_zero (Nat.le_zero.1 hL)
    obtain ⟨b, e1, e2, e3, e4, e5⟩ := leafR (N9 := N9) (N2 := N2) (N := N) (Wl := Wl) (fr := fr) hI hpar hs.1 hs.2.1 hs.2.2.1 hs.2.2.2 (by omega) (by have : nN Wl 0 [] = 0 := rfl; omega)
    refine ⟨b, e1, e2, e3, e4, fun x hx => (by cases hx), HQ.nil, fun w _ => ?_⟩
    rw [e5]
    show _ = _ + nI 0
    rw [nI_0, Int32.add_zero]
  | succ D ih =>
    intro L hD hL a n c t k0 l0 p0 fr kk jd N h nd sd hI hA hO hH hpar hdp hs ht hf hn hk hp
    have htri : tri (D + 1) = tri D + (D + 1) := rfl
    cases L with
    | nil =>
      obtain ⟨b, e1, e2, e3, e4, e5⟩ := leafR (N9 := N9) (N2 := N2) (N := N) (Wl := Wl) (fr := fr) hI hpar hs.1 hs.2.1 hs.2.2.1 hs.2.2.2 (by omega) (by have : nN Wl (D + 1) [] = 0 := rfl; omega)
      refine ⟨b, e1, e2, e3, e4, fun x hx => (by cases hx), HQ.nil, fun w _ => ?_⟩
      rw [e5]
      show _ = _ + nI 0
      rw [nI_0, Int32.add_zero]
    | cons p T =>
      obtain ⟨l, hl⟩ := ok_line hO
      obtain ⟨olf, org⟩ := ok_lf hl hA hO
      have l1 := lf_lt Wl p T
      have l2 := rg_lt Wl p T
      have hL2 : T.length + 1 ≤ D + 1 := hL
      have lc : (p :: T).length = T.length + 1 := rfl
      have gN : nN Wl (D + 1) (p :: T) = nN Wl D (lfL Wl (bst Wl (p :: T)) (p :: T)) + nN Wl D (rgL Wl (bst Wl (p :: T)) (p :: T)) + 1 := rfl
      have gC : ctT Wl (D + 1) (p :: T) = ctN Wl (bst Wl (p :: T)) (p :: T) + (ctT Wl D (lfL Wl (bst Wl (p :: T)) (p :: T)) + ctT Wl D (rgL Wl (bst Wl (p :: T)) (p :: T))) := rfl
      have gP : pcs Wl (D + 1) (p :: T) = onL Wl (bst Wl (p :: T)) (p :: T) ++ (pcs Wl D (lfL Wl (bst Wl (p :: T)) (p :: T)) ++ pcs Wl D (rgL Wl (bst Wl (p :: T)) (p :: T))) := rfl
      have gH : hgt Wl (D + 1) (p :: T) h = hgt Wl D (rgL Wl (bst Wl (p :: T)) (p :: T)) (hgt Wl D (lfL Wl (bst Wl (p :: T)) (p :: T)) (plH (63 - D) h)) := rfl
      have gD : nds Wl (D + 1) (p :: T) k0 p0 l0 = (bst Wl (p :: T), 63 - D, p0, (onL Wl (bst Wl (p :: T)) (p :: T)).length, nN Wl D (lfL Wl (bst Wl (p :: T)) (p :: T)), nN Wl D (rgL Wl (bst Wl (p :: T)) (p :: T)), k0, l0) :: (nds Wl D (lfL Wl (bst Wl (p :: T)) (p :: T)) (k0 + 1) (p0 + (onL Wl (bst Wl (p :: T)) (p :: T)).length) l0 ++ nds Wl D (rgL Wl (bst Wl (p :: T)) (p :: T)) (k0 + (nN Wl D (lfL Wl (bst Wl (p :: T)) (p :: T)) + 1)) (p0 + (onL Wl (bst Wl (p :: T)) (p :: T)).length + (pcs Wl D (lfL Wl (bst Wl (p :: T)) (p :: T))).length) (l0 + (nN Wl D (lfL Wl (bst Wl (p :: T)) (p :: T)) + 1))) := rfl
      rw [gN] at hk ⊢
      rw [gC] at hn ⊢
      rw [gP] at hp ⊢
      rw [gH, gD]
      rw [List.length_append, List.length_append] at hp ⊢
      rw [show 64 - (D + 1) = 63 - D by omega] at hdp
      -- the top of the stack is taken
      obtain ⟨i13, i14, i20, i28, i29, i30, i31⟩ := hI
      have f0 : frT t fr k0 p0 n kk jd a (mV 20 (nI t) a) := frT.ofV (by decide)
      have I0 : MI (mV 20 (nI t) a) n c t k0 l0 p0 h := ⟨by rw [mV_n _ _ (by decide)]; exact i13, by rw [mV_n _ _ (by decide)]; exact i14, mV_s _ _ _, by rw [mV_n _ _ (by decide)]; exact i28, by rw [mV_n _ _ (by decide)]; exact i29, by rw [mV_n _ _ (by decide)]; exact i30, by rw [mV_n _ _ (by decide)]; exact i31⟩
      obtain ⟨b1, d1, F1, I1, lk1, r21, r24, r25, r26, Q1, HR, HLf, C1, ⟨s0, s1, s2, s3⟩, ⟨u0, u1, u2, u3⟩⟩ := divR (N9 := N9) (N2 := N2) (dep := 63 - D) hl I0 (hA.frT f0) hO (show HL Wl (mV 20 (nI t) a) n fr (p :: T) from hH) hpar (show dpt (mV 20 (nI t) a) kk jd (63 - D) from hdp) (by omega) (by omega) (by omega) (by omega) (by omega) (by omega) (by omega) (by omega) (by omega)
      have A1 := (hA.frT f0).frT F1
      have pop : ∀ M, sMakM N9 N2 (M + 1) a = sMakM N9 N2 M b1 := by
        intro M
        rw [sMakM]
        rw [i20, if_neg (nI_nle (by omega) (by omega)), nI_pred, mV_s, if_pos (vpin_nI (by omega) (by decide)), nI_clamp (by omega), mV_2, hs.1, hs.2.1, hs.2.2.1, hs.2.2.2, d1]
      generalize hln : bst Wl (p :: T) = ln at *
      generalize hlf : lfL Wl ln (p :: T) = lf at *
      generalize hrg : rgL Wl ln (p :: T) = rg at *
      generalize hon : onL Wl ln (p :: T) = on at *
      generalize hct : ctN Wl ln (p :: T) = ct at *
      -- the left list
      obtain ⟨b2, d2, F2, I2, lk2, R2, Q2, C2⟩ := ih lf (by omega) (by omega) b1 (n + 2 * ct) (c + ct) (t + 1) (k0 + 1) l0 (p0 + on.length) (fr + (p :: T).length + rg.length) 22 k0 (N + (2 * nN Wl D rg + 1)) (plH (63 - D) h) (nI k0) 0 I1 A1 olf HLf (Or.inr ⟨rfl, Nat.lt_succ_self _, Or.inl ⟨rfl, rfl⟩⟩) ⟨fun e => absurd e (by decide), fun _ => by rw [r24, nI_1]; congr 1; omega⟩ ⟨u0, u1, u2, u3⟩ (by omega) (by omega) (by omega) (by omega) (by omega)
      have A2 := A1.frT F2
      have g2 : ∀ k, 21 ≤ k → k < 27 → k ≠ 22 → b2.2.1 k k0 = b1.2.1 k k0 := fun k x y z => F2.2.2.2.2.2.2.1 k k0 x y (Nat.lt_succ_self _) (fun q => z q.1)
      have st2 : ∀ k, 16 ≤ k → k < 20 → b2.2.1 k t = b1.2.1 k t := fun k x y => F2.2.2.2.2.2.1 k t x y (Nat.lt_succ_self _)
      -- the right list
      obtain ⟨b3, d3, F3, I3, lk3, R3, Q3, C3⟩ := ih rg (by omega) (by omega) b2 (n + 2 * ct + 2 * ctT Wl D lf) (c + ct + ctT Wl D lf) t (k0 + 1 + nN Wl D lf) (l0 + (nN Wl D lf + 1)) (p0 + on.length + (pcs Wl D lf).length) (fr + (p :: T).length) 23 k0 N (hgt Wl D lf (plH (63 - D) h)) (nI k0) 1 I2 A2 org (HR.frT F2 (Nat.le_refl _) (by omega)) (Or.inr ⟨rfl, by omega, Or.inr ⟨rfl, rfl⟩⟩) ⟨fun e => absurd e (by decide), fun _ => by rw [g2 24 (by decide) (by decide) (by decide), r24, nI_1]; congr 1; omega⟩ ⟨by rw [st2 16 (by decide) (by decide)]; exact s0, by rw [st2 17 (by decide) (by decide)]; exact s1, by rw [st2 18 (by decide) (by decide)]; exact s2, by rw [st2 19 (by decide) (by decide)]; exact s3⟩ (by omega) (by omega) (by omega) (by omega) (by omega)
      have g3 : ∀ k, 21 ≤ k → k < 27 → k ≠ 23 → b3.2.1 k k0 = b2.2.1 k k0 := fun k x y z => F3.2.2.2.2.2.2.1 k k0 x y (by omega) (fun q => z q.1)
      rw [show k0 + 1 + nN Wl D lf = k0 + (nN Wl D lf + 1) by omega] at R3 lk3
      refine ⟨b3, ?_, ?_, ?_, ?_, ?_, ?_, ?_⟩
      · rw [show N + (2 * (nN Wl D lf + nN Wl D rg + 1) + 1) = (N + (2 * nN Wl D rg + 1) + (2 * nN Wl D lf + 1)) + 1 by omega, pop, d2, d3]
      · have F12 : frT t fr k0 p0 n kk jd a b2 := (f0.then F1).trans F2 (Nat.le_succ _) (by omega) (Nat.le_succ _) (by omega) (by omega) (fun k j x _ z => by omega)
        exact F12.trans F3 (Nat.le_refl _) (by omega) (by omega) (by omega) (by omega) (fun k j x _ z => by omega)
      · obtain ⟨j1, j2, j3, j4, j5, j6, j7⟩ := I3
        refine ⟨?_, ?_, j3, ?_, ?_, ?_, j7⟩
        · rw [j1]; congr 1; omega
        · rw [j2]; congr 1; omega
        · rw [j4]; congr 1; omega
        · rw [j5]; congr 1; omega
        · rw [j6]; congr 1; omega
      · intro hk0
        have hj : jd < k0 ∧ 21 ≤ kk ∧ kk < 27 := by
          rcases hpar with ⟨_, e⟩ | ⟨_, e, ⟨_, rfl⟩ | ⟨_, rfl⟩⟩
          · exact absurd e hk0
          · exact ⟨e, by decide, by decide⟩
          · exact ⟨e, by decide, by decide⟩
        rw [F3.2.2.2.2.2.2.1 kk jd hj.2.1 hj.2.2 (by omega) (fun q => by omega), F2.2.2.2.2.2.2.1 kk jd hj.2.1 hj.2.2 (by omega) (fun q => by omega), lk1 hk0]
        unfold lk
        rw [if_neg (by omega)]
      · intro x hx
        rcases List.mem_cons.1 hx with rfl | hx
        · refine ⟨?_, ?_, ?_, ?_, ?_, ?_⟩
          · show b3.2.1 21 k0 = ln
            rw [g3 21 (by decide) (by decide) (by decide), g2 21 (by decide) (by decide) (by decide)]; exact r21
          · show b3.2.1 22 k0 = lk (nN Wl D lf) l0 (k0 + 1)
            rw [g3 22 (by decide) (by decide) (by decide)]; exact lk2 (by decide)
          · show b3.2.1 23 k0 = lk (nN Wl D rg) (l0 + (nN Wl D lf + 1)) (k0 + (nN Wl D lf + 1))
            exact lk3 (by decide)
          · show b3.2.1 24 k0 = nI (63 - D)
            rw [g3 24 (by decide) (by decide) (by decide), g2 24 (by decide) (by decide) (by decide)]; exact r24
          · show b3.2.1 25 k0 = nI p0
            rw [g3 25 (by decide) (by decide) (by decide), g2 25 (by decide) (by decide) (by decide)]; exact r25
          · show b3.2.1 26 k0 = nI on.length
            rw [g3 26 (by decide) (by decide) (by decide), g2 26 (by decide) (by decide) (by decide)]; exact r26
        · rcases List.mem_append.1 hx with hx | hx
          · have kb := nds_k Wl D _ _ _ _ x hx
            exact (R2 x hx).frT F3 (by omega) (by omega)
          · exact R3 x hx
      · have n3 : n + 2 * (ct + (ctT Wl D lf + ctT Wl D rg)) = n + 2 * ct + 2 * ctT Wl D lf + 2 * ctT Wl D rg := by omega
        rw [n3]
        refine HQ.app ?_ (HQ.app ?_ Q3)
        · have q2 : HQ Wl b2 (n + 2 * ct) p0 on := by
            intro i q e
            obtain ⟨j, hj, e1, e2⟩ := Q1 i q e
            have hi : i < on.length := (List.getElem?_eq_some_iff.1 e).1
            exact ⟨j, by omega, (F2.2.2.2.2.2.2.2 _ (by omega)).trans e1, e2.frT F2 (by omega)⟩
          intro i q e
          obtain ⟨j, hj, e1, e2⟩ := q2 i q e
          have hi : i < on.length := (List.getElem?_eq_some_iff.1 e).1
          exact ⟨j, by omega, (F3.2.2.2.2.2.2.2 _ (by omega)).trans e1, e2.frT F3 (by omega)⟩
        · intro i q e
          obtain ⟨j, hj, e1, e2⟩ := Q2 i q e
          have hi : i < (pcs Wl D lf).length := (List.getElem?_eq_some_iff.1 e).1
          exact ⟨j, by omega, (F3.2.2.2.2.2.2.2 _ (by omega)).trans e1, e2.frT F3 (by omega)⟩
      · intro w hw
        rw [C3 w hw, C2 w hw, C1 w hw, cW_app, cW_app, Int32.add_assoc, Int32.add_assoc, nI_add, nI_add]
        rfl
