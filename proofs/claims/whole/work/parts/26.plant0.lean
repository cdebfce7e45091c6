section RWA
variable {p : Program} {l : Launch} {e : Env} {R : Room} {s : State} {m : MethodId} {args : Array Value} {below : List Frame} {meth : Method} {c : Code} {H : Heap} {locs : List Loc} {cells slots mc ms : Nat} {Q : State → Prop}
variable {pc : Nat} {ls : Array Slot} {rest st0 : List Value} {g : CX} {a : Array Value} {A0 : Nat → Prop} {H0 : Heap} {X : va_W}
theorem all_free (hD : va_D A0 X) (hS : va_S A0 H0 H locs) (hA : ∀ q, H0.size ≤ q → A0 q) : ∀ q, va_A X H.size q → A0 q := by
  intro q h
  rcases h with ⟨k, e, h⟩ | h
  · exact hD.2 _ _ h
  · exact hA q (Nat.le_trans hS.1 h)
/-- a call to which the whole world goes -/
theorem rw_iA {S : Type} {post : Int32 → S → Prop} {w1 : S → va_W} (hr : va_Run p l e R s m args below meth c H locs cells slots mc ms (F0 m pc ls st0) rest (va_Qi post (rB g (va_A X H.size) w1) (va_A X H.size) a) (va_A X H.size)) (hD : va_D A0 X) (hS : va_S A0 H0 H locs) (hA : ∀ q, H0.size ≤ q → A0 q)
    (kk : ∀ (r : Int32) (u : S) (H1 : Heap) (locs1 : List Loc), post r u → va_P g.1 vwCl (w1 u) H1 → va_D A0 (w1 u) → va_S A0 H0 H1 locs1 → W p l e R s m args below meth c H1 locs1 (cells + mc) (slots + ms) Q (F0 m (pc + 3) ls (.int r :: rest))) : W p l e R s m args below meth c H locs cells slots Q (F0 m pc ls st0) := by
  have hFc := all_free hD hS hA
  refine va_calli hr hS (fun q _ h => hFc q h) hFc (fun r u t H1 locs1 ht hvm hw hB hz1 hk1 hS1 => ?_)
  obtain ⟨hP1, hD1⟩ := hB
  rw [ht] at hP1
  exact kk r u H1 locs1 hw hP1 (hD1.weaken (fun _ _ _ h => hFc _ h)) hS1
theorem rw_vA {S : Type} {post : S → Prop} {w1 : S → va_W} (hr : va_Run p l e R s m args below meth c H locs cells slots mc ms (F0 m pc ls st0) rest (va_Qv post (rB g (va_A X H.size) w1) (va_A X H.size) a) (va_A X H.size)) (hD : va_D A0 X) (hS : va_S A0 H0 H locs) (hA : ∀ q, H0.size ≤ q → A0 q)
    (kk : ∀ (u : S) (H1 : Heap) (locs1 : List Loc), post u → va_P g.1 vwCl (w1 u) H1 → va_D A0 (w1 u) → va_S A0 H0 H1 locs1 → W p l e R s m args below meth c H1 locs1 (cells + mc) (slots + ms) Q (F0 m (pc + 3) ls rest)) : W p l e R s m args below meth c H locs cells slots Q (F0 m pc ls st0) := by
  have hFc := all_free hD hS hA
  refine va_callv hr hS (fun q _ h => hFc q h) hFc (fun u t H1 locs1 ht hvm hw hB hz1 hk1 hS1 => ?_)
  obtain ⟨hP1, hD1⟩ := hB
  rw [ht] at hP1
  exact kk u H1 locs1 hw hP1 (hD1.weaken (fun _ _ _ h => hFc _ h)) hS1
end RWA
theorem dvStep_re (Wl : Nat → Option WV) (ln k : Int32) (s : TSt) (i re : Int32) : (dvStep Wl ln k s i re).2 = re ∨ (dvStep Wl ln k s i re).2 = re + 1 := by
  unfold dvStep
  repeat' split
  all_goals first | exact Or.inl rfl | exact Or.inr rfl
theorem dvL_re (Wl : Nat → Option WV) (ln k : Int32) (n : Nat) : ∀ (s : TSt) (i : Int32) (r : Nat), ∃ j, j ≤ n ∧ (dvL Wl ln k n s i (nI r)).2 = nI (r + j) := by
  induction n with
  | zero => intro s i r; exact ⟨0, Nat.le_refl _, rfl⟩
  | succ n ih =>
    intro s i r
    rcases dvStep_re Wl ln k s i (nI r) with h | h
    · obtain ⟨j, hj, e⟩ := ih (dvStep Wl ln k s i (nI r)).1 (i + 1) r
      exact ⟨j, by omega, by rw [dvL, h]; exact e⟩
    · obtain ⟨j, hj, e⟩ := ih (dvStep Wl ln k s i (nI r)).1 (i + 1) (r + 1)
      exact ⟨j + 1, by omega, by rw [dvL, h, nI_1, e]; congr 1; omega⟩
theorem divide_re {Wl : Nat → Option WV} {fr : Nat} {ln k : Int32} {s : TSt} (h : fr ≤ (s.2 10).length) : ∃ j, j ≤ (s.2 10).length ∧ (sT_divide Wl fr ln k s).2 = nI j := by
  obtain ⟨j, hj, e⟩ := dvL_re Wl ln k ((s.2 10).length - fr) (pCut 13 0 s) (nI fr) fr
  exact ⟨fr + j, by omega, e⟩
theorem divide_mono (Wl : Nat → Option WV) (fr : Nat) (ln k : Int32) (s : TSt) : mu s.1 ≤ mu (sT_divide Wl fr ln k s).1.1 :=
  Nat.le_trans (show mu (pCut 13 0 s).1 ≤ _ from dvL_mono _ _ _ _) (show mu (pCut 10 (dvL Wl ln k ((s.2 10).length - fr) (pCut 13 0 s) (nI fr) (nI fr)).2 (dvL Wl ln k ((s.2 10).length - fr) (pCut 13 0 s) (nI fr) (nI fr)).1).1 ≤ _ from dvM_mono _ _ _)
/-- the rows of a new node, before its list is divided -/
def plNew (Wl : Nat → Option WV) (fr dep : Nat) (s : TSt) : TSt := oAdd 3 0 (oAdd 2 (-1) (oAdd 1 (-1) (oAdd 5 (nI (s.2 6).length) (oAdd 4 (nI dep) (oAdd 0 (sT_bestLine s.2 Wl fr) s)))))
def plDiv (Wl : Nat → Option WV) (fr dep : Nat) (s : TSt) : TSt × Int32 := sT_divide Wl fr (sT_bestLine s.2 Wl fr) (nI (s.2 0).length) (plNew Wl fr dep s)
def plH (dep : Nat) (h : Int32) : Int32 := if h < nI dep + 1 then nI dep + 1 else h
/-- plant with D levels left: the state, the height, the answer -/
def sPl (Wl : Nat → Option WV) : Nat → Nat → TSt → Int32 → TSt × Int32 × Int32
  | 0, fr, s, h => (pCut 10 (nI fr) s, h, -1)
  | D + 1, fr, s, h => if (s.2 10).length ≤ fr then (pCut 10 (nI fr) s, h, -1) else
    let d := plDiv Wl fr (63 - D) s
    let r1 := sPl Wl D d.2.toNatClampNeg d.1 (plH (63 - D) h)
    let s7 := oSet 1 (nI (s.2 0).length) r1.2.2 r1.1
    let r2 := sPl Wl D fr s7 r1.2.1
    let s8 := oSet 2 (nI (s.2 0).length) r2.2.2 r2.1
    (oSet 3 (nI (s.2 0).length) (nI (s8.2 0).length - nI (s.2 0).length) s8, r2.2.1, nI (s.2 0).length)
theorem plNew_mono (Wl : Nat → Option WV) (fr dep : Nat) (s : TSt) : mu s.1 ≤ mu (plNew Wl fr dep s).1 :=
  Nat.le_trans (mu_oAdd_le (by decide)) (Nat.le_trans (mu_oAdd_le (by decide)) (Nat.le_trans (mu_oAdd_le (by decide)) (Nat.le_trans (mu_oAdd_le (by decide)) (Nat.le_trans (mu_oAdd_le (by decide)) (mu_oAdd_le (by decide))))))
theorem plDiv_mono (Wl : Nat → Option WV) (fr dep : Nat) (s : TSt) : mu (plNew Wl fr dep s).1 ≤ mu (plDiv Wl fr dep s).1.1 := divide_mono _ _ _ _ _
theorem sPl_mono (Wl : Nat → Option WV) (D : Nat) : ∀ (fr : Nat) (s : TSt) (h : Int32), mu s.1 ≤ mu (sPl Wl D fr s h).1.1 := by
  induction D with
  | zero => intro fr s h; exact Nat.le_refl _
  | succ D ih =>
    intro fr s h
    unfold sPl
    split
    · exact Nat.le_refl _
    · exact Nat.le_trans (plNew_mono Wl fr (63 - D) s) (Nat.le_trans (plDiv_mono Wl fr (63 - D) s) (Nat.le_trans (ih _ _ _) (ih fr (oSet 1 _ _ _) _)))
theorem sPl_e {Wl : Nat → Option WV} {D fr : Nat} {s : TSt} {h : Int32} (he : (s.2 10).length ≤ fr) : sPl Wl D fr s h = (pCut 10 (nI fr) s, h, -1) := by
  cases D with
  | zero => rfl
  | succ D => rw [sPl, if_pos he]
