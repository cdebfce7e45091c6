section RWA
variable {p : Program} {l : Launch} {e : Env} {R : Room} {s : State} {m : MethodId} {args : Array Value} {below : List Frame} {meth : Method} {c : Code} {H : Heap} {locs : List Loc} {cells slots mc ms : Nat} {Q : State → Prop}
variable {pc : Nat} {ls : Array Slot} {rest st0 : List Value} {g : CX} {a : Array Value} {A0 : Nat → Prop} {H0 : Heap} {X : va_W}
theorem all_free (hD : va_D A0 X) (hS : va_S A0 H0 H locs) (hA : ∀ q, H0.size ≤ q → A0 q) : ∀ q, va_A X H.size q → A0 q := by
  intro q h
  rcases h with ⟨k, e, h⟩ | h
  · exact hD.2 _ _ h
  · exact hA q (Nat.le_trans hS.1 h)
/-- a call to which the whole world goes -/
theorem rw_iA {S : Type} {post : Int32 → S → Prop} {w1 : S → va_W} (hr : va_Run p l e R s m args below meth c H locs cells slots mc ms (F0 m pc ls st0) rest (va_Qi post (rB g (va_A X H.size) w1) (va_A X H.size) a) (va_A X H.size)) (hD : va_D A0 X) (hS : va_S A0 H0 H locs) (hA : ∀ q, H0.size ≤ q → A0 q)
    (kk : ∀ (r : Int32) (u : S) (H1 : Heap) (locs1 : List Loc), post r u → va_P g.1 vwCl (w1 u) H1 → va_D A0 (w1 u) → va_S A0 H0 H1 locs1 → W p l e R s m args below meth c H1 locs1 (cells + mc) (slots + ms) Q (F0 m (pc + 3) ls (.int r :: rest))) : W p l e R s m args below meth c H locs cells slots Q (F0 m pc ls st0) := by
  have hFc := all_free hD hS hA
  refine va_calli hr hS (fun q _ h => hFc q h) hFc (fun r u t H1 locs1 ht hvm hw hB hz1 hk1 hS1 => ?_)
  obtain ⟨hP1, hD1⟩ := hB
  rw [ht] at hP1
  exact kk r u H1 locs1 hw hP1 (hD1.weaken (fun _ _ _ h => hFc _ h)) hS1
theorem rw_vA {S : Type} {post : S → Prop} {w1 : S → va_W} (hr : va_Run p l e R s m args below meth c H locs cells slots mc ms (F0 m pc ls st0) rest (va_Qv post (rB g (va_A X H.size) w1) (va_A X H.size) a) (va_A X H.size)) (hD : va_D A0 X) (hS : va_S A0 H0 H locs) (hA : ∀ q, H0.size ≤ q → A0 q)
    (kk : ∀ (u : S) (H1 : Heap) (locs1 : List Loc), post u → va_P g.1 vwCl (w1 u) H1 → va_D A0 (w1 u) → va_S A0 H0 H1 locs1 → W p l e R s m args below meth c H1 locs1 (cells + mc) (slots + ms) Q (F0 m (pc + 3) ls rest)) : W p l e R s m args below meth c H locs cells slots Q (F0 m pc ls st0) := by
  have hFc := all_free hD hS hA
  refine va_callv hr hS (fun q _ h => hFc q h) hFc (fun u t H1 locs1 ht hvm hw hB hz1 hk1 hS1 => ?_)
  obtain ⟨hP1, hD1⟩ := hB
  rw [ht] at hP1
  exact kk u H1 locs1 hw hP1 (hD1.weaken (fun _ _ _ h => hFc _ h)) hS1
end RWA
theorem dvStep_re (Wl : Nat → Option WV) (ln k : Int32) (s : TSt) (i re : Int32) : (dvStep Wl ln k s i re).2 = re ∨ (dvStep Wl ln k s i re).2 = re + 1 := by
  unfold dvStep
  repeat' split
  all_goals first | exact Or.inl rfl | exact Or.inr rfl
theorem dvL_re (Wl : Nat → Option WV) (ln k : Int32) (n : Nat) : ∀ (s : TSt) (i : Int32) (r : Nat), ∃ j, j ≤ n ∧ (dvL Wl ln k n s i (nI r)).2 = nI (r + j) := by
  induction n with
  | zero => intro s i r; exact ⟨0, Nat.le_refl _, rfl⟩
  | succ n ih =>
    intro s i r
    rcases dvStep_re Wl ln k s i (nI r) with h | h
    · obtain ⟨j, hj, e⟩ := ih (dvStep Wl ln k s i (nI r)).1 (i + 1) r
      exact ⟨j, by omega, by rw [dvL, h]; exact e⟩
    · obtain ⟨j, hj, e⟩ := ih (dvStep Wl ln k s i (nI r)).1 (i + 1) (r + 1)
      exact ⟨j + 1, by omega, by rw [dvL, h, nI_1, e]; congr 1; omega⟩
theorem divide_re {Wl : Nat → Option WV} {fr : Nat} {ln k : Int32} {s : TSt} (h : fr ≤ (s.2 10).length) : ∃ j, j ≤ (s.2 10).length ∧ (sT_divide Wl fr ln k s).2 = nI j := by
  obtain ⟨j, hj, e⟩ := dvL_re Wl ln k ((s.2 10).length - fr) (pCut 13 0 s) (nI fr) fr
  exact ⟨fr + j, by omega, e⟩
theorem divide_mono (Wl : Nat → Option WV) (fr : Nat) (ln k : Int32) (s : TSt) : mu s.1 ≤ mu (sT_divide Wl fr ln k s).1.1 :=
  Nat.le_trans (show mu (pCut 13 0 s).1 ≤ _ from dvL_mono _ _ _ _) (show mu (pCut 10 (dvL Wl ln k ((s.2 10).length - fr) (pCut 13 0 s) (nI fr) (nI fr)).2 (dvL Wl ln k ((s.2 10).length - fr) (pCut 13 0 s) (nI fr) (nI fr)).1).1 ≤ _ from dvM_mono _ _ _)
/-- a node's rows before its list is divided; its depth; the height; a list that waits -/
def plNew (Wl : Nat → Option WV) (fr : Nat) (dep : Int32) (s : TSt) : TSt := oAdd 3 1 (oAdd 2 (-1) (oAdd 1 (-1) (oAdd 5 (nI (s.2 6).length) (oAdd 4 dep (oAdd 0 (sT_bestLine s.2 Wl fr) s)))))
def plDiv (Wl : Nat → Option WV) (fr : Nat) (dep k : Int32) (s : TSt) : TSt × Int32 := sT_divide Wl fr (sT_bestLine s.2 Wl fr) k (plNew Wl fr dep s)
def plH (dep : Nat) (h : Int32) : Int32 := if h < nI dep + 1 then nI dep + 1 else h
def plHI (dep h : Int32) : Int32 := if h < dep + 1 then dep + 1 else h
def awt (a b c : Int32) (s : TSt) : TSt := oAdd 18 c (oAdd 17 b (oAdd 16 a s))
/-- the parent's link; the uppermost list is taken off; the depth; the node's lists wait -/
def pnSet (t : Nat) (s : TSt) : TSt := if rAt (s.2 18) (nI t) = 1 then oSet 1 (rAt (s.2 17) (nI t)) (nI (s.2 0).length) s else oSet 2 (rAt (s.2 17) (nI t)) (nI (s.2 0).length) s
def pnCut (t : Nat) (s : TSt) : TSt := oCut 18 (nI t) (oCut 17 (nI t) (oCut 16 (nI t) (pnSet t s)))
def pnDep (Rw : Nat → List Int32) (Wl : Nat → Option WV) (pr : Int32) : Int32 := if sT_hasNode Rw Wl pr = 0 then 0 else rAt (Rw 4) pr + 1
def pnR (fr : Nat) (k : Int32) (d : TSt × Int32) : TSt := if d.2 ≤ nI fr then d.1 else awt (nI fr) k 2 d.1
def pnL (k re : Int32) (s : TSt) : TSt := if nI (s.2 10).length ≤ re then s else awt re k 1 s
def pnDiv (Wl : Nat → Option WV) (t fr : Nat) (s : TSt) : TSt × Int32 := plDiv Wl fr (pnDep (pnCut t s).2 Wl (rAt (s.2 17) (nI t))) (nI (s.2 0).length) (pnCut t s)
def sPN (Wl : Nat → Option WV) (t fr : Nat) (s : TSt) (h : Int32) : TSt × Int32 :=
  (pnL (nI (s.2 0).length) (pnDiv Wl t fr s).2 (pnR fr (nI (s.2 0).length) (pnDiv Wl t fr s)), plHI (pnDep (pnCut t s).2 Wl (rAt (s.2 17) (nI t))) h)
def pnT (s : TSt) : Nat := (s.2 16).length - 1
def pnF (s : TSt) : Nat := (rAt (s.2 16) (nI (pnT s))).toNatClampNeg
/-- n turns -/
def sGL (Wl : Nat → Option WV) : Nat → TSt → Int32 → TSt × Int32
  | 0, s, h => (s, h)
  | n + 1, s, h => if (s.2 16).length = 0 then (s, h) else sGL Wl n (sPN Wl (pnT s) (pnF s) s h).1 (sPN Wl (pnT s) (pnF s) s h).2
/-- the sizes of the nodes under n -/
def csL (Wl : Nat → Option WV) : Nat → TSt → TSt
  | 0, s => s
  | n + 1, s => csL Wl n (oSet 3 (nI n) (1 + sT_nodesIn s.2 Wl (rAt (s.2 1) (nI n)) + sT_nodesIn s.2 Wl (rAt (s.2 2) (nI n))) s)
def sT_countSizes (Wl : Nat → Option WV) (s : TSt) : TSt := csL Wl (s.2 0).length s
theorem csL_mu (Wl : Nat → Option WV) (n : Nat) : ∀ s : TSt, mu (csL Wl n s).1 = mu s.1 := by
  induction n with
  | zero => intro s; rfl
  | succ n ih => intro s; exact ih _
theorem awt_mono (a b c : Int32) (s : TSt) : mu s.1 ≤ mu (awt a b c s).1 :=
  Nat.le_trans (mu_oAdd_le (by decide)) (Nat.le_trans (mu_oAdd_le (by decide)) (mu_oAdd_le (by decide)))
theorem plNew_mono (Wl : Nat → Option WV) (fr : Nat) (dep : Int32) (s : TSt) : mu s.1 ≤ mu (plNew Wl fr dep s).1 :=
  Nat.le_trans (mu_oAdd_le (by decide)) (Nat.le_trans (mu_oAdd_le (by decide)) (Nat.le_trans (mu_oAdd_le (by decide)) (Nat.le_trans (mu_oAdd_le (by decide)) (Nat.le_trans (mu_oAdd_le (by decide)) (mu_oAdd_le (by decide))))))
theorem plDiv_mono (Wl : Nat → Option WV) (fr : Nat) (dep k : Int32) (s : TSt) : mu (plNew Wl fr dep s).1 ≤ mu (plDiv Wl fr dep k s).1.1 := divide_mono _ _ _ _ _
theorem pnSet_mu (t : Nat) (s : TSt) : mu (pnSet t s).1 = mu s.1 := by unfold pnSet; split <;> rfl
theorem pnCut_mu (t : Nat) (s : TSt) : mu (pnCut t s).1 = mu s.1 := pnSet_mu t s
theorem pnR_mono (fr : Nat) (k : Int32) (d : TSt × Int32) : mu d.1.1 ≤ mu (pnR fr k d).1 := by
  unfold pnR
  split
  · exact Nat.le_refl _
  · exact awt_mono _ _ _ _
theorem pnL_mono (k re : Int32) (s : TSt) : mu s.1 ≤ mu (pnL k re s).1 := by
  unfold pnL
  split
  · exact Nat.le_refl _
  · exact awt_mono _ _ _ _
theorem pnDiv_mono (Wl : Nat → Option WV) (t fr : Nat) (s : TSt) : mu s.1 ≤ mu (pnDiv Wl t fr s).1.1 := by
  rw [← pnCut_mu t s]
  exact Nat.le_trans (plNew_mono Wl fr _ _) (plDiv_mono Wl fr _ _ _)
theorem sPN_mono (Wl : Nat → Option WV) (t fr : Nat) (s : TSt) (h : Int32) : mu s.1 ≤ mu (sPN Wl t fr s h).1.1 :=
  Nat.le_trans (pnDiv_mono Wl t fr s) (Nat.le_trans (pnR_mono _ _ _) (pnL_mono _ _ _))
theorem sGL_mono (Wl : Nat → Option WV) (n : Nat) : ∀ (s : TSt) (h : Int32), mu s.1 ≤ mu (sGL Wl n s h).1.1 := by
  induction n with
  | zero => intro s h; exact Nat.le_refl _
  | succ n ih =>
    intro s h
    unfold sGL
    split
    · exact Nat.le_refl _
    · exact Nat.le_trans (sPN_mono Wl _ _ s h) (ih _ _)
/-- the rows of the lists that wait -/
def S3 (s : TSt) : List Int32 × List Int32 × List Int32 := (s.2 16, s.2 17, s.2 18)
theorem dvStep_S3 (Wl : Nat → Option WV) (ln k : Int32) (s : TSt) (i re : Int32) : S3 (dvStep Wl ln k s i re).1 = S3 s := by
  unfold dvStep
  repeat' split
  all_goals rfl
theorem dvL_S3 (Wl : Nat → Option WV) (ln k : Int32) (n : Nat) : ∀ (s : TSt) (i re : Int32), S3 (dvL Wl ln k n s i re).1 = S3 s := by
  induction n with
  | zero => intro s i re; rfl
  | succ n ih => intro s i re; exact (ih _ _ _).trans (dvStep_S3 Wl ln k s i re)
theorem dvM_S3 (n : Nat) : ∀ (s : TSt) (i : Int32), S3 (dvM n s i) = S3 s := by
  induction n with
  | zero => intro s i; rfl
  | succ n ih => intro s i; exact (ih _ _).trans rfl
theorem divide_S3 (Wl : Nat → Option WV) (fr : Nat) (ln k : Int32) (s : TSt) : S3 (sT_divide Wl fr ln k s).1 = S3 s := by
  unfold sT_divide
  refine (dvM_S3 _ _ _).trans ?_
  refine Eq.trans (b := S3 (dvL Wl ln k ((s.2 10).length - fr) (pCut 13 0 s) (nI fr) (nI fr)).1) rfl ?_
  exact (dvL_S3 _ _ _ _ _ _ _).trans rfl
theorem csL_S3 (Wl : Nat → Option WV) (n : Nat) : ∀ s : TSt, S3 (csL Wl n s) = S3 s := by
  induction n with
  | zero => intro s; rfl
  | succ n ih => intro s; exact (ih _).trans rfl
theorem rAdd_le (L : List Int32) (v : Int32) : L.length ≤ (rAdd L v).length := by
  unfold rAdd
  split
  · exact Nat.le_refl _
  · rw [List.length_append]; exact Nat.le_add_right _ _
theorem rCut_tk {L : List Int32} {i : Nat} (h : i ≤ L.length) (h2 : L.length < 2 ^ 31) : rCut L (nI i) = L.take i := by
  unfold rCut
  rw [if_neg (nI_pos (by omega))]
  by_cases e : i = L.length
  · subst e
    rw [if_pos (nI_le (Nat.le_refl _) h2), List.take_length]
  · rw [if_neg (nI_ge (by omega) h2), nI_clamp (by omega)]
theorem dvStep_len (Wl : Nat → Option WV) (ln k : Int32) (s : TSt) (i re : Int32) : ((dvStep Wl ln k s i re).1.2 10).length = (s.2 10).length := by
  unfold dvStep
  repeat' split
  all_goals first | rfl | exact rSet_len _ _ _
theorem dvL_len (Wl : Nat → Option WV) (ln k : Int32) (n : Nat) : ∀ (s : TSt) (i re : Int32), ((dvL Wl ln k n s i re).1.2 10).length = (s.2 10).length := by
  induction n with
  | zero => intro s i re; rfl
  | succ n ih => intro s i re; exact (ih _ _ _).trans (dvStep_len Wl ln k s i re)
theorem dvM_len (n : Nat) : ∀ (s : TSt) (i : Int32), (s.2 10).length ≤ ((dvM n s i).2 10).length := by
  induction n with
  | zero => intro s i; exact Nat.le_refl _
  | succ n ih =>
    intro s i
    have q : (s.2 10).length ≤ ((pAdd 10 (rAt (s.2 13) i) (rAt (s.2 14) i) (rAt (s.2 15) i) s).2 10).length := rAdd_le (s.2 10) _
    exact Nat.le_trans q (ih (pAdd 10 (rAt (s.2 13) i) (rAt (s.2 14) i) (rAt (s.2 15) i) s) (i + 1))
theorem divide_len {Wl : Nat → Option WV} {fr : Nat} {ln k : Int32} {s : TSt} (h : fr ≤ (s.2 10).length) (h2 : (s.2 10).length ≤ 4096) : ∃ j, fr ≤ j ∧ j ≤ (s.2 10).length ∧ (sT_divide Wl fr ln k s).2 = nI j ∧ j ≤ ((sT_divide Wl fr ln k s).1.2 10).length := by
  obtain ⟨j, hj, e⟩ := dvL_re Wl ln k ((s.2 10).length - fr) (pCut 13 0 s) (nI fr) fr
  have hl : ((dvL Wl ln k ((s.2 10).length - fr) (pCut 13 0 s) (nI fr) (nI fr)).1.2 10).length = (s.2 10).length := dvL_len _ _ _ _ _ _ _
  refine ⟨fr + j, by omega, by omega, e, ?_⟩
  unfold sT_divide
  generalize dvL Wl ln k ((s.2 10).length - fr) (pCut 13 0 s) (nI fr) (nI fr) = d at e hl ⊢
  refine Nat.le_trans ?_ (dvM_len _ _ _)
  rw [e]
  show fr + j ≤ (rCut (d.1.2 10) (nI (fr + j))).length
  rw [rCut_tk (by omega) (by omega), List.length_take]
  omega
/-- the lists that wait begin one behind the other -/
def SO (s : TSt) : Prop := ∃ Ls : List Nat, s.2 16 = Ls.map nI ∧ Ls.Pairwise (fun a b => a ≤ b) ∧ ∀ x, x ∈ Ls → x ≤ (s.2 10).length
theorem SO.snoc {s : TSt} (h : SO s) (hn : ¬ (s.2 16).length = 0) : ∃ (Ls : List Nat) (fr : Nat), s.2 16 = (Ls ++ [fr]).map nI ∧ Ls.length = pnT s ∧ Ls.Pairwise (fun a b => a ≤ b) ∧ (∀ x, x ∈ Ls → x ≤ fr) ∧ fr ≤ (s.2 10).length := by
  obtain ⟨Ls, e, hp, hb⟩ := h
  have hne : Ls ≠ [] := by
    rintro rfl
    rw [e] at hn
    exact hn rfl
  have e2 : Ls = Ls.dropLast ++ [Ls.getLast hne] := (List.dropLast_concat_getLast hne).symm
  rw [e2] at hp hb
  obtain ⟨p1, -, p3⟩ := List.pairwise_append.1 hp
  refine ⟨Ls.dropLast, Ls.getLast hne, by rw [← e2]; exact e, ?_, p1, fun x hx => p3 x hx _ (List.mem_singleton.2 rfl), hb _ (List.mem_append_right _ (List.mem_singleton.2 rfl))⟩
  unfold pnT
  rw [e, List.length_map, List.length_dropLast]
theorem rAt_last {A : List Nat} {fr t : Nat} (h : A.length = t) (ht : t < 4096) : rAt ((A ++ [fr]).map nI) (nI t) = nI fr := by
  have hl : ((A ++ [fr]).map nI).length = t + 1 := by rw [List.length_map, List.length_append, h]; rfl
  unfold rAt
  rw [if_neg (nI_pos (by omega)), hl, if_neg (nI_ge (by omega) (by omega)), nI_clamp (by omega), List.map_append, List.getD_eq_getElem?_getD, List.getElem?_append_right (by rw [List.length_map]; omega), List.length_map, h, Nat.sub_self]
  rfl
theorem SO.top {s : TSt} (h : SO s) (hl : (s.2 16).length ≤ 4096) (hw : (s.2 10).length ≤ 4096) (hn : ¬ (s.2 16).length = 0) : (s.2 16).length = pnT s + 1 ∧ rAt (s.2 16) (nI (pnT s)) = nI (pnF s) ∧ pnF s ≤ (s.2 10).length := by
  obtain ⟨Ls, fr, e, hL, -, -, hf⟩ := h.snoc hn
  have h1 : (s.2 16).length = pnT s + 1 := by rw [e, List.length_map, List.length_append, hL]; rfl
  have h2 : rAt (s.2 16) (nI (pnT s)) = nI fr := by rw [e]; exact rAt_last hL (by omega)
  have h3 : pnF s = fr := by unfold pnF; rw [h2, nI_clamp (by omega)]
  rw [h3]
  exact ⟨h1, h2, hf⟩
theorem pnSet_10 (t : Nat) (s : TSt) : (pnSet t s).2 10 = s.2 10 := by unfold pnSet; split <;> rfl
theorem oCut_self (K : Nat) (i : Int32) (s : TSt) : (oCut K i s).2 K = rCut (s.2 K) i := va_up_self _ _ _
theorem oCut_ne {K j : Nat} (i : Int32) (s : TSt) (h : j ≠ K) : (oCut K i s).2 j = s.2 j := va_up_ne _ _ h
theorem pnSet_16 (t : Nat) (s : TSt) : (pnSet t s).2 16 = s.2 16 := by unfold pnSet; split <;> rfl
theorem pnSet_17 (t : Nat) (s : TSt) : (pnSet t s).2 17 = s.2 17 := by unfold pnSet; split <;> rfl
theorem pnSet_18 (t : Nat) (s : TSt) : (pnSet t s).2 18 = s.2 18 := by unfold pnSet; split <;> rfl
theorem pnCut_16 (t : Nat) (s : TSt) : (pnCut t s).2 16 = rCut (s.2 16) (nI t) := by
  unfold pnCut
  rw [oCut_ne _ _ (by decide), oCut_ne _ _ (by decide), oCut_self, pnSet_16]
theorem pnCut_17 (t : Nat) (s : TSt) : (pnCut t s).2 17 = rCut (s.2 17) (nI t) := by
  unfold pnCut
  rw [oCut_ne _ _ (by decide), oCut_self, oCut_ne _ _ (by decide), pnSet_17]
theorem pnCut_18 (t : Nat) (s : TSt) : (pnCut t s).2 18 = rCut (s.2 18) (nI t) := by
  unfold pnCut
  rw [oCut_self, oCut_ne _ _ (by decide), oCut_ne _ _ (by decide), pnSet_18]
theorem pnCut_10 (t : Nat) (s : TSt) : (pnCut t s).2 10 = s.2 10 := by
  unfold pnCut
  rw [oCut_ne _ _ (by decide), oCut_ne _ _ (by decide), oCut_ne _ _ (by decide), pnSet_10]
theorem pnDiv_S3 (Wl : Nat → Option WV) (t fr : Nat) (s : TSt) : S3 (pnDiv Wl t fr s).1 = (rCut (s.2 16) (nI t), rCut (s.2 17) (nI t), rCut (s.2 18) (nI t)) := by
  unfold pnDiv plDiv
  rw [divide_S3]
  refine Eq.trans (b := S3 (pnCut t s)) rfl ?_
  unfold S3
  rw [pnCut_16, pnCut_17, pnCut_18]
theorem SO.add {s : TSt} {A : List Nat} {x : Nat} {b c : Int32} (e : s.2 16 = A.map nI) (hp : A.Pairwise (fun a b => a ≤ b)) (hA : ∀ y, y ∈ A → y ≤ x) (hx : x ≤ (s.2 10).length) : ∃ A' : List Nat, (awt (nI x) b c s).2 16 = A'.map nI ∧ A'.Pairwise (fun a b => a ≤ b) ∧ (∀ y, y ∈ A' → y ≤ x) ∧ (awt (nI x) b c s).2 10 = s.2 10 := by
  have e2 : (awt (nI x) b c s).2 16 = rAdd (s.2 16) (nI x) := rfl
  rw [e2, e]
  unfold rAdd
  split
  · exact ⟨A, rfl, hp, hA, rfl⟩
  · refine ⟨A ++ [x], by rw [List.map_append]; rfl, List.pairwise_append.2 ⟨hp, List.pairwise_singleton _ _, fun a ha b hb => by rw [List.mem_singleton.1 hb]; exact hA a ha⟩, fun y hy => ?_, rfl⟩
    rcases List.mem_append.1 hy with hy | hy
    · exact hA y hy
    · rw [List.mem_singleton.1 hy]; exact Nat.le_refl _
theorem SO.step {s : TSt} (h : SO s) (hl : (s.2 16).length ≤ 4096) (hw : (s.2 10).length ≤ 4096) (hn : ¬ (s.2 16).length = 0) (Wl : Nat → Option WV) (hh : Int32) : SO (sPN Wl (pnT s) (pnF s) s hh).1 := by
  obtain ⟨t1, t2, t3⟩ := h.top hl hw hn
  obtain ⟨Ls, fr, e, hL, hp, hA, hf⟩ := h.snoc hn
  have hfr : pnF s = fr := by
    have h2 : rAt (s.2 16) (nI (pnT s)) = nI fr := by rw [e]; exact rAt_last hL (by omega)
    unfold pnF; rw [h2, nI_clamp (by omega)]
  rw [hfr]
  have w10 : ((plNew Wl fr (pnDep (pnCut (pnT s) s).2 Wl (rAt (s.2 17) (nI (pnT s)))) (pnCut (pnT s) s)).2 10) = s.2 10 := Eq.trans (b := (pnCut (pnT s) s).2 10) rfl (pnCut_10 _ _)
  obtain ⟨j, j1, j2, j3, j4⟩ := divide_len (Wl := Wl) (fr := fr) (ln := sT_bestLine (pnCut (pnT s) s).2 Wl fr) (k := nI (s.2 0).length) (s := plNew Wl fr (pnDep (pnCut (pnT s) s).2 Wl (rAt (s.2 17) (nI (pnT s)))) (pnCut (pnT s) s)) (by rw [w10]; exact hf) (by rw [w10]; exact hw)
  have d3 := pnDiv_S3 Wl (pnT s) fr s
  have d16 : (pnDiv Wl (pnT s) fr s).1.2 16 = Ls.map nI := by
    have q : (pnDiv Wl (pnT s) fr s).1.2 16 = rCut (s.2 16) (nI (pnT s)) := congrArg (fun x => x.1) d3
    rw [q, rCut_tk (by omega) (by omega), e, List.map_append, ← hL, List.take_append_of_le_length (by rw [List.length_map]; exact Nat.le_refl _), List.take_of_length_le (by rw [List.length_map]; exact Nat.le_refl _)]
  have j3 : (pnDiv Wl (pnT s) fr s).2 = nI j := j3
  have j4 : j ≤ ((pnDiv Wl (pnT s) fr s).1.2 10).length := j4
  unfold sPN
  generalize pnDiv Wl (pnT s) fr s = d at d16 j3 j4 ⊢
  have a1 : ∃ A : List Nat, (pnR fr (nI (s.2 0).length) d).2 16 = A.map nI ∧ A.Pairwise (fun a b => a ≤ b) ∧ (∀ y, y ∈ A → y ≤ j) ∧ (pnR fr (nI (s.2 0).length) d).2 10 = d.1.2 10 := by
    unfold pnR
    split
    · exact ⟨Ls, d16, hp, fun y hy => Nat.le_trans (hA y hy) j1, rfl⟩
    · obtain ⟨A, z1, z2, z3, z4⟩ := SO.add (b := nI (s.2 0).length) (c := 2) d16 hp hA (Nat.le_trans j1 j4)
      exact ⟨A, z1, z2, fun y hy => Nat.le_trans (z3 y hy) j1, z4⟩
  obtain ⟨A, z1, z2, z3, z4⟩ := a1
  show SO (pnL (nI (s.2 0).length) d.2 (pnR fr (nI (s.2 0).length) d))
  generalize pnR fr (nI (s.2 0).length) d = s5 at z1 z4 ⊢
  unfold pnL
  split
  · exact ⟨A, z1, z2, fun y hy => by rw [z4]; exact Nat.le_trans (z3 y hy) j4⟩
  · rw [j3]
    obtain ⟨A2, y1, y2, y3, y4⟩ := SO.add (b := nI (s.2 0).length) (c := 1) z1 z2 z3 (by rw [z4]; exact j4)
    exact ⟨A2, y1, y2, fun y hy => by rw [y4, z4]; exact Nat.le_trans (y3 y hy) j4⟩
