def R_law : String := "NodeMakerLaw"
def lw_P (b : Addr) (xs : List Int32) (args : Array Value) (s : State) : Prop := args = #[.ref b] ∧ s.IntsAt b xs ∧ xs.length ≤ 2560 ∧ (Jvm.Cond.and given_1 narrow_1).before args s = true
def lw_Q (_ : Array Value) (s : State) (o : Outcome) (t : State) : Prop := o = .returned (some (.int 1)) ∧ Framed s o t [] 600000 7302250
def lw_Z (below : List Frame) (a : Array Value) (s : State) : State → Prop := fun t => ∃ o, t.status = .running ∧ Ended t below o ∧ lw_Q a s o t
/-- the law's own end, with 1 on the stack, nothing written that was there before, its room as the claim has it -/
theorem lw_ret {p : Program} {l : Launch} {e : Env} {s : State} {m : MethodId} {below : List Frame} {meth : Method} {c : Code} {b : Nat} (hx : p.tables.exec = Jvm.exec) (hb : c.code = code) (hr : meth.sig.returnType = ret) (hlocks : meth.locks = false) {pc : Nat} {H : Heap} {ls : Array Slot} (hdg : decode code pc = .ok (.ireturn, 1)) : W p l e room_1 s m #[Value.ref b] below meth c H [] 600000 7302250 (lw_Z below #[Value.ref b] s) (F0 m pc ls [.int 1]) := by
  intro T hT X
  obtain ⟨fs, hret, hrun, hended, hW, hframe⟩ := X.leave (v := some (.int 1)) (hlocks := hlocks) (fun h => by rw [hr] at h; cases h)
  have hmeth' : T.vm.method? m = some meth := X.method'
  refine ⟨T.setFrames fs, ?_, .returned (some (.int 1)), hrun, hended, rfl, ⟨_, rfl⟩, hW, hframe⟩
  jvm_step X.here [X.here.top, hx, hb, hdg, hmeth', hr, ret, narrow_b1]
  (try refine ⟨rfl, ?_⟩); (try refine ⟨rfl, ?_⟩)
  first | (intro acts; rw [hret _ acts rfl rfl rfl]) | rw [hret _ _ rfl rfl rfl]
  exact Steps.refl _
/-- what holds at the law's entry: the machine, the code, the tables' words (any of lw_tbl by 'hts w (by decide +kernel)'), the script of L ints xs at the cell b, what the Statement gives of the start (any of its parts by flat_of_before) -/
def lw_At (p : Program) (s : State) (m : MethodId) (meth : Method) (c : Code) (b L : Nat) (xs : Nat → Int32) : Prop :=
  p.tables.exec = Jvm.exec ∧ c.code = code ∧ meth.sig.returnType = ret ∧ c.maxLocals = 4 ∧ s.vm.findClass R_law = some m.cls ∧ (∀ w ∈ lw_tbl, w.before #[Value.ref b] s = true) ∧ va_X b L xs s s.heap ∧ b < s.heap.size ∧ meth.locks = false ∧ (Jvm.Cond.and given_1 narrow_1).before #[Value.ref b] s = true
def CPS (s : TSt) : Prop := ∀ k, k < 19 → capOK (s.1 k)
theorem capOK_a {cap : Nat} {L : List Int32} (h : capOK cap) : capOK (aCap cap L) := by
  unfold aCap
  split
  · exact h
  · split
    · exact h
    · unfold capOK at h ⊢
      omega
theorem CPS.oAdd {s : TSt} (h : CPS s) (K : Nat) (v : Int32) : CPS (oAdd K v s) := by
  intro k hk
  show capOK (va_up s.1 K (aCap (s.1 K) (s.2 K)) k)
  by_cases e : k = K
  · subst e; rw [va_up_self]; exact capOK_a (h k hk)
  · rw [va_up_ne _ _ e]; exact h k hk
theorem CPS.pAdd {s : TSt} (h : CPS s) (K : Nat) (a b c : Int32) : CPS (pAdd K a b c s) := by
  intro k hk
  show capOK (va_up (va_up (va_up s.1 K (aCap (s.1 K) (s.2 K))) (K + 1) (aCap (s.1 (K + 1)) (s.2 (K + 1)))) (K + 2) (aCap (s.1 (K + 2)) (s.2 (K + 2))) k)
  by_cases e : k = K + 2
  · subst e; rw [va_up_self]; exact capOK_a (h _ hk)
  · rw [va_up_ne _ _ e]
    by_cases e : k = K + 1
    · subst e; rw [va_up_self]; exact capOK_a (h _ hk)
    · rw [va_up_ne _ _ e]
      by_cases e : k = K
      · subst e; rw [va_up_self]; exact capOK_a (h _ hk)
      · rw [va_up_ne _ _ e]; exact h k hk
theorem CPS.pSet {s : TSt} (h : CPS s) (K : Nat) (i a b c : Int32) : CPS (pSet K i a b c s) := h
theorem CPS.step {s : TSt} (h : CPS s) (Wl : Nat → Option WV) (ln k i re : Int32) : CPS (dvStep Wl ln k s i re).1 := by
  unfold dvStep
  repeat' split
  all_goals first | exact h | exact h.pAdd _ _ _ _ | exact h.pSet _ _ _ _ _ | exact (h.pAdd _ _ _ _).pSet _ _ _ _ _ | exact (h.pAdd _ _ _ _).oAdd _ _
theorem CPS.dvL (Wl : Nat → Option WV) (ln k : Int32) : ∀ (n : Nat) (s : TSt) (i re : Int32), CPS s → CPS (dvL Wl ln k n s i re).1 := by
  intro n
  induction n with
  | zero => intro s i re h; exact h
  | succ n ih => intro s i re h; exact ih _ _ _ (h.step Wl ln k i re)
theorem CPS.dvM : ∀ (n : Nat) (s : TSt) (i : Int32), CPS s → CPS (dvM n s i) := by
  intro n
  induction n with
  | zero => intro s i h; exact h
  | succ n ih => intro s i h; exact ih _ _ (h.pAdd _ _ _ _)
theorem CPS.divide {s : TSt} (h : CPS s) (Wl : Nat → Option WV) (fr : Nat) (ln k : Int32) : CPS (sT_divide Wl fr ln k s).1 := by
  unfold sT_divide
  have h1 : CPS (pCut 13 0 s) := h
  have h2 := CPS.dvL Wl ln k ((s.2 10).length - fr) (pCut 13 0 s) (nI fr) (nI fr) h1
  exact CPS.dvM _ _ _ h2
theorem CPS.awt {s : TSt} (h : CPS s) (a b c : Int32) : CPS (awt a b c s) := ((h.oAdd 16 a).oAdd 17 b).oAdd 18 c
theorem CPS.pn (Wl : Nat → Option WV) (t fr : Nat) (s : TSt) (h : Int32) (hs : CPS s) : CPS (sPN Wl t fr s h).1 := by
  have h0 : CPS (pnCut t s) := by
    have q : CPS (pnSet t s) := by
      unfold pnSet
      split <;> exact hs
    exact q
  have h1 : CPS (plNew Wl fr (pnDep (pnCut t s).2 Wl (rAt (s.2 17) (nI t))) (pnCut t s)) := ((((((h0.oAdd 0 _).oAdd 4 _).oAdd 5 _).oAdd 1 _).oAdd 2 _).oAdd 3 _)
  have h2 : CPS (pnDiv Wl t fr s).1 := h1.divide _ _ _ _
  have h3 : CPS (pnR fr (nI (s.2 0).length) (pnDiv Wl t fr s)) := by
    unfold pnR
    split
    · exact h2
    · exact h2.awt _ _ _
  show CPS (pnL _ _ _)
  unfold pnL
  split
  · exact h3
  · exact h3.awt _ _ _
theorem CPS.gl (Wl : Nat → Option WV) : ∀ (n : Nat) (s : TSt) (h : Int32), CPS s → CPS (sGL Wl n s h).1 := by
  intro n
  induction n with
  | zero => intro s h hs; exact hs
  | succ n ih =>
    intro s h hs
    unfold sGL
    split
    · exact hs
    · exact ih _ _ (CPS.pn Wl _ _ _ _ hs)
theorem CPS.cs (Wl : Nat → Option WV) : ∀ (n : Nat) (s : TSt), CPS s → CPS (csL Wl n s) := by
  intro n
  induction n with
  | zero => intro s hs; exact hs
  | succ n ih => intro s hs; exact ih _ hs
theorem CPS.gr (Wl : Nat → Option WV) : ∀ (n : Nat) (i : Int32) (s : TSt), CPS s → CPS (grL Wl n i s) := by
  intro n
  induction n with
  | zero => intro i s h; exact h
  | succ n ih =>
    intro i s h
    refine ih _ _ ?_
    split
    · exact h
    · exact h.pAdd _ _ _ _
theorem CPS.grp {s : TSt} (hs : CPS s) (Wl : Nat → Option WV) : CPS (grP Wl s).1 := by
  have h1 : CPS (sT_fell s) := hs
  have h2 := CPS.gr Wl 64 0 _ h1
  have h3 : CPS (grA (grL Wl 64 0 (sT_fell s))) := by
    unfold grA
    split
    · exact h2
    · exact h2.awt _ _ _
  unfold grP
  exact CPS.gl Wl _ _ _ h3
theorem CPS.grow {s : TSt} (hs : CPS s) (Wl : Nat → Option WV) (h st : Int32) : CPS (sT_grow Wl s h st).1 := by
  have h4 := hs.grp Wl
  unfold sT_grow
  generalize grP Wl s = r at h4 ⊢
  by_cases e : st = 0
  · rw [if_pos e]
    exact hs
  · rw [if_neg e]
    dsimp only
    unfold sT_countSizes
    exact CPS.cs Wl _ _ h4
theorem CPS.mu {s : TSt} (h : CPS s) : mu s.1 ≤ 155648 := by
  have k : ∀ j, j < 19 → s.1 j ≤ 4096 := fun j hj => by
    have := h j hj
    unfold capOK at this
    omega
  have h0 := k 0 (by decide)
  have h1 := k 1 (by decide)
  have h2 := k 2 (by decide)
  have h3 := k 3 (by decide)
  have h4 := k 4 (by decide)
  have h5 := k 5 (by decide)
  have h6 := k 6 (by decide)
  have h7 := k 7 (by decide)
  have h8 := k 8 (by decide)
  have h9 := k 9 (by decide)
  have h10 := k 10 (by decide)
  have h11 := k 11 (by decide)
  have h12 := k 12 (by decide)
  have h13 := k 13 (by decide)
  have h14 := k 14 (by decide)
  have h15 := k 15 (by decide)
  have h16 := k 16 (by decide)
  have h17 := k 17 (by decide)
  have h18 := k 18 (by decide)
  show 2 * (s.1 0 + s.1 1 + s.1 2 + s.1 3 + s.1 4 + s.1 5 + s.1 6 + s.1 7 + s.1 8 + s.1 9 + s.1 10 + s.1 11 + s.1 12 + s.1 13 + s.1 14 + s.1 15 + s.1 16 + s.1 17 + s.1 18) ≤ 155648
  omega
theorem rows_cps {s : TSt} {f : Nat → Nat → Int32} (h : rowsT s.1 f s.2) : CPS s := fun k hk => (h k hk).2.1
theorem mu_bd {s t : TSt} {Wl : Nat → Option WV} {h st : Int32} {f : Nat → Nat → Int32} (hz : rowsT s.1 f s.2) (e : t = (sT_grow Wl s h st).1 ∨ t = s) : mu s.1 ≤ mu t.1 ∧ mu t.1 ≤ 155648 := by
  have hc := rows_cps hz
  rcases e with rfl | rfl
  · exact ⟨grow_mono _ _ _ _, (hc.grow _ _ _).mu⟩
  · exact ⟨Nat.le_refl _, hc.mu⟩
section RWL
variable {p : Program} {l : Launch} {e : Env} {R : Room} {s : State} {m : MethodId} {args : Array Value} {below : List Frame} {meth : Method} {c : Code} {H : Heap} {locs : List Loc} {cells slots mc ms : Nat} {Q : State → Prop}
variable {pc : Nat} {ls : Array Slot} {rest st0 : List Value} {g : CX} {a : Array Value} {A0 : Nat → Prop} {H0 : Heap} {X cx wc wr pl : va_W}
theorem rw_lP {S : Type} {post : Int64 → S → Prop} {rx : S → va_W} {pl1 : S → va_W} (hr : va_Run p l e R s m args below meth c H locs cells slots mc ms (F0 m pc ls st0) rest (va_Ql post (rB g (va_A (cx ++ pl) H.size) (fun u => rx u ++ pl1 u)) (va_A (cx ++ pl) H.size) a) (va_A (cx ++ pl) H.size)) (hP : va_P g.1 vwCl (X ++ pl) H) (hD : va_D A0 (X ++ pl)) (hS : va_S A0 H0 H locs) (hA : ∀ q, H0.size ≤ q → A0 q)
    (isC isR : List Nat) (hC : isC.map (fun i => X[i]?) = cx.map some) (hR : isR.map (fun i => X[i]?) = wr.map some) (hn : va_nd isR = true) (hdis : ∀ i ∈ isR, i ∉ isC)
    (kk : ∀ (r : Int64) (u : S) (H1 : Heap) (locs1 : List Loc), post r u → va_P g.1 vwCl ((wr ++ rx u) ++ pl1 u) H1 → va_D A0 ((wr ++ rx u) ++ pl1 u) → va_S A0 H0 H1 locs1 → W p l e R s m args below meth c H1 locs1 (cells + mc) (slots + ms) Q (F0 m (pc + 3) ls (.long r :: rest))) : W p l e R s m args below meth c H locs cells slots Q (F0 m pc ls st0) := by
  have hFc := pl_free hD hS hA isC hC
  refine va_calll hr hS (fun q _ h => hFc q h) hFc (fun r u t H1 locs1 ht hvm hw hB hz1 hk1 hS1 => ?_)
  obtain ⟨hP1, hD1⟩ := hB
  rw [ht] at hP1
  obtain ⟨hP2, hD2⟩ := va_joinP (wr := wr) (rx := rx u) (pl1 := pl1 u) hP hD isC isR hC hR hn hdis hk1 hFc hP1 hD1
  exact kk r u H1 locs1 hw hP2 hD2 hS1
theorem rw_lQ {S : Type} {post : Int64 → S → Prop} {w1 : S → va_W} (hr : va_Run p l e R s m args below meth c H locs cells slots mc ms (F0 m pc ls st0) rest (va_Ql post (rB g (va_A wc H.size) w1) (va_A wc H.size) a) (va_A wc H.size)) (hP : va_P g.1 vwCl (X ++ pl) H) (hD : va_D A0 (X ++ pl)) (hS : va_S A0 H0 H locs) (hA : ∀ q, H0.size ≤ q → A0 q)
    (isC isR : List Nat) (hC : isC.map (fun i => X[i]?) = wc.map some) (hC2 : isC.map (fun i => (X ++ pl)[i]?) = wc.map some) (hR : isR.map (fun i => X[i]?) = wr.map some) (hn : va_nd isR = true) (hdis : ∀ i ∈ isR, i ∉ isC)
    (kk : ∀ (r : Int64) (u : S) (H1 : Heap) (locs1 : List Loc), post r u → va_P g.1 vwCl ((wr ++ w1 u) ++ pl) H1 → va_D A0 ((wr ++ w1 u) ++ pl) → va_S A0 H0 H1 locs1 → W p l e R s m args below meth c H1 locs1 (cells + mc) (slots + ms) Q (F0 m (pc + 3) ls (.long r :: rest))) : W p l e R s m args below meth c H locs cells slots Q (F0 m pc ls st0) := by
  have hFc := va_free (wc := wc) hD hS hA isC hC2
  refine va_calll hr hS (fun q _ h => hFc q h) hFc (fun r u t H1 locs1 ht hvm hw hB hz1 hk1 hS1 => ?_)
  obtain ⟨hP1, hD1⟩ := hB
  rw [ht] at hP1
  obtain ⟨hP2, hD2⟩ := va_joinQ (wr := wr) (w1 := w1 u) hP hD isC isR hC hR hn hdis hk1 hFc hP1 hD1
  exact kk r u H1 locs1 hw hP2 hD2 hS1
end RWL
/-- at a place of the law's loop, with jj calls done: the class's cells, the reference's, the walls; both agree -/
def KON (p : Program) (l : Launch) (e : Env) (s : State) (m : MethodId) (below : List Frame) (meth : Method) (c : Code) (b : Nat) (g : CX) (aN aM : Nat) (pc : Nat) (x3 : Int32) (jj : Nat) : Prop :=
  ∀ (hw wx wy : Int32) (ad q : Nat → Nat) (f : Nat → Nat → Int32) (s0 : TSt) (sl : Nat → Option Nat) (cnt h st : Int32) (LW : List Nat) (wv : Nat → WV) (bM : Nat → Nat) (mz : MSt) (H : Heap) (locs : List Loc) (ls : Array Slot), rowsT s0.1 f s0.2 → slOK sl LW → REL (wOf sl wv) s0 h st cnt hw wx wy mz → 2432 ≤ mu s0.1 → va_P g.1 vwCl ((nX g aN hw wx wy ad q s0.1 f s0.2 sl cnt h st ++ mX g aM bM mz) ++ plW LW wv) H → va_D (fun q : Nat => s.heap.size ≤ q) ((nX g aN hw wx wy ad q s0.1 f s0.2 sl cnt h st ++ mX g aM bM mz) ++ plW LW wv) → va_S (fun q : Nat => s.heap.size ≤ q) s.heap H locs → lv_has ls 4 [(0, .ref b), (1, .ref aN), (2, .ref aM), (3, .int x3)] → W p l e room_1 s m #[Value.ref b] below meth c H locs (70 + (mu s0.1 - 2432) + jj) (94930 + (mu s0.1 - 2432) + 4 * jj) (lw_Z below #[Value.ref b] s) (F0 m pc ls [])
theorem sw_out11 {x : Int32} (h0 : ¬ x = 0) (h1 : ¬ x = 1) (h2 : ¬ x = 2) (h3 : ¬ x = 3) (h4 : ¬ x = 4) (h5 : ¬ x = 5) (h6 : ¬ x = 6) (h7 : ¬ x = 7) (h8 : ¬ x = 8) (h9 : ¬ x = 9) (h10 : ¬ x = 10) : x.toInt < 0 ∨ 10 < x.toInt := by
  have a0 : x.toInt ≠ 0 := fun h => h0 (Int32.toInt_inj.mp (by rw [h]; rfl))
  have a1 : x.toInt ≠ 1 := fun h => h1 (Int32.toInt_inj.mp (by rw [h]; rfl))
  have a2 : x.toInt ≠ 2 := fun h => h2 (Int32.toInt_inj.mp (by rw [h]; rfl))
  have a3 : x.toInt ≠ 3 := fun h => h3 (Int32.toInt_inj.mp (by rw [h]; rfl))
  have a4 : x.toInt ≠ 4 := fun h => h4 (Int32.toInt_inj.mp (by rw [h]; rfl))
  have a5 : x.toInt ≠ 5 := fun h => h5 (Int32.toInt_inj.mp (by rw [h]; rfl))
  have a6 : x.toInt ≠ 6 := fun h => h6 (Int32.toInt_inj.mp (by rw [h]; rfl))
  have a7 : x.toInt ≠ 7 := fun h => h7 (Int32.toInt_inj.mp (by rw [h]; rfl))
  have a8 : x.toInt ≠ 8 := fun h => h8 (Int32.toInt_inj.mp (by rw [h]; rfl))
  have a9 : x.toInt ≠ 9 := fun h => h9 (Int32.toInt_inj.mp (by rw [h]; rfl))
  have a10 : x.toInt ≠ 10 := fun h => h10 (Int32.toInt_inj.mp (by rw [h]; rfl))
  omega
