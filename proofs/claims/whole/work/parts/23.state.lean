-- the tree's state: the rows' array lengths, the rows
abbrev TSt : Type := (Nat → Nat) × (Nat → List Int32)
def oAdd (K : Nat) (v : Int32) (s : TSt) : TSt := (va_up s.1 K (aCap (s.1 K) (s.2 K)), va_up s.2 K (rAdd (s.2 K) v))
def oSet (K : Nat) (i v : Int32) (s : TSt) : TSt := (s.1, va_up s.2 K (rSet (s.2 K) i v))
def oCut (K : Nat) (i : Int32) (s : TSt) : TSt := (s.1, va_up s.2 K (rCut (s.2 K) i))
def pAdd (K : Nat) (v0 v1 v2 : Int32) (s : TSt) : TSt := (va_up (va_up (va_up s.1 K (aCap (s.1 K) (s.2 K))) (K + 1) (aCap (s.1 (K + 1)) (s.2 (K + 1)))) (K + 2) (aCap (s.1 (K + 2)) (s.2 (K + 2))), va_up (va_up (va_up s.2 K (rAdd (s.2 K) v0)) (K + 1) (rAdd (s.2 (K + 1)) v1)) (K + 2) (rAdd (s.2 (K + 2)) v2))
def pSet (K : Nat) (i v0 v1 v2 : Int32) (s : TSt) : TSt := (s.1, va_up (va_up (va_up s.2 K (rSet (s.2 K) i v0)) (K + 1) (rSet (s.2 (K + 1)) i v1)) (K + 2) (rSet (s.2 (K + 2)) i v2))
def pCut (K : Nat) (i : Int32) (s : TSt) : TSt := (s.1, va_up (va_up (va_up s.2 K (rCut (s.2 K) i)) (K + 1) (rCut (s.2 (K + 1)) i)) (K + 2) (rCut (s.2 (K + 2)) i))
/-- what the arrays have taken so far -/
def mu (cp : Nat → Nat) : Nat := 2 * (cp 0 + cp 1 + cp 2 + cp 3 + cp 4 + cp 5 + cp 6 + cp 7 + cp 8 + cp 9 + cp 10 + cp 11 + cp 12 + cp 13 + cp 14 + cp 15 + cp 16 + cp 17 + cp 18)
theorem aCap_ge (cap : Nat) (L : List Int32) : cap ≤ aCap cap L := by
  unfold aCap
  split
  · omega
  · split <;> omega
theorem mu_up {cp : Nat → Nat} {K c : Nat} (hK : K < 19) (h : cp K ≤ c) : mu (va_up cp K c) = mu cp + (2 * c - 2 * cp K) := by
  unfold mu
  rcases (show K = 0 ∨ K = 1 ∨ K = 2 ∨ K = 3 ∨ K = 4 ∨ K = 5 ∨ K = 6 ∨ K = 7 ∨ K = 8 ∨ K = 9 ∨ K = 10 ∨ K = 11 ∨ K = 12 ∨ K = 13 ∨ K = 14 ∨ K = 15 ∨ K = 16 ∨ K = 17 ∨ K = 18 by omega) with rfl | rfl | rfl | rfl | rfl | rfl | rfl | rfl | rfl | rfl | rfl | rfl | rfl | rfl | rfl | rfl | rfl | rfl | rfl <;> simp [va_up] <;> omega
theorem mu_oAdd {K : Nat} {v : Int32} {s : TSt} (hK : K < 19) : mu (oAdd K v s).1 = mu s.1 + aUse (s.1 K) (s.2 K) := mu_up hK (aCap_ge _ _)
theorem mu_pAdd {K : Nat} {v0 v1 v2 : Int32} {s : TSt} (hK : K + 2 < 19) : mu (pAdd K v0 v1 v2 s).1 = mu s.1 + (aUse (s.1 K) (s.2 K) + aUse (s.1 (K + 1)) (s.2 (K + 1)) + aUse (s.1 (K + 2)) (s.2 (K + 2))) := by
  have e1 : va_up s.1 K (aCap (s.1 K) (s.2 K)) (K + 1) = s.1 (K + 1) := va_up_ne _ _ (by omega)
  have e2 : va_up (va_up s.1 K (aCap (s.1 K) (s.2 K))) (K + 1) (aCap (s.1 (K + 1)) (s.2 (K + 1))) (K + 2) = s.1 (K + 2) := (va_up_ne _ _ (by omega)).trans (va_up_ne _ _ (by omega))
  show mu (va_up (va_up (va_up s.1 K (aCap (s.1 K) (s.2 K))) (K + 1) (aCap (s.1 (K + 1)) (s.2 (K + 1)))) (K + 2) (aCap (s.1 (K + 2)) (s.2 (K + 2)))) = _
  rw [mu_up (by omega) (by rw [e2]; exact aCap_ge _ _), mu_up (by omega) (by rw [e1]; exact aCap_ge _ _), mu_up (by omega) (aCap_ge _ _), e1, e2]
  unfold aUse
  omega
