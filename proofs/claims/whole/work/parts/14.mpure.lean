/-! the public methods of the class, in pure words -/
theorem ix_of {x : Int32} {n : Nat} (h0 : ¬ x < 0) (h1 : ¬ nI n ≤ x) (hn : n < 2 ^ 31) : ∃ j, j < n ∧ x = nI j := by
  rcases pk_ix x hn with h | h | h
  · exact absurd h h0
  · exact absurd h h1
  · exact h
theorem vp_of {x : Int32} {n : Nat} (h0 : ¬ x < 0) (h1 : ¬ nI n ≤ x) (hn : n < 2 ^ 31) : vp_in x n := by
  obtain ⟨j, hj, rfl⟩ := ix_of h0 h1 hn
  exact vp_in_nI hj hn
theorem ix_nI {j : Nat} (h : j < 2 ^ 31) : ix (nI j) = j := nI_clamp h
def atC (f : Nat → Int32) (n : Nat) (k : Int32) : Int32 := if ¬ k < 0 ∧ ¬ nI n ≤ k then f (ix k) else -11
abbrev mdP (mo : Int32) : Prop := ¬ mo < 0 ∧ ¬ nI 16 ≤ mo
def knC (kF : Nat → Int32) (i : Int32) : Int32 := if ¬ i < 0 ∧ ¬ nI 40 ≤ i then kF (ix i) else nI 0
theorem knC_in {kF : Nat → Int32} {i : Int32} (h : ¬ knC kF i = nI 0) : vp_in i 40 := by
  unfold knC at h
  split at h
  · rename_i h1; exact vp_of h1.1 h1.2 (by decide)
  · exact absurd rfl h
def enC (dF bF : Nat → Int32) (ec : Nat) (i k : Int32) : Int32 := if nth (fun j => decide (dF j = i)) k ec 0 0 < ec then bF (nth (fun j => decide (dF j = i)) k ec 0 0) else -1
def lfN (kF : Nat → Int32) : Nat := scan (fun j => !decide (kF j = nI 0)) 40 0
def volC (kF mF oF vF pF rF : Nat → Int32) (vn : Nat) : Int32 × (Nat → Int32) × (Nat → Int32) × (Nat → Int32) × (Nat → Int32) × (Nat → Int32) × (Nat → Int32) × Nat := if lfN kF < 40 ∧ vn < 4 then (nI vn, upd kF (ix (nI (lfN kF))) (nI 1), upd mF (ix (nI (lfN kF))) (nI 15), upd oF (ix (nI (lfN kF))) (nI 0), upd vF (ix (nI (lfN kF))) (nI vn), upd pF (ix (nI (lfN kF))) (nI (lfN kF)), upd rF vn (nI (lfN kF)), vn + 1) else (-10, kF, mF, oF, vF, pF, rF, vn)
noncomputable def chC (mF oF : Nat → Int32) (us mo d : Int32) : Int32 × (Nat → Int32) := if mdP mo then (if d < 0 then (d, mF) else if us = 0 ∨ us = oF (ix d) then (mF (ix d), upd mF (ix d) mo) else (-3, mF)) else (-11, mF)
noncomputable def etC (kF mF oF : Nat → Int32) (us ro pr fj d : Int32) : Int32 × Int32 × Int32 := if d < 0 then (d, pr, ro) else if kF (ix d) = nI 1 then pI (mayP us (mF (ix d)) (oF (ix d)) (nI 1)) (d, d, if fj = 0 then ro else d) (-3, pr, ro) else (-2, pr, ro)
def abC (kF mF oF vF dF bF cF : Nat → Int32) (ec vn : Nat) (i w : Int32) : Int32 := if knC kF i = nI 0 then -11 else if w = nI 0 then mF (ix i) else if w = nI 1 then oF (ix i) else if w = nI 2 then vF (ix i) else if w = nI 3 then nI (cntB (fun j => decide (bF j = i)) ec) else if w = nI 4 then nI (cntB (fun j => decide (dF j = i)) ec) else if w = nI 5 then nI (covN cF i vn) else -11
theorem tab6 (x : Int32) : x = nI 0 ∨ x = nI 1 ∨ x = nI 2 ∨ x = nI 3 ∨ x = nI 4 ∨ x = nI 5 ∨ (x.toInt < 0 ∨ 5 < x.toInt) := by
  by_cases h : x.toInt < 0 ∨ 5 < x.toInt
  · exact Or.inr (Or.inr (Or.inr (Or.inr (Or.inr (Or.inr h)))))
  · have e : x = Int32.ofInt x.toInt := (Int32.ofInt_toInt x).symm
    have h2 : x.toInt = 0 ∨ x.toInt = 1 ∨ x.toInt = 2 ∨ x.toInt = 3 ∨ x.toInt = 4 ∨ x.toInt = 5 := by omega
    rcases h2 with h2 | h2 | h2 | h2 | h2 | h2 <;> rw [h2] at e <;> subst e <;> decide
theorem tab6_ne {x : Int32} (h : x.toInt < 0 ∨ 5 < x.toInt) : ¬ x = nI 0 ∧ ¬ x = nI 1 ∧ ¬ x = nI 2 ∧ ¬ x = nI 3 ∧ ¬ x = nI 4 ∧ ¬ x = nI 5 := by
  refine ⟨?_, ?_, ?_, ?_, ?_, ?_⟩ <;> (intro e; subst e; revert h; decide)
