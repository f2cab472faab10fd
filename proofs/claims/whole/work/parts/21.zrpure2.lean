noncomputable def agR (kF mF oF : Nat → Int32) (us wa : Int32) (ns : Nat) : Int32 := if kF (ix wa) = nI 1 then pI (mayR us (mF (ix wa)) (oF (ix wa)) (nI 0)) (if 6 < ns then -5 else nI 0) (-3) else -2
def bgR (t : Nat → Int32) (n : Nat) (ro pr : Int32) : Int32 := if 0 < n ∧ t 0 = nI 47 then ro else pr
theorem cpy_00 {f g : Nat → Int32} {n : Nat} (h : 0 < n) : va_cpy f g 0 0 n 0 = f 0 := by unfold va_cpy; rw [if_pos (by omega)]
theorem knC_v {kF : Nat → Int32} {i : Int32} (h : ¬ knC kF i = nI 0) : knC kF i = kF (ix i) := by
  unfold knC at h ⊢
  split at h
  · rename_i h1; rw [if_pos h1]
  · exact absurd rfl h
