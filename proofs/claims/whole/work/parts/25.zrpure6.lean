/-! the reference's public methods in pure words -/
noncomputable def nnR (kF mF oF pF rF cF xF : Nat → Int32) (vn : Nat) (dF : Nat → Int32) (nF : Nat → Int64) (bF : Nat → Int32) (ec : Nat) (LN : Nat → Nat) (us ro pr : Int32) (q : Nat → Int32) (n : Nat) (t : Nat → Int32) (ms : Int32) : Int32 := if n = 0 then -1 else pI (0 < n ∧ ∀ j, j < n → t j = nI 47) (-6) (if (cmT kF mF oF pF rF cF xF vn dF nF bF ec LN us ro pr q n t).1 = nI 0 then pI (((cmT kF mF oF pF rF cF xF vn dF nF bF ec LN us ro pr q n t).2.2.1 = lN 46 ∨ (cmT kF mF oF pF rF cF xF vn dF nF bF ec LN us ro pr q n t).2.2.1 = lN 5934) ∨ fndE dF nF (cmT kF mF oF pF rF cF xF vn dF nF bF ec LN us ro pr q n t).2.1 (cmT kF mF oF pF rF cF xF vn dF nF bF ec LN us ro pr q n t).2.2.1 ec < ec) (-6) (pI ((cmT kF mF oF pF rF cF xF vn dF nF bF ec LN us ro pr q n t).2.2.2 ∧ ms = 0) (-2) (pI (mayR us (mF (ix (cmT kF mF oF pF rF cF xF vn dF nF bF ec LN us ro pr q n t).2.1)) (oF (ix (cmT kF mF oF pF rF cF xF vn dF nF bF ec LN us ro pr q n t).2.1)) (nI 1)) (nI 0) (-3))) else (cmT kF mF oF pF rF cF xF vn dF nF bF ec LN us ro pr q n t).1)
theorem ns_of {n : Nat} {t : Nat → Int32} (h0 : 0 < n) (h : ¬ (0 < n ∧ ∀ j, j < n → t j = nI 47)) : nsQ n t := by
  apply Classical.byContradiction
  intro h2
  exact h ⟨h0, fun j hj => Classical.byContradiction (fun h3 => h2 ⟨j, hj, h3⟩)⟩
noncomputable def etR (kF mF oF : Nat → Int32) (us ro pr fj d : Int32) : Int32 × Int32 × Int32 := if d < 0 then (d, pr, ro) else if kF (ix d) = nI 1 then pI (mayR us (mF (ix d)) (oF (ix d)) (nI 0)) (d, d, if fj = 0 then ro else d) (-3, pr, ro) else (-2, pr, ro)
def chR (mF oF : Nat → Int32) (us mo d : Int32) : Int32 × (Nat → Int32) := if ¬ mo < 0 ∧ ¬ nI 15 < mo then (if d < 0 then (d, mF) else if us = 0 ∨ oF (ix d) = us then (mF (ix d), upd mF (ix d) mo) else (-3, mF)) else (-11, mF)
def iaR (rF cF pF : Nat → Int32) (vn : Nat) : Nat → Int32 → Int32 → Int32
  | 0, h, _ => h
  | n + 1, h, d => if h = d ∨ h = 0 then h else iaR rF cF pF vn n (abvR rF cF pF vn h (nI 0)) d
theorem iaR_e {rF cF pF : Nat → Int32} {vn n k : Nat} {h d : Int32} (hk : n ≤ k) : iaR rF cF pF vn (n - k) h d = h := by rw [Nat.sub_eq_zero_of_le hk]; rfl
theorem iaR_r {rF cF pF : Nat → Int32} {vn n : Nat} {h d : Int32} (hh : h = d ∨ h = 0) : iaR rF cF pF vn n h d = h := by
  cases n with
  | zero => rfl
  | succ n => exact if_pos hh
theorem iaR_s {rF cF pF : Nat → Int32} {vn n k : Nat} {h d : Int32} (hk : k < n) (h1 : ¬ h = d) (h2 : ¬ h = 0) : iaR rF cF pF vn (n - k) h d = iaR rF cF pF vn (n - (k + 1)) (abvR rF cF pF vn h (nI 0)) d := by
  rw [show n - k = n - (k + 1) + 1 by omega]; exact if_neg (fun h => h.elim h1 h2)
def mtR (kF pF rF cF : Nat → Int32) (vn : Nat) (us ro pr v d : Int32) : Int32 × (Nat → Int32) := if ¬ v < nI 1 ∧ v < nI vn then (if us = 0 then (if cF (ix v) < 0 then (if d < 0 then (d, cF) else if kF (ix d) = nI 1 then (if iaR rF cF pF vn 50 ro d = d ∨ iaR rF cF pF vn 50 pr d = d then (-7, cF) else (d, upd cF (ix v) d)) else (-2, cF)) else (-7, cF)) else (-3, cF)) else (-11, cF)
theorem v_in4' {v : Int32} {vn : Nat} (h1 : ¬ v < nI 1) (h2 : v < nI vn) (hv : vn ≤ 4) : vp_in v 4 := by
  refine v_in4 (vn := vn) ⟨?_, h2⟩ hv
  have h3 := Int32.le_iff_toInt_le.mp (Int32.not_lt.mp h1)
  rw [nI_toInt (by decide)] at h3
  refine Int32.lt_iff_toInt_lt.mpr ?_
  rw [Int32.toInt_zero]; omega
/-- is some volume below k, that covers something, upon the volume w -/
def bsR (cF vF : Nat → Int32) (w : Int32) (P : Prop) : Nat → Prop
  | 0 => P
  | k + 1 => bsR cF vF w P k ∨ (1 ≤ k ∧ ¬ cF k < 0 ∧ vF (ix (cF k)) = w)
noncomputable def umR (vF rF cF : Nat → Int32) (vn : Nat) (us ro pr d : Int32) : Int32 × (Nat → Int32) := if us = 0 then (if d < 0 then (d, cF) else if mwR rF cF d vn = 0 then (-11, cF) else pI (bsR cF vF (nI (mwR rF cF d vn)) (vF (ix ro) = nI (mwR rF cF d vn) ∨ vF (ix pr) = nI (mwR rF cF d vn)) vn) (-7, cF) (nI (mwR rF cF d vn), upd cF (mwR rF cF d vn) (-1))) else (-3, cF)
def volR (kF mF oF vF pF rF : Nat → Int32) (vn : Nat) : Int32 × (Nat → Int32) × (Nat → Int32) × (Nat → Int32) × (Nat → Int32) × (Nat → Int32) × (Nat → Int32) × Nat := if lfN kF < 40 ∧ vn < 4 then (nI vn, upd kF (lfN kF) (nI 1), upd mF (lfN kF) (nI 15), upd oF (lfN kF) (nI 0), upd vF (lfN kF) (nI vn), upd pF (lfN kF) (nI (lfN kF)), upd rF vn (nI (lfN kF)), vn + 1) else (-10, kF, mF, oF, vF, pF, rF, vn)
def abR (kF mF oF vF dF bF cF : Nat → Int32) (ec vn : Nat) (i w : Int32) : Int32 := if ¬ knC kF i = nI 0 ∧ ¬ w < 0 ∧ ¬ nI 5 < w then (if nI 2 < w then (if w = nI 3 then nI (cntB (fun j => decide (bF j = i)) ec) else if w = nI 4 then nI (cntB (fun j => decide (dF j = i)) ec) else nI (cvR cF i vn)) else if w = 0 then mF (ix i) else if w = nI 1 then oF (ix i) else vF (ix i)) else -11
/-- the reference's search of the k-th entry: it counts down -/
def ntR (dF : Nat → Int32) (i : Int32) : Nat → Nat → Int32 → Nat
  | 0, k, _ => k
  | n + 1, k, b => if dF k = i then (if b = 0 then k else ntR dF i n (k + 1) (b - nI 1)) else ntR dF i n (k + 1) b
theorem ntR_e {dF : Nat → Int32} {i b : Int32} {n k : Nat} (h : n ≤ k) : ntR dF i (n - k) k b = k := by rw [Nat.sub_eq_zero_of_le h]; rfl
theorem ntR_t {dF : Nat → Int32} {i b : Int32} {n k : Nat} (hk : k < n) (h : dF k = i) (hb : b = 0) : ntR dF i (n - k) k b = k := by
  rw [show n - k = n - (k + 1) + 1 by omega]; unfold ntR; rw [if_pos h, if_pos hb]
theorem ntR_n {dF : Nat → Int32} {i b : Int32} {n k : Nat} (hk : k < n) (h : dF k = i) (hb : ¬ b = 0) : ntR dF i (n - k) k b = ntR dF i (n - (k + 1)) (k + 1) (b - nI 1) := by
  rw [show n - k = n - (k + 1) + 1 by omega]; conv => lhs; unfold ntR
  rw [if_pos h, if_neg hb]
theorem ntR_f {dF : Nat → Int32} {i b : Int32} {n k : Nat} (hk : k < n) (h : ¬ dF k = i) : ntR dF i (n - k) k b = ntR dF i (n - (k + 1)) (k + 1) b := by
  rw [show n - k = n - (k + 1) + 1 by omega]; conv => lhs; unfold ntR
  rw [if_neg h]
def enR (kF dF bF : Nat → Int32) (ec : Nat) (i k : Int32) : Int32 := if ¬ knC kF i = nI 0 ∧ ¬ k < 0 then (if ntR dF i ec 0 k < ec then bF (ntR dF i ec 0 k) else -1) else -1
