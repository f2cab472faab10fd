/-! make of the reference in pure words -/
def mbR (sn : Nat) (kd mo : Int32) : Prop := ¬ kd < nI 1 ∧ ¬ nI 3 < kd ∧ (kd < nI 3 → ¬ mo < 0 ∧ ¬ nI 15 < mo) ∧ (kd = nI 3 → ¬ sn = 0)
noncomputable def mkR (kF mF oF pF rF cF xF : Nat → Int32) (vn : Nat) (dF : Nat → Int32) (nF : Nat → Int64) (bF : Nat → Int32) (ec : Nat) (LN : Nat → Nat) (us ro : Int32) (vF : Nat → Int32) (pr : Int32) (q : Nat → Int32) (n : Nat) (t : Nat → Int32) (sn : Nat) (sF : Nat → Int32) (kd mo : Int32) : Int32 × (Nat → Int32) × (Nat → Int32) × (Nat → Int32) × (Nat → Int32) × (Nat → Int32) × (Nat → Int32) × (Nat → Nat) × Nat × (Nat → Int32) × (Nat → Int64) × (Nat → Int32) := pI (mbR sn kd mo) (if nnR kF mF oF pF rF cF xF vn dF nF bF ec LN us ro pr q n t (if kd = nI 1 then nI 1 else nI 0) = nI 0 then (if lfN kF < 40 ∧ ¬ ec = 80 then (nI (lfN kF), upd kF (lfN kF) kd, upd mF (lfN kF) (if kd = nI 3 then nI 15 else mo), upd oF (lfN kF) us, upd vF (lfN kF) (vF (ix (cmT kF mF oF pF rF cF xF vn dF nF bF ec LN us ro pr q n t).2.1)), upd pF (lfN kF) (cmT kF mF oF pF rF cF xF vn dF nF bF ec LN us ro pr q n t).2.1, va_cpy sF xF 0 (40 * lfN kF) (if kd = nI 3 then sn else 0), va_up LN (lfN kF) (if kd = nI 3 then sn else 0), ec + 1, upd dF ec (cmT kF mF oF pF rF cF xF vn dF nF bF ec LN us ro pr q n t).2.1, vp_updL nF ec (cmT kF mF oF pF rF cF xF vn dF nF bF ec LN us ro pr q n t).2.2.1, upd bF ec (nI (lfN kF))) else (-10, kF, mF, oF, vF, pF, xF, LN, ec, dF, nF, bF)) else (nnR kF mF oF pF rF cF xF vn dF nF bF ec LN us ro pr q n t (if kd = nI 1 then nI 1 else nI 0), kF, mF, oF, vF, pF, xF, LN, ec, dF, nF, bF)) (-11, kF, mF, oF, vF, pF, xF, LN, ec, dF, nF, bF)
theorem upd_nI {L : Nat → Nat} {i v : Nat} : upd (fun lv => nI (L lv)) i (nI v) = (fun lv => nI (va_up L i v lv)) := by
  funext j; unfold upd va_up; split <;> rfl
theorem cpy_d {s f : Nat → Int32} {d k : Nat} : upd (va_cpy s f 0 d k) (d + k) (s k) = va_cpy s f 0 d (k + 1) := by
  funext j
  unfold upd va_cpy
  by_cases hj : j = d + k
  · rw [if_pos hj, if_pos (by omega)]; congr 1; omega
  · rw [if_neg hj]
    by_cases hk : d ≤ j ∧ j < d + k
    · rw [if_pos hk, if_pos (by omega)]
    · rw [if_neg hk, if_neg (by omega)]
theorem cpy_z {s f : Nat → Int32} {d : Nat} : va_cpy s f 0 d 0 = f := by funext j; unfold va_cpy; rw [if_neg (by omega)]
