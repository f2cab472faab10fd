noncomputable def wkT (kF mF oF pF rF cF xF : Nat → Int32) (vn : Nat) (dF : Nat → Int32) (nF : Nat → Int64) (bF : Nat → Int32) (ec : Nat) (LN : Nat → Nat) (us ro pr fo : Int32) (q : Nat → Int32) (n : Nat) (t : Nat → Int32) : Int32 := if n = 0 then -1 else wkR kF mF oF pF rF cF xF vn dF nF bF ec LN us ro fo 1000 (n - scan (isS (va_cpy t q 0 0 n)) n 0) (drF (va_cpy t q 0 0 n) (scan (isS (va_cpy t q 0 0 n)) n 0) (n - scan (isS (va_cpy t q 0 0 n)) n 0)) (bgR t n ro pr) 0
theorem vp_bgR {t : Nat → Int32} {n : Nat} {ro pr : Int32} (h1 : vp_in ro 40) (h2 : vp_in pr 40) : vp_in (bgR t n ro pr) 40 := by
  unfold bgR; split
  · exact h1
  · exact h2
