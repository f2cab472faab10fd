/-! path in pure words -/
abbrev nfL (bF : Nat → Int32) (nF : Nat → Int64) (ec : Nat) (o : Int32) : Int64 := rL (scan (fun j => !decide (bF j = o)) ec 0) ec nF
theorem pnb_okC : ∀ (n : Nat) (z : Int64) (st : Nat) (f : Nat → Int32), (∀ j, okC (f j)) → ∀ j, okC ((pnb n z st f).2 j)
  | 0, z, st, f, h => h
  | n + 1, z, st, f, h => by
    show ∀ j, okC ((if z = lN 0 then (st, f) else pnb n (usI z) (st - 1) (upd f (st - 1) (chI z))).2 j)
    split
    · exact h
    · exact pnb_okC n _ _ _ (okC_upd h (okC_char _))
def pnS (z : Int64) (s : Nat) (f : Nat → Int32) : Nat := (pnb 6 z s f).1 - 1
def pnF (z : Int64) (s : Nat) (f : Nat → Int32) : Nat → Int32 := upd (pnb 6 z s f).2 ((pnb 6 z s f).1 - 1) (nI 47)
def ptL (pF rF cF : Nat → Int32) (vn : Nat) (nF : Nat → Int64) (bF : Nat → Int32) (ec : Nat) (ro : Int32) : Nat → Int32 → Nat → (Nat → Int32) → Option (Nat × (Nat → Int32))
  | 0, _, s, z => some (s, z)
  | n + 1, h, s, z => if h = ro then some (s, z) else if 40 < 60 - pnS (nfL bF nF ec (grdC rF cF vn 4 h)) s z then none else ptL pF rF cF vn nF bF ec ro n (abvC rF cF pF vn h ro) (pnS (nfL bF nF ec (grdC rF cF vn 4 h)) s z) (pnF (nfL bF nF ec (grdC rF cF vn 4 h)) s z)
section PT
variable {pF rF cF : Nat → Int32} {vn : Nat} {nF : Nat → Int64} {bF : Nat → Int32} {ec : Nat} {ro h : Int32} {n k s : Nat} {z : Nat → Int32}
theorem ptL_e (hk : n ≤ k) : ptL pF rF cF vn nF bF ec ro (n - k) h s z = some (s, z) := by rw [Nat.sub_eq_zero_of_le hk]; rfl
theorem ptL_r (hh : h = ro) : ptL pF rF cF vn nF bF ec ro n h s z = some (s, z) := by
  cases n with
  | zero => rfl
  | succ n => exact if_pos hh
theorem ptL_n (hk : k < n) (hh : ¬ h = ro) (hs : 40 < 60 - pnS (nfL bF nF ec (grdC rF cF vn 4 h)) s z) : ptL pF rF cF vn nF bF ec ro (n - k) h s z = none := by
  rw [show n - k = n - (k + 1) + 1 by omega]; unfold ptL; rw [if_neg hh, if_pos hs]
theorem ptL_s (hk : k < n) (hh : ¬ h = ro) (hs : ¬ 40 < 60 - pnS (nfL bF nF ec (grdC rF cF vn 4 h)) s z) : ptL pF rF cF vn nF bF ec ro (n - k) h s z = ptL pF rF cF vn nF bF ec ro (n - (k + 1)) (abvC rF cF pF vn h ro) (pnS (nfL bF nF ec (grdC rF cF vn 4 h)) s z) (pnF (nfL bF nF ec (grdC rF cF vn 4 h)) s z) := by
  rw [show n - k = n - (k + 1) + 1 by omega]; conv => lhs; unfold ptL
  rw [if_neg hh, if_neg hs]
end PT
def ptE (q : Nat × (Nat → Int32)) : Nat × (Nat → Int32) := if 60 ≤ q.1 then (59, upd q.2 59 (nI 47)) else q
def ptC (xn : Nat) (xf : Nat → Int32) (q : Option (Nat × (Nat → Int32))) : Int32 × Nat × (Nat → Int32) := match q with
  | none => (-5, xn, xf)
  | some q => (nI (60 - (ptE q).1), 60 - (ptE q).1, va_cpy (ptE q).2 xf (ptE q).1 0 (60 - (ptE q).1))
theorem cpy_a {z f : Nat → Int32} {s k : Nat} : upd (va_cpy z f s 0 k) k (z (s + k)) = va_cpy z f s 0 (k + 1) := by
  funext j
  unfold upd va_cpy
  by_cases hj : j = k
  · rw [if_pos hj, if_pos (by omega), hj, Nat.sub_zero]
  · rw [if_neg hj]
    by_cases hk : 0 ≤ j ∧ j < 0 + k
    · rw [if_pos hk, if_pos (by omega)]
    · rw [if_neg hk, if_neg (by omega)]
theorem cpy_n {z f : Nat → Int32} {s : Nat} : va_cpy z f s 0 0 = f := by funext j; unfold va_cpy; rw [if_neg (by omega)]
theorem path_end {xn : Nat} {xf : Nat → Int32} {q q2 : Option (Nat × (Nat → Int32))} {s1 : Nat} {z1 : Nat → Int32} {SS : Nat} {ZZ : Nat → Int32} (hR : q2 = q) (hq : q2 = some (s1, z1)) (h : (s1 < 60 ∧ SS = s1 ∧ ZZ = z1) ∨ (60 ≤ s1 ∧ SS = 59 ∧ ZZ = upd z1 59 (nI 47))) : (nI (60 - SS), 60 - SS, va_cpy ZZ xf SS 0 (60 - SS)) = ptC xn xf q := by
  subst hR; subst hq
  rcases h with ⟨h1, rfl, rfl⟩ | ⟨h1, rfl, rfl⟩
  · show _ = (nI (60 - (ptE (SS, ZZ)).1), 60 - (ptE (SS, ZZ)).1, va_cpy (ptE (SS, ZZ)).2 xf (ptE (SS, ZZ)).1 0 (60 - (ptE (SS, ZZ)).1))
    unfold ptE; rw [if_neg (by show ¬ 60 ≤ SS; omega)]
  · show _ = (nI (60 - (ptE (s1, z1)).1), 60 - (ptE (s1, z1)).1, va_cpy (ptE (s1, z1)).2 xf (ptE (s1, z1)).1 0 (60 - (ptE (s1, z1)).1))
    unfold ptE; rw [if_pos h1]
