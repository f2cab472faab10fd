/-! the whole walk of the class, in pure words -/
abbrev sk (f : Nat → Int32) (st : Nat) : Nat := scan (isS f) (60 - st) st
abbrev eN (f : Nat → Int32) (st : Nat) : Nat := scan (noS f) (60 - st) st
abbrev nmA (f : Nat → Int32) (st : Nat) : Int64 := nmC f (eN f st - st) st (lN 0)
abbrev laA (f : Nat → Int32) (st : Nat) : Prop := scan (isS f) (60 - st) st = 60
noncomputable def stQ (kF pF rF cF : Nat → Int32) (vn : Nat) (dF : Nat → Int32) (nF : Nat → Int64) (bF : Nat → Int32) (ec : Nat) (LN : Nat → Nat) (LF : Nat → Nat → Int32) (ro fo : Int32) (f : Nat → Int32) (s1 : Nat) (wa : Int32) (hp : Nat) : Int32 × Nat × (Nat → Int32) × Int32 × Nat := pnC kF LN LF (nxC rF cF pF vn dF nF bF ec wa ro (nmA f s1)) (eN f s1) f wa ro hp (laA f (eN f s1)) (eN f s1 < 60) fo
noncomputable def thrR (kF mF oF pF rF cF : Nat → Int32) (vn : Nat) (dF : Nat → Int32) (nF : Nat → Int64) (bF : Nat → Int32) (ec : Nat) (LN : Nat → Nat) (LF : Nat → Nat → Int32) (us ro fo : Int32) : Nat → Nat → (Nat → Int32) → Int32 → Nat → Int32
  | 0, _, _, wa, _ => wa
  | n + 1, st, f, wa, hp => if sk f st < 60 then (if tkR kF mF oF us wa (eN f (sk f st) - sk f st) = nI 0 then (if (stQ kF pF rF cF vn dF nF bF ec LN LF ro fo f (sk f st) wa hp).1 = nI 0 then thrR kF mF oF pF rF cF vn dF nF bF ec LN LF us ro fo n (stQ kF pF rF cF vn dF nF bF ec LN LF ro fo f (sk f st) wa hp).2.1 (stQ kF pF rF cF vn dF nF bF ec LN LF ro fo f (sk f st) wa hp).2.2.1 (stQ kF pF rF cF vn dF nF bF ec LN LF ro fo f (sk f st) wa hp).2.2.2.1 (stQ kF pF rF cF vn dF nF bF ec LN LF ro fo f (sk f st) wa hp).2.2.2.2 else (stQ kF pF rF cF vn dF nF bF ec LN LF ro fo f (sk f st) wa hp).1) else tkR kF mF oF us wa (eN f (sk f st) - sk f st)) else wa
noncomputable def tlnR (kF mF oF pF rF cF : Nat → Int32) (vn : Nat) (dF : Nat → Int32) (nF : Nat → Int64) (bF : Nat → Int32) (ec : Nat) (LN : Nat → Nat) (LF : Nat → Nat → Int32) (us ro : Int32) : Nat → Nat → (Nat → Int32) → Int32 → Nat → Int32 × Int32 × Int64 × Prop
  | 0, _, _, _, _ => (-1, nI 0, lN 0, False)
  | n + 1, st, f, wa, hp => if sk f st < 60 then (if tkR kF mF oF us wa (eN f (sk f st) - sk f st) = nI 0 then (pI (laA f (eN f (sk f st))) (nI 0, wa, nmA f (sk f st), (eN f (sk f st) < 60)) (if (stQ kF pF rF cF vn dF nF bF ec LN LF ro (nI 1) f (sk f st) wa hp).1 = nI 0 then tlnR kF mF oF pF rF cF vn dF nF bF ec LN LF us ro n (stQ kF pF rF cF vn dF nF bF ec LN LF ro (nI 1) f (sk f st) wa hp).2.1 (stQ kF pF rF cF vn dF nF bF ec LN LF ro (nI 1) f (sk f st) wa hp).2.2.1 (stQ kF pF rF cF vn dF nF bF ec LN LF ro (nI 1) f (sk f st) wa hp).2.2.2.1 (stQ kF pF rF cF vn dF nF bF ec LN LF ro (nI 1) f (sk f st) wa hp).2.2.2.2 else ((stQ kF pF rF cF vn dF nF bF ec LN LF ro (nI 1) f (sk f st) wa hp).1, nI 0, lN 0, False))) else (tkR kF mF oF us wa (eN f (sk f st) - sk f st), nI 0, lN 0, False)) else (-1, nI 0, lN 0, False)
section TH
variable {kF mF oF pF rF cF : Nat → Int32} {vn : Nat} {dF : Nat → Int32} {nF : Nat → Int64} {bF : Nat → Int32} {ec : Nat} {LN : Nat → Nat} {LF : Nat → Nat → Int32} {us ro fo : Int32} {n k st : Nat} {f : Nat → Int32} {wa : Int32} {hp : Nat}
theorem thrR_e (h : n ≤ k) : thrR kF mF oF pF rF cF vn dF nF bF ec LN LF us ro fo (n - k) st f wa hp = wa := by rw [Nat.sub_eq_zero_of_le h]; rfl
theorem thrR_0 (hs : 60 ≤ sk f st) : thrR kF mF oF pF rF cF vn dF nF bF ec LN LF us ro fo n st f wa hp = wa := by
  cases n with
  | zero => rfl
  | succ n => unfold thrR; rw [if_neg (Nat.not_lt.mpr hs)]
theorem thrR_t (hk : k < n) (hs : sk f st < 60) (ht : ¬ tkR kF mF oF us wa (eN f (sk f st) - sk f st) = nI 0) : thrR kF mF oF pF rF cF vn dF nF bF ec LN LF us ro fo (n - k) st f wa hp = tkR kF mF oF us wa (eN f (sk f st) - sk f st) := by
  rw [show n - k = n - (k + 1) + 1 by omega]; unfold thrR; rw [if_pos hs, if_neg ht]
theorem thrR_q {r0 a2 : Int32} {s2 h2 : Nat} {f2 : Nat → Int32} (hk : k < n) (hs : sk f st < 60) (ht : tkR kF mF oF us wa (eN f (sk f st) - sk f st) = nI 0) (hq : (r0, s2, f2, a2, h2) = stQ kF pF rF cF vn dF nF bF ec LN LF ro fo f (sk f st) wa hp) (h0 : ¬ r0 = nI 0) : thrR kF mF oF pF rF cF vn dF nF bF ec LN LF us ro fo (n - k) st f wa hp = r0 := by
  rw [show n - k = n - (k + 1) + 1 by omega]; unfold thrR; rw [if_pos hs, if_pos ht, ← hq, if_neg h0]
theorem thrR_s {r0 a2 : Int32} {s2 h2 : Nat} {f2 : Nat → Int32} (hk : k < n) (hs : sk f st < 60) (ht : tkR kF mF oF us wa (eN f (sk f st) - sk f st) = nI 0) (hq : (r0, s2, f2, a2, h2) = stQ kF pF rF cF vn dF nF bF ec LN LF ro fo f (sk f st) wa hp) (h0 : r0 = nI 0) : thrR kF mF oF pF rF cF vn dF nF bF ec LN LF us ro fo (n - k) st f wa hp = thrR kF mF oF pF rF cF vn dF nF bF ec LN LF us ro fo (n - (k + 1)) s2 f2 a2 h2 := by
  rw [show n - k = n - (k + 1) + 1 by omega]; conv => lhs; unfold thrR
  rw [if_pos hs, if_pos ht, ← hq, if_pos h0]
theorem tlnR_e (h : n ≤ k) : tlnR kF mF oF pF rF cF vn dF nF bF ec LN LF us ro (n - k) st f wa hp = (-1, nI 0, lN 0, False) := by rw [Nat.sub_eq_zero_of_le h]; rfl
theorem tlnR_0 (hs : 60 ≤ sk f st) : tlnR kF mF oF pF rF cF vn dF nF bF ec LN LF us ro n st f wa hp = (-1, nI 0, lN 0, False) := by
  cases n with
  | zero => rfl
  | succ n => unfold tlnR; rw [if_neg (Nat.not_lt.mpr hs)]
theorem tlnR_t (hk : k < n) (hs : sk f st < 60) (ht : ¬ tkR kF mF oF us wa (eN f (sk f st) - sk f st) = nI 0) : tlnR kF mF oF pF rF cF vn dF nF bF ec LN LF us ro (n - k) st f wa hp = (tkR kF mF oF us wa (eN f (sk f st) - sk f st), nI 0, lN 0, False) := by
  rw [show n - k = n - (k + 1) + 1 by omega]; unfold tlnR; rw [if_pos hs, if_neg ht]
theorem tlnR_l (hk : k < n) (hs : sk f st < 60) (ht : tkR kF mF oF us wa (eN f (sk f st) - sk f st) = nI 0) (hl : laA f (eN f (sk f st))) : tlnR kF mF oF pF rF cF vn dF nF bF ec LN LF us ro (n - k) st f wa hp = (nI 0, wa, nmA f (sk f st), (eN f (sk f st) < 60)) := by
  rw [show n - k = n - (k + 1) + 1 by omega]; unfold tlnR; rw [if_pos hs, if_pos ht, pI_t hl]
theorem tlnR_q {r0 a2 : Int32} {s2 h2 : Nat} {f2 : Nat → Int32} (hk : k < n) (hs : sk f st < 60) (ht : tkR kF mF oF us wa (eN f (sk f st) - sk f st) = nI 0) (hl : ¬ laA f (eN f (sk f st))) (hq : (r0, s2, f2, a2, h2) = stQ kF pF rF cF vn dF nF bF ec LN LF ro (nI 1) f (sk f st) wa hp) (h0 : ¬ r0 = nI 0) : tlnR kF mF oF pF rF cF vn dF nF bF ec LN LF us ro (n - k) st f wa hp = (r0, nI 0, lN 0, False) := by
  rw [show n - k = n - (k + 1) + 1 by omega]; unfold tlnR; rw [if_pos hs, if_pos ht, pI_f hl, ← hq, if_neg h0]
theorem tlnR_s {r0 a2 : Int32} {s2 h2 : Nat} {f2 : Nat → Int32} (hk : k < n) (hs : sk f st < 60) (ht : tkR kF mF oF us wa (eN f (sk f st) - sk f st) = nI 0) (hl : ¬ laA f (eN f (sk f st))) (hq : (r0, s2, f2, a2, h2) = stQ kF pF rF cF vn dF nF bF ec LN LF ro (nI 1) f (sk f st) wa hp) (h0 : r0 = nI 0) : tlnR kF mF oF pF rF cF vn dF nF bF ec LN LF us ro (n - k) st f wa hp = tlnR kF mF oF pF rF cF vn dF nF bF ec LN LF us ro (n - (k + 1)) s2 f2 a2 h2 := by
  rw [show n - k = n - (k + 1) + 1 by omega]; conv => lhs; unfold tlnR
  rw [if_pos hs, if_pos ht, pI_f hl, ← hq, if_pos h0]
end TH
/-- what the walk keeps of its own numbers -/
theorem plC_ok {st : Nat} {f : Nat → Int32} {n : Nat} {fl : Nat → Int32} {wa ro : Int32} {hp : Nat} (hs : st ≤ 60) (hf : ∀ j, okC (f j)) (hfl : ∀ j, okC (fl j)) (hwa : vp_in wa 40) (hro : vp_in ro 40) : (plC st f n fl wa ro hp).2.1 ≤ 60 ∧ (∀ j, okC ((plC st f n fl wa ro hp).2.2.1 j)) ∧ vp_in (plC st f n fl wa ro hp).2.2.2 40 ∧ ((plC st f n fl wa ro hp).1 = nI 0 → hp + 1 ≤ 8) := by
  unfold plC
  split
  · exact ⟨hs, hf, hwa, fun h => absurd (show (-4 : Int32) = nI 0 from h) (by decide)⟩
  · split
    · refine ⟨by show st - n ≤ 60; omega, okC_cpy hfl hf, ?_, fun _ => by omega⟩
      show vp_in (if fl 0 = nI 47 then ro else wa) 40
      split
      · exact hro
      · exact hwa
    · exact ⟨hs, hf, hwa, fun _ => by omega⟩
theorem pnC_ok {kF : Nat → Int32} {LN : Nat → Nat} {LF : Nat → Nat → Int32} {nx : Int32} {st : Nat} {f : Nat → Int32} {wa ro : Int32} {hp : Nat} {la sl : Prop} {fo : Int32} {r0 a2 : Int32} {s2 h2 : Nat} {f2 : Nat → Int32} (hq : (r0, s2, f2, a2, h2) = pnC kF LN LF nx st f wa ro hp la sl fo) (hs : st ≤ 60) (hf : ∀ j, okC (f j)) (hLF : kF (ix nx) = nI 3 → ∀ j, okC (LF (ix nx) j)) (hwa : vp_in wa 40) (hro : vp_in ro 40) (hnx : nx = -1 ∨ vp_in nx 40) (hp8 : hp ≤ 8) : s2 ≤ 60 ∧ (∀ j, okC (f2 j)) ∧ vp_in a2 40 ∧ (r0 = nI 0 → h2 ≤ 8) := by
  unfold pnC at hq
  by_cases h1 : nx = -1
  · rw [if_pos h1] at hq; cases hq; exact ⟨hs, hf, hwa, fun _ => hp8⟩
  · rw [if_neg h1] at hq
    by_cases h2 : kF (ix nx) = nI 3 ∧ (¬ la ∨ sl ∨ ¬ fo = 0)
    · rw [pI_t h2] at hq
      have := plC_ok (n := LN (ix nx)) (ro := ro) (hp := hp) hs hf (hLF h2.1) hwa hro
      cases hq
      exact this
    · rw [pI_f h2] at hq; cases hq
      exact ⟨hs, hf, hnx.resolve_left h1, fun _ => hp8⟩
theorem vp_bgA {fl : Nat → Int32} {ro pr : Int32} (h1 : vp_in ro 40) (h2 : vp_in pr 40) : vp_in (bgA fl ro pr) 40 := by
  unfold bgA; split
  · exact h1
  · exact h2
theorem kneg {kF : Nat → Int32} (h : ¬ kF 0 = nI 3) : ¬ kF (ix (-1)) = nI 3 := h
theorem tkR_neg {kF mF oF : Nat → Int32} {us wa : Int32} {n : Nat} (h : ¬ tkR kF mF oF us wa n = nI 0) : tkR kF mF oF us wa n < 0 := by
  unfold tkR at h ⊢
  by_cases h1 : kF (ix wa) = nI 1
  · rw [if_pos h1] at h ⊢
    by_cases h2 : mayP us (mF (ix wa)) (oF (ix wa)) (nI 1)
    · rw [pI_t h2] at h ⊢
      by_cases h3 : 6 < n
      · rw [if_pos h3]; decide
      · rw [if_neg h3] at h; exact absurd rfl h
    · rw [pI_f h2]; decide
  · rw [if_neg h1]; decide
theorem pnC_neg {kF : Nat → Int32} {LN : Nat → Nat} {LF : Nat → Nat → Int32} {nx : Int32} {st : Nat} {f : Nat → Int32} {wa ro : Int32} {hp : Nat} {la sl : Prop} {fo : Int32} {r0 a2 : Int32} {s2 h2 : Nat} {f2 : Nat → Int32} (hq : (r0, s2, f2, a2, h2) = pnC kF LN LF nx st f wa ro hp la sl fo) (h0 : ¬ r0 = nI 0) : r0 < 0 := by
  unfold pnC at hq
  by_cases h1 : nx = -1
  · rw [if_pos h1] at hq; cases hq; decide
  · rw [if_neg h1] at hq
    by_cases h2 : kF (ix nx) = nI 3 ∧ (¬ la ∨ sl ∨ ¬ fo = 0)
    · rw [pI_t h2] at hq
      unfold plC at hq
      by_cases h3 : 8 < hp + 1
      · rw [if_pos h3] at hq; cases hq; exact (by decide : (-4 : Int32) < 0)
      · rw [if_neg h3] at hq
        by_cases h4 : LN (ix nx) ≤ st
        · rw [if_pos h4] at hq; cases hq; exact absurd rfl h0
        · rw [if_neg h4] at hq; cases hq; exact (by decide : (-5 : Int32) < 0)
    · rw [pI_f h2] at hq
      by_cases h3 : sl ∧ ¬ kF (ix nx) = nI 1
      · rw [pI_t h3] at hq; cases hq; decide
      · rw [pI_f h3] at hq; cases hq; exact absurd rfl h0
/-- a text walked through -/
noncomputable def thrT (kF mF oF pF rF cF : Nat → Int32) (vn : Nat) (dF : Nat → Int32) (nF : Nat → Int64) (bF : Nat → Int32) (ec : Nat) (LN : Nat → Nat) (LF : Nat → Nat → Int32) (us ro pr fo : Int32) (f : Nat → Int32) (n : Nat) (fl : Nat → Int32) : Int32 := if n = 0 then -1 else thrR kF mF oF pF rF cF vn dF nF bF ec LN LF us ro fo 1000 (60 - n) (va_cpy fl f 0 (60 - n) n) (bgA fl ro pr) 0
noncomputable def tlnT (kF mF oF pF rF cF : Nat → Int32) (vn : Nat) (dF : Nat → Int32) (nF : Nat → Int64) (bF : Nat → Int32) (ec : Nat) (LN : Nat → Nat) (LF : Nat → Nat → Int32) (us ro pr : Int32) (f : Nat → Int32) (n : Nat) (fl : Nat → Int32) : Int32 × Int32 × Int64 × Prop := tlnR kF mF oF pF rF cF vn dF nF bF ec LN LF us ro 1000 (60 - n) (va_cpy fl f 0 (60 - n) n) (bgA fl ro pr) 0
