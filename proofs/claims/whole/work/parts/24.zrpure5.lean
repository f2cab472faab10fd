/-! the reference's way to the last name -/
abbrev laQ (qn : Nat) (qF : Nat → Int32) : Prop := ∀ i, i < qn - scan (noS qF) qn 0 → drF qF (scan (noS qF) qn 0) (qn - scan (noS qF) qn 0) i = nI 47
abbrev slN (qn : Nat) (qF : Nat → Int32) : Nat := scan (isS qF) qn 0
abbrev slF (qn : Nat) (qF : Nat → Int32) : Nat → Int32 := drF qF (scan (isS qF) qn 0) (qn - scan (isS qF) qn 0)
noncomputable def cmR (kF mF oF pF rF cF xF : Nat → Int32) (vn : Nat) (dF : Nat → Int32) (nF : Nat → Int64) (bF : Nat → Int32) (ec : Nat) (LN : Nat → Nat) (us ro : Int32) : Nat → Nat → (Nat → Int32) → Int32 → Nat → Int32 × Int32 × Int64 × Prop
  | 0, _, _, _, _ => (-1, nI 0, lN 0, False)
  | m + 1, qn, qF, wa, hp => if agR kF mF oF us wa (eQ (qn - slN qn qF) (slF qn qF)) = nI 0 then pI (laQ (qn - slN qn qF) (slF qn qF)) (nI 0, wa, nmR (slF qn qF) (eQ (qn - slN qn qF) (slF qn qF)) 0 (lN 0), (0 < qn - slN qn qF - eQ (qn - slN qn qF) (slF qn qF))) (if (sQ kF pF rF cF xF vn dF nF bF ec LN ro (nI 1) (qn - slN qn qF) (slF qn qF) wa hp).1 = nI 0 then cmR kF mF oF pF rF cF xF vn dF nF bF ec LN us ro m (sQ kF pF rF cF xF vn dF nF bF ec LN ro (nI 1) (qn - slN qn qF) (slF qn qF) wa hp).2.1 (sQ kF pF rF cF xF vn dF nF bF ec LN ro (nI 1) (qn - slN qn qF) (slF qn qF) wa hp).2.2.1 (sQ kF pF rF cF xF vn dF nF bF ec LN ro (nI 1) (qn - slN qn qF) (slF qn qF) wa hp).2.2.2.1 (sQ kF pF rF cF xF vn dF nF bF ec LN ro (nI 1) (qn - slN qn qF) (slF qn qF) wa hp).2.2.2.2 else ((sQ kF pF rF cF xF vn dF nF bF ec LN ro (nI 1) (qn - slN qn qF) (slF qn qF) wa hp).1, nI 0, lN 0, False)) else (agR kF mF oF us wa (eQ (qn - slN qn qF) (slF qn qF)), nI 0, lN 0, False)
section CM
variable {kF mF oF pF rF cF xF : Nat → Int32} {vn : Nat} {dF : Nat → Int32} {nF : Nat → Int64} {bF : Nat → Int32} {ec : Nat} {LN : Nat → Nat} {us ro : Int32} {m qn : Nat} {qF : Nat → Int32} {wa : Int32} {hp : Nat}
theorem cmR_a (hm : 0 < m) (ha : ¬ agR kF mF oF us wa (eQ (qn - slN qn qF) (slF qn qF)) = nI 0) : cmR kF mF oF pF rF cF xF vn dF nF bF ec LN us ro m qn qF wa hp = (agR kF mF oF us wa (eQ (qn - slN qn qF) (slF qn qF)), nI 0, lN 0, False) := by
  obtain ⟨m, rfl⟩ : ∃ k, m = k + 1 := ⟨m - 1, by omega⟩
  unfold cmR; rw [if_neg ha]
theorem cmR_l (hm : 0 < m) (ha : agR kF mF oF us wa (eQ (qn - slN qn qF) (slF qn qF)) = nI 0) (hl : laQ (qn - slN qn qF) (slF qn qF)) : cmR kF mF oF pF rF cF xF vn dF nF bF ec LN us ro m qn qF wa hp = (nI 0, wa, nmR (slF qn qF) (eQ (qn - slN qn qF) (slF qn qF)) 0 (lN 0), (0 < qn - slN qn qF - eQ (qn - slN qn qF) (slF qn qF))) := by
  obtain ⟨m, rfl⟩ : ∃ k, m = k + 1 := ⟨m - 1, by omega⟩
  unfold cmR; rw [if_pos ha, pI_t hl]
theorem cmR_q {r0 a2 : Int32} {s2 h2 : Nat} {f2 : Nat → Int32} (hm : 0 < m) (ha : agR kF mF oF us wa (eQ (qn - slN qn qF) (slF qn qF)) = nI 0) (hl : ¬ laQ (qn - slN qn qF) (slF qn qF)) (hq : (r0, s2, f2, a2, h2) = sQ kF pF rF cF xF vn dF nF bF ec LN ro (nI 1) (qn - slN qn qF) (slF qn qF) wa hp) (h0 : ¬ r0 = nI 0) : cmR kF mF oF pF rF cF xF vn dF nF bF ec LN us ro m qn qF wa hp = (r0, nI 0, lN 0, False) := by
  obtain ⟨m, rfl⟩ : ∃ k, m = k + 1 := ⟨m - 1, by omega⟩
  unfold cmR; rw [if_pos ha, pI_f hl, ← hq, if_neg h0]
theorem cmR_s {r0 a2 : Int32} {s2 h2 : Nat} {f2 : Nat → Int32} (hm : 0 < m) (ha : agR kF mF oF us wa (eQ (qn - slN qn qF) (slF qn qF)) = nI 0) (hl : ¬ laQ (qn - slN qn qF) (slF qn qF)) (hq : (r0, s2, f2, a2, h2) = sQ kF pF rF cF xF vn dF nF bF ec LN ro (nI 1) (qn - slN qn qF) (slF qn qF) wa hp) (h0 : r0 = nI 0) : cmR kF mF oF pF rF cF xF vn dF nF bF ec LN us ro m qn qF wa hp = cmR kF mF oF pF rF cF xF vn dF nF bF ec LN us ro (m - 1) s2 f2 a2 h2 := by
  obtain ⟨m, rfl⟩ : ∃ k, m = k + 1 := ⟨m - 1, by omega⟩
  rw [Nat.add_sub_cancel]; conv => lhs; unfold cmR
  rw [if_pos ha, pI_f hl, ← hq, if_pos h0]
end CM
noncomputable def cmT (kF mF oF pF rF cF xF : Nat → Int32) (vn : Nat) (dF : Nat → Int32) (nF : Nat → Int64) (bF : Nat → Int32) (ec : Nat) (LN : Nat → Nat) (us ro pr : Int32) (q : Nat → Int32) (n : Nat) (t : Nat → Int32) : Int32 × Int32 × Int64 × Prop := cmR kF mF oF pF rF cF xF vn dF nF bF ec LN us ro 1000 n (va_cpy t q 0 0 n) (bgR t n ro pr) 0
/-- something else than a slash stands in the rest -/
abbrev nsQ (qn : Nat) (qF : Nat → Int32) : Prop := ∃ i, i < qn ∧ ¬ qF i = nI 47
theorem ns_cpy {t q : Nat → Int32} {n : Nat} (h : nsQ n t) : nsQ n (va_cpy t q 0 0 n) := by
  obtain ⟨i, hi, h⟩ := h
  refine ⟨i, hi, ?_⟩
  unfold va_cpy; rw [if_pos (by omega), Nat.sub_zero, Nat.zero_add]; exact h
theorem ns_pos {n : Nat} {q : Nat → Int32} (h : nsQ n q) : 0 < n - scan (isS q) n 0 := by
  obtain ⟨i, hi, h⟩ := h
  have a := scan_le (p := isS q) n 0
  rcases Nat.lt_or_ge i (scan (isS q) n 0) with h2 | h2
  · have := scan_in (p := isS q) n 0 i (Nat.zero_le i) h2
    exact absurd (by simpa using this) h
  · omega
theorem ns_la {n : Nat} {q : Nat → Int32} (h : ¬ laQ n q) : nsQ (n - scan (noS q) n 0) (drF q (scan (noS q) n 0) (n - scan (noS q) n 0)) := by
  apply Classical.byContradiction
  intro h2
  exact h (fun i hi => Classical.byContradiction (fun h3 => h2 ⟨i, hi, h3⟩))
theorem ns_st {kF xF : Nat → Int32} {LN : Nat → Nat} {nx : Int32} {qn : Nat} {qF : Nat → Int32} {wa ro : Int32} {hp : Nat} {la sl : Prop} {fo : Int32} {r0 a2 : Int32} {s2 h2 : Nat} {f2 : Nat → Int32} (hq : (r0, s2, f2, a2, h2) = stR kF xF LN nx qn qF wa ro hp la sl fo) (h0 : r0 = nI 0) (h : nsQ qn qF) : nsQ s2 f2 := by
  unfold stR at hq
  by_cases h1 : nx = -1
  · rw [if_pos h1] at hq; cases hq; exact h
  · rw [if_neg h1] at hq
    by_cases h2 : kF (ix nx) = nI 3 ∧ (¬ la ∨ sl ∨ ¬ fo = 0)
    · rw [pI_t h2] at hq
      by_cases h3 : 8 < hp + 1
      · rw [if_pos h3] at hq; cases hq; exact h
      · rw [if_neg h3] at hq
        by_cases h4 : 60 < qn + LN (ix nx)
        · rw [if_pos h4] at hq; cases hq; exact absurd h0 (by decide)
        · rw [if_neg h4] at hq; cases hq
          obtain ⟨i, hi, h⟩ := h
          refine ⟨i + LN (ix nx), by omega, ?_⟩
          unfold pbF va_cpy
          rw [if_neg (by omega)]
          unfold shu
          rw [if_pos (by omega), Nat.add_sub_cancel]
          exact h
    · rw [pI_f h2] at hq; cases hq; exact h
