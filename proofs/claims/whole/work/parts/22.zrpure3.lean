/-! the reference's walk in pure words -/
theorem rI_nn {j n : Nat} (h : 0 ≤ rI j n) : j < n := by
  by_cases h2 : j < n
  · exact h2
  · rw [rI_f (by omega)] at h; exact absurd h (by decide)
theorem rI_ng {j n : Nat} (h : ¬ 0 ≤ rI j n) (hn : n < 2 ^ 31) : n ≤ j := by
  by_cases h2 : j < n
  · rw [rI_t h2] at h; exact absurd (nI_pos' (by omega)) h
  · omega
def nxR (rF cF pF : Nat → Int32) (vn : Nat) (dF : Nat → Int32) (nF : Nat → Int64) (bF : Nat → Int32) (ec : Nat) (wa ro : Int32) (nm : Int64) : Int32 := if nm = lN 5934 then abvR rF cF pF vn wa ro else if nm = lN 46 then wa else if fndE dF nF wa nm ec < ec then topR rF cF vn 5 (bF (fndE dF nF wa nm ec)) else -1
abbrev pbF (xF : Nat → Int32) (LN : Nat → Nat) (nx : Int32) (qn : Nat) (qF : Nat → Int32) : Nat → Int32 := va_cpy xF (shu qF (LN (ix nx)) 0 qn) (40 * ix nx) 0 (LN (ix nx))
noncomputable def stR (kF xF : Nat → Int32) (LN : Nat → Nat) (nx : Int32) (qn : Nat) (qF : Nat → Int32) (wa ro : Int32) (hp : Nat) (la sl : Prop) (fo : Int32) : Int32 × Nat × (Nat → Int32) × Int32 × Nat :=
  if nx = -1 then (-1, qn, qF, wa, hp) else pI (kF (ix nx) = nI 3 ∧ (¬ la ∨ sl ∨ ¬ fo = 0)) (if 8 < hp + 1 then (-4, qn, qF, wa, hp + 1) else if 60 < qn + LN (ix nx) then (-5, qn + LN (ix nx), pbF xF LN nx qn qF, wa, hp + 1) else (nI 0, qn + LN (ix nx), pbF xF LN nx qn qF, (if xF (40 * ix nx) = nI 47 then ro else wa), hp + 1)) (pI (sl ∧ ¬ kF (ix nx) = nI 1) (-2) (nI 0), qn, qF, nx, hp)
theorem ne_m1 {x : Int32} {n : Nat} (h : vp_in x n) : ¬ x = -1 := by intro e; rw [e] at h; exact h (Or.inl (by decide))
/-- one name of the reference's walk: the rest is without slashes at its head -/
abbrev eQ (qn : Nat) (qF : Nat → Int32) : Nat := scan (noS qF) qn 0
noncomputable def sQ (kF pF rF cF xF : Nat → Int32) (vn : Nat) (dF : Nat → Int32) (nF : Nat → Int64) (bF : Nat → Int32) (ec : Nat) (LN : Nat → Nat) (ro fo : Int32) (qn : Nat) (qF : Nat → Int32) (wa : Int32) (hp : Nat) : Int32 × Nat × (Nat → Int32) × Int32 × Nat := stR kF xF LN (nxR rF cF pF vn dF nF bF ec wa ro (nmR qF (eQ qn qF) 0 (lN 0))) (qn - eQ qn qF) (drF qF (eQ qn qF) (qn - eQ qn qF)) wa ro hp (∀ i, i < qn - eQ qn qF → drF qF (eQ qn qF) (qn - eQ qn qF) i = nI 47) (0 < qn - eQ qn qF) fo
abbrev skN (q : Int32 × Nat × (Nat → Int32) × Int32 × Nat) : Nat := scan (isS q.2.2.1) q.2.1 0
noncomputable def wkR (kF mF oF pF rF cF xF : Nat → Int32) (vn : Nat) (dF : Nat → Int32) (nF : Nat → Int64) (bF : Nat → Int32) (ec : Nat) (LN : Nat → Nat) (us ro fo : Int32) : Nat → Nat → (Nat → Int32) → Int32 → Nat → Int32
  | 0, _, _, wa, _ => wa
  | m + 1, qn, qF, wa, hp => if qn = 0 then wa else if agR kF mF oF us wa (eQ qn qF) = nI 0 then (if (sQ kF pF rF cF xF vn dF nF bF ec LN ro fo qn qF wa hp).1 = nI 0 then wkR kF mF oF pF rF cF xF vn dF nF bF ec LN us ro fo m ((sQ kF pF rF cF xF vn dF nF bF ec LN ro fo qn qF wa hp).2.1 - skN (sQ kF pF rF cF xF vn dF nF bF ec LN ro fo qn qF wa hp)) (drF (sQ kF pF rF cF xF vn dF nF bF ec LN ro fo qn qF wa hp).2.2.1 (skN (sQ kF pF rF cF xF vn dF nF bF ec LN ro fo qn qF wa hp)) ((sQ kF pF rF cF xF vn dF nF bF ec LN ro fo qn qF wa hp).2.1 - skN (sQ kF pF rF cF xF vn dF nF bF ec LN ro fo qn qF wa hp))) (sQ kF pF rF cF xF vn dF nF bF ec LN ro fo qn qF wa hp).2.2.2.1 (sQ kF pF rF cF xF vn dF nF bF ec LN ro fo qn qF wa hp).2.2.2.2 else (sQ kF pF rF cF xF vn dF nF bF ec LN ro fo qn qF wa hp).1) else agR kF mF oF us wa (eQ qn qF)
section WK
variable {kF mF oF pF rF cF xF : Nat → Int32} {vn : Nat} {dF : Nat → Int32} {nF : Nat → Int64} {bF : Nat → Int32} {ec : Nat} {LN : Nat → Nat} {us ro fo : Int32} {m qn : Nat} {qF : Nat → Int32} {wa : Int32} {hp : Nat}
theorem wkR_0 (h : qn = 0) : wkR kF mF oF pF rF cF xF vn dF nF bF ec LN us ro fo m qn qF wa hp = wa := by
  cases m with
  | zero => rfl
  | succ m => unfold wkR; rw [if_pos h]
theorem wkR_a (hm : 0 < m) (h : ¬ qn = 0) (ha : ¬ agR kF mF oF us wa (eQ qn qF) = nI 0) : wkR kF mF oF pF rF cF xF vn dF nF bF ec LN us ro fo m qn qF wa hp = agR kF mF oF us wa (eQ qn qF) := by
  obtain ⟨m, rfl⟩ : ∃ k, m = k + 1 := ⟨m - 1, by omega⟩
  unfold wkR; rw [if_neg h, if_neg ha]
theorem wkR_q {r0 a2 : Int32} {s2 h2 : Nat} {f2 : Nat → Int32} (hm : 0 < m) (h : ¬ qn = 0) (ha : agR kF mF oF us wa (eQ qn qF) = nI 0) (hq : (r0, s2, f2, a2, h2) = sQ kF pF rF cF xF vn dF nF bF ec LN ro fo qn qF wa hp) (h0 : ¬ r0 = nI 0) : wkR kF mF oF pF rF cF xF vn dF nF bF ec LN us ro fo m qn qF wa hp = r0 := by
  obtain ⟨m, rfl⟩ : ∃ k, m = k + 1 := ⟨m - 1, by omega⟩
  unfold wkR; rw [if_neg h, if_pos ha, ← hq, if_neg h0]
theorem wkR_s {r0 a2 : Int32} {s2 h2 : Nat} {f2 : Nat → Int32} (hm : 0 < m) (h : ¬ qn = 0) (ha : agR kF mF oF us wa (eQ qn qF) = nI 0) (hq : (r0, s2, f2, a2, h2) = sQ kF pF rF cF xF vn dF nF bF ec LN ro fo qn qF wa hp) (h0 : r0 = nI 0) : wkR kF mF oF pF rF cF xF vn dF nF bF ec LN us ro fo m qn qF wa hp = wkR kF mF oF pF rF cF xF vn dF nF bF ec LN us ro fo (m - 1) (s2 - scan (isS f2) s2 0) (drF f2 (scan (isS f2) s2 0) (s2 - scan (isS f2) s2 0)) a2 h2 := by
  obtain ⟨m, rfl⟩ : ∃ k, m = k + 1 := ⟨m - 1, by omega⟩
  rw [Nat.add_sub_cancel]; conv => lhs; unfold wkR
  rw [if_neg h, if_pos ha, ← hq, if_pos h0]
end WK
/-- what a step keeps -/
theorem stR_ok {kF xF : Nat → Int32} {LN : Nat → Nat} {nx : Int32} {qn : Nat} {qF : Nat → Int32} {wa ro : Int32} {hp : Nat} {la sl : Prop} {fo : Int32} {r0 a2 : Int32} {s2 h2 : Nat} {f2 : Nat → Int32} (hq : (r0, s2, f2, a2, h2) = stR kF xF LN nx qn qF wa ro hp la sl fo) (hn : qn ≤ 60) (hLN : ∀ i, i < 40 → LN i ≤ 40) (hwa : vp_in wa 40) (hro : vp_in ro 40) (hnx : nx = -1 ∨ vp_in nx 40) (hp8 : hp ≤ 8) : s2 ≤ 100 ∧ vp_in a2 40 ∧ (r0 = nI 0 → s2 ≤ 60 ∧ ((s2 = qn ∧ h2 = hp) ∨ (h2 = hp + 1 ∧ h2 ≤ 8))) ∧ (¬ r0 = nI 0 → r0 < 0) := by
  unfold stR at hq
  by_cases h1 : nx = -1
  · rw [if_pos h1] at hq; cases hq; exact ⟨by omega, hwa, fun h => absurd h (by decide), fun _ => by decide⟩
  · rw [if_neg h1] at hq
    have hx := hnx.resolve_left h1
    have hl := hLN _ (vp_ix hx)
    by_cases h2 : kF (ix nx) = nI 3 ∧ (¬ la ∨ sl ∨ ¬ fo = 0)
    · rw [pI_t h2] at hq
      by_cases h3 : 8 < hp + 1
      · rw [if_pos h3] at hq; cases hq; exact ⟨by omega, hwa, fun h => absurd h (by decide), fun _ => by decide⟩
      · rw [if_neg h3] at hq
        by_cases h4 : 60 < qn + LN (ix nx)
        · rw [if_pos h4] at hq; cases hq; exact ⟨by omega, hwa, fun h => absurd h (by decide), fun _ => by decide⟩
        · rw [if_neg h4] at hq; cases hq
          refine ⟨by omega, ?_, fun _ => ⟨by omega, Or.inr ⟨rfl, by omega⟩⟩, fun h => absurd rfl h⟩
          show vp_in (if xF (40 * ix nx) = nI 47 then ro else wa) 40
          split
          · exact hro
          · exact hwa
    · rw [pI_f h2] at hq
      by_cases h3 : sl ∧ ¬ kF (ix nx) = nI 1
      · rw [pI_t h3] at hq; cases hq; exact ⟨by omega, hx, fun h => absurd h (by decide), fun _ => by decide⟩
      · rw [pI_f h3] at hq; cases hq; exact ⟨by omega, hx, fun _ => ⟨hn, Or.inl ⟨rfl, rfl⟩⟩, fun h => absurd rfl h⟩
theorem nxR_in {rF cF pF : Nat → Int32} {vn : Nat} {dF : Nat → Int32} {nF : Nat → Int64} {bF : Nat → Int32} {ec : Nat} {wa ro : Int32} {nm : Int64} (hvn : 1 ≤ vn ∧ vn ≤ 4) (hcr : ∀ v, v < 4 → cF v = -1 ∨ vp_in (cF v) 40) (hrr : ∀ v, v < 4 → vp_in (rF v) 40) (hpr : ∀ i, i < 40 → vp_in (pF i) 40) (hbr : ∀ k, k < ec → vp_in (bF k) 40) (hwa : vp_in wa 40) : nxR rF cF pF vn dF nF bF ec wa ro nm = -1 ∨ vp_in (nxR rF cF pF vn dF nF bF ec wa ro nm) 40 := by
  unfold nxR
  split
  · exact Or.inr (abvR_in hvn hcr hrr hpr hwa)
  · split
    · exact Or.inr hwa
    · split
      · rename_i h; exact Or.inr (topR_in hvn hrr 5 _ (hbr _ h))
      · exact Or.inl rfl
theorem agR_neg {kF mF oF : Nat → Int32} {us wa : Int32} {n : Nat} (h : ¬ agR kF mF oF us wa n = nI 0) : agR kF mF oF us wa n < 0 := by
  unfold agR at h ⊢
  by_cases h1 : kF (ix wa) = nI 1
  · rw [if_pos h1] at h ⊢
    by_cases h2 : mayR us (mF (ix wa)) (oF (ix wa)) (nI 0)
    · rw [pI_t h2] at h ⊢
      by_cases h3 : 6 < n
      · rw [if_pos h3]; decide
      · rw [if_neg h3] at h; exact absurd rfl h
    · rw [pI_f h2]; decide
  · rw [if_neg h1]; decide
theorem eQ_pos {qn : Nat} {qF : Nat → Int32} (h : 0 < qn) (h0 : ¬ qF 0 = nI 47) : 0 < eQ qn qF := by
  have e : scan (noS qF) (qn - 0) 0 = scan (noS qF) (qn - (0 + 1)) (0 + 1) := scan_t h (by simp [h0])
  show 0 < scan (noS qF) (qn - 0) 0
  rw [e]
  exact (scan_le (p := noS qF) (qn - (0 + 1)) (0 + 1)).1
theorem dr_head {q : Nat → Int32} {n : Nat} : 0 < n - scan (isS q) n 0 → ¬ drF q (scan (isS q) n 0) (n - scan (isS q) n 0) 0 = nI 47 := by
  intro h
  unfold drF
  rw [if_pos h, Nat.zero_add]
  have := scan_at (p := isS q) n 0 (by omega)
  simpa using this
