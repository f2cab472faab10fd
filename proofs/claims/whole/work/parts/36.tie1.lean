/-! class and reference: rights, covers, tops, grounds -/
theorem andbit0 (r : Int32) : ((r >>> (nI 0 &&& 31)) &&& nI 1 = nI 1) ↔ ¬ (r &&& nI 1) = 0 := by
  rw [show r >>> (nI 0 &&& 31) = r from sb_shr0 r, pk_and r 1 (by decide)]
  have h : r.toBitVec.toNat % 2 ^ 1 = 0 ∨ r.toBitVec.toNat % 2 ^ 1 = 1 := by omega
  rcases h with h | h <;> rw [h] <;> decide
theorem and2 (W : Nat) : W &&& 2 = 0 ↔ W / 2 ^ 1 % 2 = 0 := by
  have hb : W.testBit 1 = decide (W / 2 ^ 1 % 2 = 1) := Nat.testBit_eq_decide_div_mod_eq
  constructor
  · intro h
    have h1 : (W &&& 2).testBit 1 = false := by rw [h]; exact Nat.zero_testBit 1
    rw [Nat.testBit_and, hb, show Nat.testBit 2 1 = true from rfl, Bool.and_true] at h1
    have := of_decide_eq_false h1
    omega
  · intro h
    apply Nat.eq_of_testBit_eq
    intro i
    rw [Nat.testBit_and, Nat.zero_testBit]
    by_cases hi : i = 1
    · subst hi; rw [hb, h]; rfl
    · have h2 : Nat.testBit 2 i = false := by
        have := @Nat.testBit_two_pow 1 i
        rw [show (2 : Nat) ^ 1 = 2 from rfl] at this
        rw [this]; exact decide_eq_false (fun e => hi e.symm)
      rw [h2, Bool.and_false]
theorem andbit1 (r : Int32) : ((r >>> (nI 1 &&& 31)) &&& nI 1 = nI 1) ↔ ¬ (r &&& nI 2) = 0 := by
  rw [pk_and _ 1 (by decide)]
  have h := pk_shr r (nI 1 &&& 31) 1 (by decide)
  have hw : r.toInt = if 2 * r.toBitVec.toNat < 2 ^ 32 then (r.toBitVec.toNat : Int) else (r.toBitVec.toNat : Int) - (2 ^ 32 : Nat) := BitVec.toInt_eq_toNat_cond _
  have hr : (r >>> (nI 1 &&& 31)).toInt = if 2 * (r >>> (nI 1 &&& 31)).toBitVec.toNat < 2 ^ 32 then ((r >>> (nI 1 &&& 31)).toBitVec.toNat : Int) else ((r >>> (nI 1 &&& 31)).toBitVec.toNat : Int) - (2 ^ 32 : Nat) := BitVec.toInt_eq_toNat_cond _
  have ha : (r &&& nI 2).toBitVec.toNat = r.toBitVec.toNat &&& 2 := by rw [Int32.toBitVec_and, BitVec.toNat_and]; rfl
  have hz : (r &&& nI 2) = 0 ↔ (r &&& nI 2).toBitVec.toNat = 0 := by
    constructor
    · intro h; rw [h]; rfl
    · intro h; exact Int32.toBitVec_inj.mp (BitVec.eq_of_toNat_eq (by rw [h]; rfl))
  generalize hR : (r >>> (nI 1 &&& 31)).toBitVec.toNat = R at hr ⊢
  rw [h, Int.shiftRight_eq_div_pow, hw] at hr
  rw [hz, ha, and2]
  generalize r.toBitVec.toNat = W at hr ⊢
  have h1 : R % 2 ^ 1 = W / 2 ^ 1 % 2 := by
    simp at hr ⊢
    split at hr <;> split at hr <;> omega
  rw [h1]
  have h2 : W / 2 ^ 1 % 2 = 0 ∨ W / 2 ^ 1 % 2 = 1 := by omega
  rcases h2 with h2 | h2 <;> rw [h2] <;> decide
theorem may_1 (us md ow : Int32) : mayR us md ow (nI 0) ↔ mayP us md ow (nI 1) := by
  unfold mayR mayP
  rw [andbit0]
  have e : (if ow = us then md / nI 4 else md - md / nI 4 * nI 4) = (if us = ow then md / nI 4 else md - md / nI 4 * nI 4) := by
    by_cases h : us = ow
    · rw [if_pos h, if_pos h.symm]
    · rw [if_neg h, if_neg (fun h2 => h h2.symm)]
  rw [e]
theorem may_2 (us md ow : Int32) : mayR us md ow (nI 1) ↔ mayP us md ow (nI 2) := by
  unfold mayR mayP
  rw [andbit1]
  have e : (if ow = us then md / nI 4 else md - md / nI 4 * nI 4) = (if us = ow then md / nI 4 else md - md / nI 4 * nI 4) := by
    by_cases h : us = ow
    · rw [if_pos h, if_pos h.symm]
    · rw [if_neg h, if_neg (fun h2 => h h2.symm)]
  rw [e]
theorem pI_cg {α : Type} {P Q : Prop} {a b : α} (h : P ↔ Q) : pI P a b = pI Q a b := by rw [propext h]
theorem tk_ag {kF mF oF : Nat → Int32} {us wa : Int32} {n : Nat} : agR kF mF oF us wa n = tkR kF mF oF us wa n := by
  unfold agR tkR; rw [pI_cg (may_1 _ _ _)]
/-- no place is covered twice -/
def covU (cF : Nat → Int32) (vn : Nat) : Prop := ∀ v w, 1 ≤ v → v < vn → 1 ≤ w → w < vn → cF v = cF w → ¬ cF v = -1 → v = w
theorem cvR_spec {cF : Nat → Int32} {d : Int32} : ∀ k, (cvR cF d k = 0 ∧ ∀ v, 1 ≤ v → v < k → ¬ cF v = d) ∨ (1 ≤ cvR cF d k ∧ cvR cF d k < k ∧ cF (cvR cF d k) = d)
  | 0 => Or.inl ⟨rfl, fun v h1 h2 => by omega⟩
  | k + 1 => by
    by_cases hc : 1 ≤ k ∧ cF k = d
    · rw [show cvR cF d (k + 1) = k from if_pos hc]; exact Or.inr ⟨hc.1, by omega, hc.2⟩
    · rw [show cvR cF d (k + 1) = cvR cF d k from if_neg hc]
      rcases cvR_spec (cF := cF) (d := d) k with ⟨h1, h2⟩ | ⟨h1, h2, h3⟩
      · refine Or.inl ⟨h1, fun v hv1 hv2 hv3 => ?_⟩
        rcases Nat.lt_succ_iff_lt_or_eq.mp hv2 with h | h
        · exact h2 v hv1 h hv3
        · exact hc ⟨h ▸ hv1, h ▸ hv3⟩
      · exact Or.inr ⟨h1, by omega, h3⟩
theorem covN_spec {cF : Nat → Int32} {d : Int32} {vn : Nat} (hv : 1 ≤ vn) : (covN cF d vn = 0 ∧ ∀ v, 1 ≤ v → v < vn → ¬ cF v = d) ∨ (1 ≤ covN cF d vn ∧ covN cF d vn < vn ∧ cF (covN cF d vn) = d) := by
  have a := scan_le (p := fun v => !decide (cF v = d)) (vn - 1) 1
  by_cases h : covJ cF d vn < vn
  · have e : covN cF d vn = covJ cF d vn := if_pos h
    have b := scan_at (p := fun v => !decide (cF v = d)) (vn - 1) 1 (by unfold covJ at h; omega)
    rw [e]
    exact Or.inr ⟨a.1, h, by unfold covJ; simpa using b⟩
  · refine Or.inl ⟨if_neg h, fun v h1 h2 h3 => ?_⟩
    have b := scan_in (p := fun v => !decide (cF v = d)) (vn - 1) 1 v h1 (by unfold covJ at h; omega)
    simp [h3] at b
theorem cov_eq {cF : Nat → Int32} {d : Int32} {vn : Nat} (hv : 1 ≤ vn) (hu : covU cF vn) (hd : ¬ d = -1) : covN cF d vn = cvR cF d vn := by
  rcases covN_spec (cF := cF) (d := d) hv with ⟨h1, h2⟩ | ⟨h1, h2, h3⟩ <;> rcases cvR_spec (cF := cF) (d := d) vn with ⟨g1, g2⟩ | ⟨g1, g2, g3⟩
  · rw [h1, g1]
  · exact absurd g3 (h2 _ g1 g2)
  · exact absurd h3 (g2 _ h1 h2)
  · exact hu _ _ h1 h2 g1 g2 (h3.trans g3.symm) (by rw [h3]; exact hd)
/-- the volumes' roots are different -/
def rooU (rF : Nat → Int32) (vn : Nat) : Prop := ∀ v w, v < vn → w < vn → rF v = rF w → v = w
theorem mwR_spec {rF cF : Nat → Int32} {d : Int32} : ∀ k, (mwR rF cF d k = 0 ∧ ∀ v, 1 ≤ v → v < k → ¬ (rF v = d ∧ ¬ cF v < 0)) ∨ (1 ≤ mwR rF cF d k ∧ mwR rF cF d k < k ∧ rF (mwR rF cF d k) = d ∧ ¬ cF (mwR rF cF d k) < 0)
  | 0 => Or.inl ⟨rfl, fun v h1 h2 => by omega⟩
  | k + 1 => by
    by_cases hc : 1 ≤ k ∧ rF k = d ∧ ¬ cF k < 0
    · rw [show mwR rF cF d (k + 1) = k from if_pos hc]; exact Or.inr ⟨hc.1, by omega, hc.2⟩
    · rw [show mwR rF cF d (k + 1) = mwR rF cF d k from if_neg hc]
      rcases mwR_spec (rF := rF) (cF := cF) (d := d) k with ⟨h1, h2⟩ | ⟨h1, h2, h3⟩
      · refine Or.inl ⟨h1, fun v hv1 hv2 hv3 => ?_⟩
        rcases Nat.lt_succ_iff_lt_or_eq.mp hv2 with h | h
        · exact h2 v hv1 h hv3
        · subst h; exact hc ⟨hv1, hv3⟩
      · exact Or.inr ⟨h1, by omega, h3⟩
theorem mwrN_spec {rF cF : Nat → Int32} {d : Int32} {vn : Nat} (hv : 1 ≤ vn) : (vn ≤ mwrN rF cF d vn ∧ ∀ v, 1 ≤ v → v < vn → ¬ (rF v = d ∧ ¬ cF v = -1)) ∨ (1 ≤ mwrN rF cF d vn ∧ mwrN rF cF d vn < vn ∧ rF (mwrN rF cF d vn) = d ∧ ¬ cF (mwrN rF cF d vn) = -1) := by
  by_cases h : mwrN rF cF d vn < vn
  · have := mwr_spec (rF := rF) (cF := cF) (o := d) h hv
    exact Or.inr ⟨this.1, h, this.2⟩
  · refine Or.inl ⟨by omega, fun v h1 h2 h3 => ?_⟩
    have b := scan_in (p := fun v => !(decide (rF v = d) && !decide (cF v = -1))) (vn - 1) 1 v h1 (by unfold mwrN at h; omega)
    simp [h3] at b
theorem cneg {cF : Nat → Int32} (hcr : ∀ v, v < 4 → cF v = -1 ∨ vp_in (cF v) 40) {v : Nat} (hv : v < 4) : cF v < 0 ↔ cF v = -1 := by
  constructor
  · intro h
    rcases hcr v hv with h2 | h2
    · exact h2
    · exact absurd (Or.inl h) h2
  · intro h; rw [h]; decide
theorem mw_eq {rF cF : Nat → Int32} {d : Int32} {vn : Nat} (hvn : 1 ≤ vn ∧ vn ≤ 4) (hcr : ∀ v, v < 4 → cF v = -1 ∨ vp_in (cF v) 40) (hu : rooU rF vn) : (vn ≤ mwrN rF cF d vn ∧ mwR rF cF d vn = 0) ∨ (mwrN rF cF d vn < vn ∧ mwR rF cF d vn = mwrN rF cF d vn ∧ 1 ≤ mwrN rF cF d vn) := by
  rcases mwrN_spec (rF := rF) (cF := cF) (d := d) hvn.1 with ⟨h1, h2⟩ | ⟨h1, h2, h3, h4⟩ <;> rcases mwR_spec (rF := rF) (cF := cF) (d := d) vn with ⟨g1, g2⟩ | ⟨g1, g2, g3, g4⟩
  · exact Or.inl ⟨h1, g1⟩
  · exact absurd ⟨g3, fun h => g4 ((cneg hcr (by omega)).mpr h)⟩ (h2 _ g1 g2)
  · exact absurd ⟨h3, fun h => h4 ((cneg hcr (by omega)).mp h)⟩ (g2 _ h1 h2)
  · exact Or.inr ⟨h2, hu _ _ g2 h2 (g3.trans h3.symm), h1⟩
