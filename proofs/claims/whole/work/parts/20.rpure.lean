/-! the reference in pure words -/
theorem cpy_k {f g : Nat → Int32} {k : Nat} : upd (va_cpy f g 0 0 k) k (f k) = va_cpy f g 0 0 (k + 1) := by have := cpy_a (z := f) (f := g) (s := 0) (k := k); rw [Nat.zero_add] at this; exact this
def kI (k : Nat) : Int32 := Int32.ofInt (3 - k)
theorem kI_0 : nI 3 = kI 0 := by decide
theorem kI_s : ∀ k, k < 4 → kI k + Int32.ofInt (-1) = kI (k + 1) := by decide
theorem kI_lt : ∀ k, k < 5 → (kI k < 0 ↔ k = 4) := by decide
theorem kI_u : ∀ k, k < 4 → ((nI 8 * kI k &&& 31).toBitVec.smod 32).toNat = 24 - 8 * k := by decide
theorem by4_r (w : Int32) {k : Nat} (hk : k < 4) : (w >>> (nI 8 * kI k &&& 31)) &&& nI 255 = nI (by4 w k) := by
  rw [pk_and _ 8 (by decide)]
  have h := pk_shr w (nI 8 * kI k &&& 31) (24 - 8 * k) (kI_u k hk)
  congr 1
  unfold by4
  have hw : w.toInt = if 2 * w.toBitVec.toNat < 2 ^ 32 then (w.toBitVec.toNat : Int) else (w.toBitVec.toNat : Int) - (2 ^ 32 : Nat) := BitVec.toInt_eq_toNat_cond _
  have hr : (w >>> (nI 8 * kI k &&& 31)).toInt = if 2 * (w >>> (nI 8 * kI k &&& 31)).toBitVec.toNat < 2 ^ 32 then ((w >>> (nI 8 * kI k &&& 31)).toBitVec.toNat : Int) else ((w >>> (nI 8 * kI k &&& 31)).toBitVec.toNat : Int) - (2 ^ 32 : Nat) := BitVec.toInt_eq_toNat_cond _
  generalize hR : (w >>> (nI 8 * kI k &&& 31)).toBitVec.toNat = R at hr ⊢
  rw [h, Int.shiftRight_eq_div_pow, hw] at hr
  generalize w.toBitVec.toNat = W at hr ⊢
  have hk4 : k = 0 ∨ k = 1 ∨ k = 2 ∨ k = 3 := by omega
  rcases hk4 with rfl | rfl | rfl | rfl <;> simp at hr ⊢ <;> split at hr <;> split at hr <;> omega
def mayR (us md ow bt : Int32) : Prop := us = 0 ∨ ((if ow = us then md / nI 4 else md - md / nI 4 * nI 4) >>> (bt &&& 31)) &&& nI 1 = nI 1
/-- the last volume below k over d, 0 if none -/
def cvR (cF : Nat → Int32) (d : Int32) : Nat → Nat
  | 0 => 0
  | k + 1 => if 1 ≤ k ∧ cF k = d then k else cvR cF d k
theorem cvR_lt (cF : Nat → Int32) (d : Int32) : ∀ k, cvR cF d k ≤ k
  | 0 => Nat.le_refl 0
  | k + 1 => by show (if 1 ≤ k ∧ cF k = d then k else cvR cF d k) ≤ k + 1; have := cvR_lt cF d k; split <;> omega
theorem cvR_lt2 (cF : Nat → Int32) (d : Int32) : ∀ k, 1 ≤ k → cvR cF d k < k
  | 0, h => by omega
  | k + 1, _ => by show (if 1 ≤ k ∧ cF k = d then k else cvR cF d k) < k + 1; have := cvR_lt cF d k; split <;> omega
theorem cvR_1 (cF : Nat → Int32) (d : Int32) : cvR cF d 1 = 0 := by show (if 1 ≤ 0 ∧ cF 0 = d then 0 else cvR cF d 0) = 0; rw [if_neg (by omega)]; rfl
theorem cvR_t {cF : Nat → Int32} {d : Int32} {k : Nat} (h1 : 1 ≤ k) (h : cF k = d) : cvR cF d (k + 1) = k := if_pos ⟨h1, h⟩
theorem cvR_f {cF : Nat → Int32} {d : Int32} {k : Nat} (h : ¬ cF k = d) : cvR cF d (k + 1) = cvR cF d k := if_neg (fun h2 => h h2.2)
def mwR (rF cF : Nat → Int32) (d : Int32) : Nat → Nat
  | 0 => 0
  | k + 1 => if 1 ≤ k ∧ rF k = d ∧ ¬ cF k < 0 then k else mwR rF cF d k
theorem mwR_lt (rF cF : Nat → Int32) (d : Int32) : ∀ k, mwR rF cF d k ≤ k
  | 0 => Nat.le_refl 0
  | k + 1 => by show (if 1 ≤ k ∧ rF k = d ∧ ¬ cF k < 0 then k else mwR rF cF d k) ≤ k + 1; have := mwR_lt rF cF d k; split <;> omega
theorem mwR_lt2 (rF cF : Nat → Int32) (d : Int32) : ∀ k, 1 ≤ k → mwR rF cF d k < k
  | 0, h => by omega
  | k + 1, _ => by show (if 1 ≤ k ∧ rF k = d ∧ ¬ cF k < 0 then k else mwR rF cF d k) < k + 1; have := mwR_lt rF cF d k; split <;> omega
theorem mwR_1 (rF cF : Nat → Int32) (d : Int32) : mwR rF cF d 1 = 0 := by show (if 1 ≤ 0 ∧ rF 0 = d ∧ ¬ cF 0 < 0 then 0 else mwR rF cF d 0) = 0; rw [if_neg (by omega)]; rfl
theorem mwR_t {rF cF : Nat → Int32} {d : Int32} {k : Nat} (h1 : 1 ≤ k) (h : rF k = d) (h2 : ¬ cF k < 0) : mwR rF cF d (k + 1) = k := if_pos ⟨h1, h, h2⟩
theorem mwR_f {rF cF : Nat → Int32} {d : Int32} {k : Nat} (h : ¬ (rF k = d ∧ ¬ cF k < 0)) : mwR rF cF d (k + 1) = mwR rF cF d k := if_neg (fun h2 => h h2.2)
def topR (rF cF : Nat → Int32) (vn : Nat) : Nat → Int32 → Int32
  | 0, h => h
  | n + 1, h => if cvR cF h vn = 0 then h else topR rF cF vn n (rF (cvR cF h vn))
theorem topR_e {rF cF : Nat → Int32} {vn n k : Nat} {h : Int32} (hk : n ≤ k) : topR rF cF vn (n - k) h = h := by rw [Nat.sub_eq_zero_of_le hk]; rfl
theorem topR_r {rF cF : Nat → Int32} {vn n : Nat} {h : Int32} (h0 : cvR cF h vn = 0) : topR rF cF vn n h = h := by
  cases n with
  | zero => rfl
  | succ n => exact if_pos h0
theorem topR_s {rF cF : Nat → Int32} {vn n k : Nat} {h : Int32} (hk : k < n) (h0 : 0 < cvR cF h vn) : topR rF cF vn (n - k) h = topR rF cF vn (n - (k + 1)) (rF (cvR cF h vn)) := by
  rw [show n - k = n - (k + 1) + 1 by omega]; exact if_neg (by omega)
def grdR (rF cF : Nat → Int32) (vn : Nat) : Nat → Int32 → Int32
  | 0, h => h
  | n + 1, h => if mwR rF cF h vn = 0 then h else grdR rF cF vn n (cF (mwR rF cF h vn))
theorem grdR_e {rF cF : Nat → Int32} {vn n k : Nat} {h : Int32} (hk : n ≤ k) : grdR rF cF vn (n - k) h = h := by rw [Nat.sub_eq_zero_of_le hk]; rfl
theorem grdR_r {rF cF : Nat → Int32} {vn n : Nat} {h : Int32} (h0 : mwR rF cF h vn = 0) : grdR rF cF vn n h = h := by
  cases n with
  | zero => rfl
  | succ n => exact if_pos h0
theorem grdR_s {rF cF : Nat → Int32} {vn n k : Nat} {h : Int32} (hk : k < n) (h0 : 0 < mwR rF cF h vn) : grdR rF cF vn (n - k) h = grdR rF cF vn (n - (k + 1)) (cF (mwR rF cF h vn)) := by
  rw [show n - k = n - (k + 1) + 1 by omega]; exact if_neg (by omega)
theorem topR_in {rF cF : Nat → Int32} {vn : Nat} (hvn : 1 ≤ vn ∧ vn ≤ 4) (hrr : ∀ v, v < 4 → vp_in (rF v) 40) : ∀ (n : Nat) (d : Int32), vp_in d 40 → vp_in (topR rF cF vn n d) 40
  | 0, d, h => h
  | n + 1, d, h => by
    show vp_in (if cvR cF d vn = 0 then d else topR rF cF vn n (rF (cvR cF d vn))) 40
    split
    · exact h
    · exact topR_in hvn hrr n _ (hrr _ (by have := cvR_lt2 cF d vn hvn.1; omega))
theorem mwR_ok {rF cF : Nat → Int32} {d : Int32} : ∀ k, ¬ mwR rF cF d k = 0 → ¬ cF (mwR rF cF d k) < 0
  | 0, h => absurd rfl h
  | k + 1, h => by
    by_cases hc : 1 ≤ k ∧ rF k = d ∧ ¬ cF k < 0
    · rw [show mwR rF cF d (k + 1) = k from if_pos hc]; exact hc.2.2
    · rw [show mwR rF cF d (k + 1) = mwR rF cF d k from if_neg hc] at h ⊢; exact mwR_ok k h
theorem cr_in {cF : Nat → Int32} (hcr : ∀ v, v < 4 → cF v = -1 ∨ vp_in (cF v) 40) {v : Nat} (hv : v < 4) (h : ¬ cF v < 0) : vp_in (cF v) 40 := by
  rcases hcr v hv with h2 | h2
  · rw [h2] at h; exact absurd (by decide) h
  · exact h2
theorem grdR_in {rF cF : Nat → Int32} {vn : Nat} (hvn : 1 ≤ vn ∧ vn ≤ 4) (hcr : ∀ v, v < 4 → cF v = -1 ∨ vp_in (cF v) 40) : ∀ (n : Nat) (d : Int32), vp_in d 40 → vp_in (grdR rF cF vn n d) 40
  | 0, d, h => h
  | n + 1, d, h => by
    show vp_in (if mwR rF cF d vn = 0 then d else grdR rF cF vn n (cF (mwR rF cF d vn))) 40
    by_cases h0 : mwR rF cF d vn = 0
    · rw [if_pos h0]; exact h
    · rw [if_neg h0]
      exact grdR_in hvn hcr n _ (cr_in hcr (by have := mwR_lt2 rF cF d vn hvn.1; omega) (mwR_ok vn h0))
def abvR (rF cF pF : Nat → Int32) (vn : Nat) (d r0 : Int32) : Int32 := if d = r0 then d else topR rF cF vn 5 (pF (ix (grdR rF cF vn 5 d)))
theorem abvR_in {rF cF pF : Nat → Int32} {vn : Nat} {d r0 : Int32} (hvn : 1 ≤ vn ∧ vn ≤ 4) (hcr : ∀ v, v < 4 → cF v = -1 ∨ vp_in (cF v) 40) (hrr : ∀ v, v < 4 → vp_in (rF v) 40) (hpr : ∀ i, i < 40 → vp_in (pF i) 40) (hd : vp_in d 40) : vp_in (abvR rF cF pF vn d r0) 40 := by
  unfold abvR
  split
  · exact hd
  · exact topR_in hvn hrr 5 _ (hpr _ (vp_ix (grdR_in hvn hcr 5 d hd)))
def drF (q : Nat → Int32) (n m : Nat) : Nat → Int32 := fun j => if j < m then q (j + n) else q j
theorem drF_0 {q : Nat → Int32} {n : Nat} : drF q n 0 = q := by funext j; unfold drF; rw [if_neg (by omega)]
theorem drF_s {q : Nat → Int32} {n k : Nat} : upd (drF q n k) k (drF q n k (k + n)) = drF q n (k + 1) := by
  funext j
  unfold upd drF
  by_cases hj : j = k
  · rw [if_pos hj, if_neg (by omega), if_pos (by omega), hj]
  · rw [if_neg hj]
    by_cases hk : j < k
    · rw [if_pos hk, if_pos (by omega)]
    · rw [if_neg hk, if_neg (by omega)]
def nmR (q : Nat → Int32) : Nat → Nat → Int64 → Int64
  | 0, _, a => a
  | m + 1, k, a => nmR q m (k + 1) (if k < 6 then a * lN 128 + (q k).toInt64 else a)
theorem nmR_e {q : Nat → Int32} {n k : Nat} {a : Int64} (h : n ≤ k) : nmR q (n - k) k a = a := by rw [Nat.sub_eq_zero_of_le h]; rfl
theorem nmR_s {q : Nat → Int32} {n k : Nat} {a : Int64} (h : k < n) (h6 : k < 6) : nmR q (n - k) k a = nmR q (n - (k + 1)) (k + 1) (a * lN 128 + (q k).toInt64) := by
  rw [show n - k = n - (k + 1) + 1 by omega]; show nmR q _ _ (if k < 6 then _ else _) = _; rw [if_pos h6]
theorem nmR_t {q : Nat → Int32} {n k : Nat} {a : Int64} (h : k < n) (h6 : ¬ k < 6) : nmR q (n - k) k a = nmR q (n - (k + 1)) (k + 1) a := by
  rw [show n - k = n - (k + 1) + 1 by omega]; show nmR q _ _ (if k < 6 then _ else _) = _; rw [if_neg h6]
def shu (q : Nat → Int32) (n i m : Nat) : Nat → Int32 := fun j => if i + n ≤ j ∧ j < m + n then q (j - n) else q j
theorem shu_0 {q : Nat → Int32} {n m : Nat} : shu q n m m = q := by funext j; unfold shu; rw [if_neg (by omega)]
theorem shu_s {q : Nat → Int32} {n i m : Nat} (h : 0 < i) (hm : i ≤ m) : upd (shu q n i m) (i - 1 + n) (shu q n i m (i - 1)) = shu q n (i - 1) m := by
  funext j
  unfold upd shu
  by_cases hj : j = i - 1 + n
  · rw [if_pos hj, if_neg (by omega), if_pos (by omega), hj, Nat.add_sub_cancel]
  · rw [if_neg hj]
    by_cases hk : i + n ≤ j ∧ j < m + n
    · rw [if_pos hk, if_pos (by omega)]
    · rw [if_neg hk, if_neg (by omega)]
theorem nI_ix {x : Int32} {n : Nat} (h : vp_in x n) (hn : n < 2 ^ 31) : x = nI (ix x) := by
  obtain ⟨j, hj, rfl⟩ := vp_in_of h hn
  rw [ix_nI (by omega)]
theorem mul40 {x : Int32} (h : vp_in x 40) : nI 40 * x = nI (40 * ix x) := by
  conv => lhs; rw [nI_ix h (by decide)]
  exact pk_mul _ _
theorem all47 {q : Nat → Int32} {k : Nat} {P : Prop} : ((P ∧ ∀ j, j < k → q j = nI 47) ∧ q k = nI 47) ↔ (P ∧ ∀ j, j < k + 1 → q j = nI 47) := by
  constructor
  · rintro ⟨⟨h1, h2⟩, h3⟩
    exact ⟨h1, fun j hj => by rcases Nat.lt_succ_iff_lt_or_eq.mp hj with h | h; exact h2 j h; rw [h]; exact h3⟩
  · rintro ⟨h1, h2⟩
    exact ⟨⟨h1, fun j hj => h2 j (by omega)⟩, h2 k (by omega)⟩
