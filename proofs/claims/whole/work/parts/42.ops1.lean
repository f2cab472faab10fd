/-! the small calls on both sides -/
def TX (n : Nat) (f g : Nat → Int32) : Prop := n ≤ 40 ∧ (∀ j, j < n → f j = g j ∧ okT (g j))
theorem nI_add1 (b : Nat) : nI (b + 1) = nI b + nI 1 := (nI_add b 1).symm
theorem ty_aux {w : Int32} : ∀ (m k n : Nat) (f g : Nat → Int32), tyB w m k = true → (∀ j, j < n → f j = g j ∧ okT (g j)) → (tyF w m k n f).1 = n + tyN w m k ∧ (tyF w m k n g).1 = n + tyN w m k ∧ (∀ j, j < n + tyN w m k → (tyF w m k n f).2 j = (tyF w m k n g).2 j ∧ okT ((tyF w m k n g).2 j))
  | 0, k, n, f, g, _, h => ⟨rfl, rfl, h⟩
  | m + 1, k, n, f, g, hb, h => by
    have hb2 : (okB w k && tyB w m (k + 1)) = true := hb
    rw [Bool.and_eq_true] at hb2
    by_cases h0 : by4 w k = 0
    · have e : tyN w (m + 1) k = tyN w m (k + 1) := by show (if by4 w k = 0 then 0 else 1) + tyN w m (k + 1) = _; rw [if_pos h0, Nat.zero_add]
      rw [e, show tyF w (m + 1) k n f = tyF w m (k + 1) n f from if_pos h0, show tyF w (m + 1) k n g = tyF w m (k + 1) n g from if_pos h0]
      exact ty_aux m (k + 1) n f g hb2.2 h
    · have e : tyN w (m + 1) k = 1 + tyN w m (k + 1) := by show (if by4 w k = 0 then 0 else 1) + tyN w m (k + 1) = _; rw [if_neg h0]
      have ok := hb2.1
      unfold okB at ok
      simp [h0] at ok
      rw [e, show tyF w (m + 1) k n f = tyF w m (k + 1) (n + 1) (upd f n (nI (by4 w k))) from if_neg h0, show tyF w (m + 1) k n g = tyF w m (k + 1) (n + 1) (upd g n (nI (by4 w k))) from if_neg h0, ← Nat.add_assoc]
      refine ty_aux m (k + 1) (n + 1) _ _ hb2.2 (fun j hj => ?_)
      unfold upd
      by_cases hjn : j = n
      · rw [if_pos hjn, if_pos hjn]; exact ⟨rfl, _, ok.1, ok.2, rfl⟩
      · rw [if_neg hjn, if_neg hjn]; exact h j (by omega)
theorem ty_rel {w : Int32} {n : Nat} {f g : Nat → Int32} (h : TX n f g) : (tyC w n f).1 = (tyC w n g).1 ∧ (tyC w n f).2.1 = (tyC w n g).2.1 ∧ TX (tyC w n f).2.1 (tyC w n f).2.2 (tyC w n g).2.2 := by
  unfold tyC
  by_cases hc : tyB w 4 0 = true ∧ n + tyN w 4 0 ≤ 40
  · rw [if_pos hc, if_pos hc]
    obtain ⟨a, b, c⟩ := ty_aux (w := w) 4 0 n f g hc.1 h.2
    refine ⟨rfl, a.trans b.symm, ?_⟩
    show TX (tyF w 4 0 n f).1 (tyF w 4 0 n f).2 (tyF w 4 0 n g).2
    rw [a]; exact ⟨hc.2, c⟩
  · rw [if_neg hc, if_neg hc]; exact ⟨rfl, rfl, h⟩
theorem ty_okC {w : Int32} {n : Nat} {f : Nat → Int32} (h : ∀ j, okC (f j)) : ∀ j, okC ((tyC w n f).2.2 j) := by
  have aux : ∀ (m k n : Nat) (f : Nat → Int32), (∀ j, okC (f j)) → ∀ j, okC ((tyF w m k n f).2 j) := by
    intro m
    induction m with
    | zero => intro k n f h; exact h
    | succ m ih =>
      intro k n f h
      show ∀ j, okC ((if by4 w k = 0 then tyF w m (k + 1) n f else tyF w m (k + 1) (n + 1) (upd f n (nI (by4 w k)))).2 j)
      split
      · exact ih _ _ _ h
      · exact ih _ _ _ (okC_upd h (okC_n (by have := by4_lt w k; omega)))
  unfold tyC
  split
  · exact aux _ _ _ _ h
  · exact h
theorem keep_rel {n : Nat} {f g y z : Nat → Int32} (h : TX n f g) : TX n (va_cpy f y 0 0 n) (va_cpy g z 0 0 n) := ⟨h.1, fun j hj => by
  unfold va_cpy; rw [if_pos (by omega), if_pos (by omega), Nat.sub_zero, Nat.zero_add]; exact h.2 j hj⟩
theorem at_eq {n : Nat} {f g : Nat → Int32} {k : Int32} (h : TX n f g) : atC f n k = atC g n k := by
  unfold atC
  by_cases hc : ¬ k < 0 ∧ ¬ nI n ≤ k
  · rw [if_pos hc, if_pos hc]
    obtain ⟨j, hj, rfl⟩ := ix_of hc.1 hc.2 (by have := h.1; omega)
    rw [ix_nI (by have := h.1; omega)]; exact (h.2 j hj).1
  · rw [if_neg hc, if_neg hc]
theorem le_lt1 {x : Int32} {n : Nat} (h : n < 2 ^ 31 - 1) : x < nI (n + 1) ↔ ¬ nI n < x := by
  rw [Int32.not_lt, Int32.lt_iff_toInt_lt, Int32.le_iff_toInt_le, nI_toInt (by omega), nI_toInt (by omega)]
  omega
theorem us_iff {x : Int32} : (¬ x < 0 ∧ x < nI 4) ↔ (¬ x < 0 ∧ ¬ nI 3 < x) := by rw [le_lt1 (n := 3) (by decide)]
theorem md_iff {x : Int32} : mdP x ↔ (¬ x < 0 ∧ ¬ nI 15 < x) := by
  show (¬ x < 0 ∧ ¬ nI 16 ≤ x) ↔ _
  rw [← le_lt1 (n := 15) (by decide), Int32.not_le]
theorem ch_eq {mF oF : Nat → Int32} {us mo d : Int32} : chC mF oF us mo d = chR mF oF us mo d := by
  unfold chC chR
  by_cases h : mdP mo
  · rw [if_pos h, if_pos (md_iff.mp h)]
    by_cases h2 : us = 0 ∨ us = oF (ix d)
    · rw [if_pos h2, if_pos (show us = 0 ∨ oF (ix d) = us from Or.imp id Eq.symm h2)]
    · rw [if_neg h2, if_neg (show ¬ (us = 0 ∨ oF (ix d) = us) from fun h => h2 (Or.imp id Eq.symm h))]
  · rw [if_neg h, if_neg (fun h2 => h (md_iff.mpr h2))]
theorem et_eq {kF mF oF : Nat → Int32} {us ro pr fj d : Int32} : etC kF mF oF us ro pr fj d = etR kF mF oF us ro pr fj d := by
  unfold etC etR; rw [pI_cg (may_1 _ _ _)]
theorem lfN_le (kF : Nat → Int32) : lfN kF ≤ 40 := by have := (scan_le (p := fun j => !decide (kF j = nI 0)) 40 0).2; unfold lfN; omega
theorem lfN_at {kF : Nat → Int32} (h : lfN kF < 40) : kF (lfN kF) = nI 0 := by
  have := scan_at (p := fun j => !decide (kF j = nI 0)) 40 0 (by unfold lfN at h; omega)
  by_cases hc : kF (lfN kF) = nI 0
  · exact hc
  · have h2 : (!decide (kF (lfN kF) = nI 0)) = false := this
    rw [decide_eq_false hc] at h2; cases h2
theorem vol_eq {kF mF oF vF pF rF : Nat → Int32} {vn : Nat} : volC kF mF oF vF pF rF vn = volR kF mF oF vF pF rF vn := by
  unfold volC volR
  rw [ix_nI (by have := lfN_le kF; omega)]
theorem ab_eq {kF mF oF vF dF bF cF : Nat → Int32} {ec vn : Nat} {i w : Int32} (hv : 1 ≤ vn) (hu : covU cF vn) : abC kF mF oF vF dF bF cF ec vn i w = abR kF mF oF vF dF bF cF ec vn i w := by
  unfold abC abR
  by_cases hk : knC kF i = nI 0
  · rw [if_pos hk, if_neg (fun h => h.1 hk)]
  · rw [if_neg hk]
    have hc := cov_eq (cF := cF) hv hu (ne_m1 (knC_in hk))
    rcases tab6 w with rfl | rfl | rfl | rfl | rfl | rfl | h
    · rw [if_pos rfl, if_pos ⟨hk, by decide, by decide⟩, if_neg (show ¬ nI 2 < nI 0 by decide), if_pos (show nI 0 = 0 by decide)]
    · rw [if_neg (show ¬ nI 1 = nI 0 by decide), if_pos rfl, if_pos ⟨hk, by decide, by decide⟩, if_neg (show ¬ nI 2 < nI 1 by decide), if_neg (show ¬ nI 1 = 0 by decide), if_pos rfl]
    · rw [if_neg (show ¬ nI 2 = nI 0 by decide), if_neg (show ¬ nI 2 = nI 1 by decide), if_pos rfl, if_pos ⟨hk, by decide, by decide⟩, if_neg (show ¬ nI 2 < nI 2 by decide), if_neg (show ¬ nI 2 = 0 by decide), if_neg (show ¬ nI 2 = nI 1 by decide)]
    · rw [if_neg (show ¬ nI 3 = nI 0 by decide), if_neg (show ¬ nI 3 = nI 1 by decide), if_neg (show ¬ nI 3 = nI 2 by decide), if_pos rfl, if_pos ⟨hk, by decide, by decide⟩, if_pos (show nI 2 < nI 3 by decide), if_pos rfl]
    · rw [if_neg (show ¬ nI 4 = nI 0 by decide), if_neg (show ¬ nI 4 = nI 1 by decide), if_neg (show ¬ nI 4 = nI 2 by decide), if_neg (show ¬ nI 4 = nI 3 by decide), if_pos rfl, if_pos ⟨hk, by decide, by decide⟩, if_pos (show nI 2 < nI 4 by decide), if_neg (show ¬ nI 4 = nI 3 by decide), if_pos rfl]
    · rw [if_neg (show ¬ nI 5 = nI 0 by decide), if_neg (show ¬ nI 5 = nI 1 by decide), if_neg (show ¬ nI 5 = nI 2 by decide), if_neg (show ¬ nI 5 = nI 3 by decide), if_neg (show ¬ nI 5 = nI 4 by decide), if_pos rfl, if_pos ⟨hk, by decide, by decide⟩, if_pos (show nI 2 < nI 5 by decide), if_neg (show ¬ nI 5 = nI 3 by decide), if_neg (show ¬ nI 5 = nI 4 by decide), hc]
    · have hn := tab6_ne h
      rw [if_neg hn.1, if_neg hn.2.1, if_neg hn.2.2.1, if_neg hn.2.2.2.1, if_neg hn.2.2.2.2.1, if_neg hn.2.2.2.2.2, if_neg]
      rintro ⟨-, h1, h2⟩
      rw [Int32.not_lt, Int32.le_iff_toInt_le] at h1 h2
      rw [nI_toInt (by decide)] at h2
      rw [Int32.toInt_zero] at h1
      omega
theorem nth_nt {dF : Nat → Int32} {i q : Int32} : ∀ (n k b : Nat), nth (fun j => decide (dF j = i)) q n k b = ntR dF i n k (q - nI b)
  | 0, k, b => rfl
  | n + 1, k, b => by
    show (if decide (dF k = i) = true then (if nI b = q then k else nth _ q n (k + 1) (b + 1)) else nth _ q n (k + 1) b) = (if dF k = i then (if q - nI b = 0 then k else ntR dF i n (k + 1) (q - nI b - nI 1)) else ntR dF i n (k + 1) (q - nI b))
    have e : (nI b = q) ↔ (q - nI b = 0) := ⟨fun h => by rw [h]; exact Int32.sub_self q, fun h => by have := Int32.sub_add_cancel q (nI b); rw [h, Int32.zero_add] at this; exact this⟩
    have e2 : q - nI b - nI 1 = q - nI (b + 1) := by rw [nI_add1 b, Int32.sub_eq_add_neg, Int32.sub_eq_add_neg, Int32.sub_eq_add_neg, Int32.neg_add, Int32.sub_eq_add_neg, Int32.add_assoc]
    rw [e2, nth_nt n (k + 1) (b + 1), nth_nt n (k + 1) b]
    by_cases h1 : dF k = i
    · rw [if_pos h1, if_pos (by simp [h1])]
      by_cases h2 : nI b = q
      · rw [if_pos h2, if_pos (e.mp h2)]
      · rw [if_neg h2, if_neg (fun h => h2 (e.mpr h))]
    · rw [if_neg h1, if_neg (by simp [h1])]
theorem nth_hit {p : Nat → Bool} {q : Int32} : ∀ (n k b : Nat), nth p q n k b < k + n → p (nth p q n k b) = true ∧ ∃ c, c < b + n ∧ nI c = q
  | 0, k, b, h => by have h : k < k + 0 := h; omega
  | n + 1, k, b, h => by
    have h2 : (if p k then (if nI b = q then k else nth p q n (k + 1) (b + 1)) else nth p q n (k + 1) b) < k + (n + 1) := h
    show p (if p k then (if nI b = q then k else nth p q n (k + 1) (b + 1)) else nth p q n (k + 1) b) = true ∧ _
    by_cases h3 : p k = true
    · rw [if_pos h3] at h2 ⊢
      by_cases h4 : nI b = q
      · rw [if_pos h4]; exact ⟨h3, b, by omega, h4⟩
      · rw [if_neg h4] at h2 ⊢
        obtain ⟨a, c, c1, c2⟩ := nth_hit (p := p) (q := q) n (k + 1) (b + 1) (by omega)
        exact ⟨a, c, by omega, c2⟩
    · rw [if_neg h3] at h2 ⊢
      obtain ⟨a, c, c1, c2⟩ := nth_hit (p := p) (q := q) n (k + 1) b (by omega)
      exact ⟨a, c, by omega, c2⟩
theorem en_eq {kF dF bF : Nat → Int32} {ec : Nat} {i k : Int32} (hec : ec ≤ 80) (hd : ∀ k, k < ec → vp_in (dF k) 40 ∧ kF (ix (dF k)) = nI 1) : enC dF bF ec i k = enR kF dF bF ec i k := by
  unfold enC enR
  have e := nth_nt (dF := dF) (i := i) (q := k) ec 0 0
  have e0 : k - nI 0 = k := Int32.sub_zero k
  rw [e0] at e
  rw [e]
  by_cases hf : ntR dF i ec 0 k < ec
  · have hh := nth_hit (p := fun j => decide (dF j = i)) (q := k) ec 0 0 (by rw [e]; omega)
    rw [e] at hh
    have hdi : dF (ntR dF i ec 0 k) = i := by simpa using hh.1
    obtain ⟨c, c1, rfl⟩ := hh.2
    have hdd := hd _ hf
    rw [hdi] at hdd
    have hp := vp_in_iff.mp hdd.1
    have hkn : ¬ knC kF i = nI 0 := by
      obtain ⟨j, hj, e5⟩ := vp_in_of hdd.1 (by decide)
      unfold knC
      rw [if_pos ⟨by rw [e5]; exact nI_pos (by omega), by rw [e5, nI_leI (by omega) (by omega)]; omega⟩, hdd.2]
      decide
    rw [if_pos hf, if_pos ⟨hkn, nI_pos (by omega)⟩]
  · rw [if_neg hf]
    split <;> rfl
