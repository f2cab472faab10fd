/-! tops and grounds: the class's four steps and the reference's five -/
def MI (rF cF vF : Nat → Int32) (vn : Nat) : Prop := covU cF vn ∧ rooU rF vn ∧ (∀ v, v < vn → vF (ix (rF v)) = nI v) ∧ ∃ rk : Nat → Nat, (∀ w, 1 ≤ w → w < vn → 1 ≤ rk w ∧ rk w ≤ 3) ∧ (∀ w, 1 ≤ w → w < vn → ¬ cF w = -1 → ∃ u, u < vn ∧ vF (ix (cF w)) = nI u ∧ rk u < rk w)
theorem topC_fix {rF cF : Nat → Int32} {vn n : Nat} {h : Int32} (h0 : covN cF h vn = 0) : topC rF cF vn n h = h := by
  cases n with
  | zero => rfl
  | succ n => exact if_pos h0
theorem topC_go {rF cF : Nat → Int32} {vn n : Nat} {h : Int32} (h0 : ¬ covN cF h vn = 0) : topC rF cF vn (n + 1) h = topC rF cF vn n (rF (covN cF h vn)) := if_neg h0
theorem topR_go {rF cF : Nat → Int32} {vn n : Nat} {h : Int32} (h0 : ¬ cvR cF h vn = 0) : topR rF cF vn (n + 1) h = topR rF cF vn n (rF (cvR cF h vn)) := if_neg h0
theorem grdC_fix {rF cF : Nat → Int32} {vn n : Nat} {h : Int32} (h0 : vn ≤ mwrN rF cF h vn) : grdC rF cF vn n h = h := by
  cases n with
  | zero => rfl
  | succ n => exact if_pos h0
theorem grdC_go {rF cF : Nat → Int32} {vn n : Nat} {h : Int32} (h0 : mwrN rF cF h vn < vn) : grdC rF cF vn (n + 1) h = grdC rF cF vn n (cF (mwrN rF cF h vn)) := if_neg (by omega)
theorem grdR_go {rF cF : Nat → Int32} {vn n : Nat} {h : Int32} (h0 : ¬ mwR rF cF h vn = 0) : grdR rF cF vn (n + 1) h = grdR rF cF vn n (cF (mwR rF cF h vn)) := if_neg h0
theorem top_aux {rF cF vF : Nat → Int32} {vn : Nat} (hvn : 1 ≤ vn ∧ vn ≤ 4) (hrr : ∀ v, v < 4 → vp_in (rF v) 40) (hu : covU cF vn) (hV : ∀ v, v < vn → vF (ix (rF v)) = nI v) {rk : Nat → Nat} (hk1 : ∀ w, 1 ≤ w → w < vn → 1 ≤ rk w ∧ rk w ≤ 3) (hk2 : ∀ w, 1 ≤ w → w < vn → ¬ cF w = -1 → ∃ u, u < vn ∧ vF (ix (cF w)) = nI u ∧ rk u < rk w) : ∀ (t j : Nat), 3 - j ≤ t → ∀ (n m : Nat) (h : Int32), vp_in h 40 → (∀ w, 1 ≤ w → w < vn → cF w = h → j < rk w) → t ≤ n → t ≤ m → topC rF cF vn n h = topR rF cF vn m h ∧ covN cF (topC rF cF vn n h) vn = 0 := by
  intro t
  induction t with
  | zero =>
    intro j hj n m h hh hw _ _
    have h0 : covN cF h vn = 0 := by
      rcases covN_spec (cF := cF) (d := h) hvn.1 with ⟨h1, -⟩ | ⟨h1, h2, h3⟩
      · exact h1
      · have a := hw _ h1 h2 h3
        have b := (hk1 _ h1 h2).2
        omega
    have h0' : cvR cF h vn = 0 := by rw [← cov_eq hvn.1 hu (ne_m1 hh)]; exact h0
    rw [topC_fix h0, topR_r h0']; exact ⟨rfl, h0⟩
  | succ t ih =>
    intro j hj n m h hh hw hn hm
    by_cases h0 : covN cF h vn = 0
    · have h0' : cvR cF h vn = 0 := by rw [← cov_eq hvn.1 hu (ne_m1 hh)]; exact h0
      rw [topC_fix h0, topR_r h0']; exact ⟨rfl, h0⟩
    · rcases covN_spec (cF := cF) (d := h) hvn.1 with ⟨h1, -⟩ | ⟨h1, h2, h3⟩
      · exact absurd h1 h0
      · have e := cov_eq hvn.1 hu (ne_m1 hh)
        obtain ⟨n', rfl⟩ : ∃ k, n = k + 1 := ⟨n - 1, by omega⟩
        obtain ⟨m', rfl⟩ : ∃ k, m = k + 1 := ⟨m - 1, by omega⟩
        rw [topC_go h0, topR_go (by rw [← e]; exact h0), ← e]
        have hv := hrr (covN cF h vn) (by omega)
        have hj2 := hw _ h1 h2 h3
        refine ih (rk (covN cF h vn)) (by omega) n' m' _ hv (fun w w1 w2 w3 => ?_) (by omega) (by omega)
        obtain ⟨u, u1, u2, u3⟩ := hk2 w w1 w2 (by rw [w3]; exact ne_m1 hv)
        rw [w3, hV _ h2] at u2
        have := (nI_eq (by omega) (by omega)).1 u2
        rw [this]; exact u3
theorem top_eq {rF cF vF : Nat → Int32} {vn : Nat} {d : Int32} (hvn : 1 ≤ vn ∧ vn ≤ 4) (hrr : ∀ v, v < 4 → vp_in (rF v) 40) (hM : MI rF cF vF vn) (hd : vp_in d 40) : topC rF cF vn 4 d = topR rF cF vn 5 d ∧ covN cF (topC rF cF vn 4 d) vn = 0 := by
  obtain ⟨hu, -, hV, rk, hk1, hk2⟩ := hM
  exact top_aux hvn hrr hu hV hk1 hk2 3 0 (by omega) 4 5 d hd (fun w w1 w2 _ => by have := (hk1 w w1 w2).1; omega) (by omega) (by omega)
theorem grd_aux {rF cF vF : Nat → Int32} {vn : Nat} (hvn : 1 ≤ vn ∧ vn ≤ 4) (hcr : ∀ v, v < 4 → cF v = -1 ∨ vp_in (cF v) 40) (hr : rooU rF vn) (hV : ∀ v, v < vn → vF (ix (rF v)) = nI v) {rk : Nat → Nat} (hk1 : ∀ w, 1 ≤ w → w < vn → 1 ≤ rk w ∧ rk w ≤ 3) (hk2 : ∀ w, 1 ≤ w → w < vn → ¬ cF w = -1 → ∃ u, u < vn ∧ vF (ix (cF w)) = nI u ∧ rk u < rk w) : ∀ (j n m : Nat) (h : Int32), (∀ w, 1 ≤ w → w < vn → rF w = h → ¬ cF w = -1 → rk w ≤ j) → j ≤ n → j ≤ m → grdC rF cF vn n h = grdR rF cF vn m h ∧ vn ≤ mwrN rF cF (grdC rF cF vn n h) vn := by
  intro j
  induction j with
  | zero =>
    intro n m h hw _ _
    rcases mw_eq (rF := rF) (cF := cF) (d := h) hvn hcr hr with ⟨h1, h2⟩ | ⟨h1, h2, h3⟩
    · rw [grdC_fix h1, grdR_r h2]; exact ⟨rfl, h1⟩
    · have s := mwr_spec (rF := rF) (cF := cF) (o := h) h1 hvn.1
      have a := hw _ s.1 h1 s.2.1 s.2.2
      have b := (hk1 _ s.1 h1).1
      omega
  | succ j ih =>
    intro n m h hw hn hm
    rcases mw_eq (rF := rF) (cF := cF) (d := h) hvn hcr hr with ⟨h1, h2⟩ | ⟨h1, h2, h3⟩
    · rw [grdC_fix h1, grdR_r h2]; exact ⟨rfl, h1⟩
    · have s := mwr_spec (rF := rF) (cF := cF) (o := h) h1 hvn.1
      obtain ⟨n', rfl⟩ : ∃ k, n = k + 1 := ⟨n - 1, by omega⟩
      obtain ⟨m', rfl⟩ : ∃ k, m = k + 1 := ⟨m - 1, by omega⟩
      rw [grdC_go h1, grdR_go (by omega), h2]
      refine ih n' m' _ (fun w w1 w2 w3 w4 => ?_) (by omega) (by omega)
      obtain ⟨u, u1, u2, u3⟩ := hk2 _ s.1 h1 s.2.2
      rw [← w3, hV _ w2] at u2
      have e := (nI_eq (by omega) (by omega)).1 u2
      have a := hw _ s.1 h1 s.2.1 s.2.2
      rw [e]; omega
theorem grd_eq {rF cF vF : Nat → Int32} {vn : Nat} {d : Int32} (hvn : 1 ≤ vn ∧ vn ≤ 4) (hcr : ∀ v, v < 4 → cF v = -1 ∨ vp_in (cF v) 40) (hM : MI rF cF vF vn) : grdC rF cF vn 4 d = grdR rF cF vn 5 d ∧ vn ≤ mwrN rF cF (grdC rF cF vn 4 d) vn := by
  obtain ⟨-, hr, hV, rk, hk1, hk2⟩ := hM
  exact grd_aux hvn hcr hr hV hk1 hk2 3 4 5 d (fun w w1 w2 _ _ => (hk1 w w1 w2).2) (by omega) (by omega)
theorem abv_eq {rF cF vF pC pR : Nat → Int32} {vn : Nat} {d r0 : Int32} (hvn : 1 ≤ vn ∧ vn ≤ 4) (hcr : ∀ v, v < 4 → cF v = -1 ∨ vp_in (cF v) 40) (hrr : ∀ v, v < 4 → vp_in (rF v) 40) (hM : MI rF cF vF vn) (hpr : ∀ i, i < 40 → vp_in (pC i) 40) (hd : vp_in d 40) (hp : pC (ix (grdC rF cF vn 4 d)) = pR (ix (grdC rF cF vn 4 d))) : abvC rF cF pC vn d r0 = abvR rF cF pR vn d r0 := by
  unfold abvC abvR
  by_cases h : d = r0
  · rw [if_pos h, if_pos h, h]
  · rw [if_neg h, if_neg h, ← (grd_eq (d := d) hvn hcr hM).1, ← hp]
    exact (top_eq hvn hrr hM (hpr _ (vp_ix (grdC_in hcr hd)))).1
/-- the class's rest and the reference's hold the same -/
def RS (st : Nat) (f : Nat → Int32) (qn : Nat) (q : Nat → Int32) : Prop := st ≤ 60 ∧ qn = 60 - st ∧ ∀ j, j < qn → f (st + j) = q j
theorem scan_shift {a b : Nat → Bool} : ∀ (n st k : Nat), (∀ j, k ≤ j → j < k + n → a (st + j) = b j) → scan a n (st + k) = st + scan b n k
  | 0, st, k, _ => rfl
  | n + 1, st, k, h => by
    show (if a (st + k) then scan a n (st + k + 1) else st + k) = st + (if b k then scan b n (k + 1) else k)
    rw [h k (Nat.le_refl k) (by omega)]
    split
    · exact scan_shift n st (k + 1) (fun j h1 h2 => h j (by omega) (by omega))
    · rfl
theorem rs_sk {st qn : Nat} {f q : Nat → Int32} (h : RS st f qn q) : sk f st = st + scan (isS q) qn 0 := by
  have := scan_shift (a := isS f) (b := isS q) qn st 0 (fun j _ hj => by rw [show isS f (st + j) = decide (f (st + j) = nI 47) from rfl, h.2.2 j (by omega)])
  rw [Nat.add_zero] at this
  show scan (isS f) (60 - st) st = _
  rw [← h.2.1]; exact this
theorem rs_eN {st qn : Nat} {f q : Nat → Int32} (h : RS st f qn q) : eN f st = st + scan (noS q) qn 0 := by
  have := scan_shift (a := noS f) (b := noS q) qn st 0 (fun j _ hj => by rw [show noS f (st + j) = !decide (f (st + j) = nI 47) from rfl, h.2.2 j (by omega)])
  rw [Nat.add_zero] at this
  show scan (noS f) (60 - st) st = _
  rw [← h.2.1]; exact this
theorem rs_drop {st qn k : Nat} {f q : Nat → Int32} (h : RS st f qn q) (hk : k ≤ qn) : RS (st + k) f (qn - k) (drF q k (qn - k)) := by
  refine ⟨by have := h.1; have := h.2.1; omega, by have := h.2.1; omega, fun j hj => ?_⟩
  unfold drF
  rw [if_pos hj, show st + k + j = st + (j + k) by omega]
  exact h.2.2 (j + k) (by omega)
theorem scan_all {p : Nat → Bool} {n k : Nat} : scan p n k = k + n ↔ ∀ j, k ≤ j → j < k + n → p j = true := by
  constructor
  · intro h j h1 h2; exact scan_in n k j h1 (by omega)
  · intro h; exact scan_uniq (by omega) (by omega) (fun i h1 h2 => h i h1 h2) (fun h => by omega)
theorem rs_la {st qn : Nat} {f q : Nat → Int32} (h : RS st f qn q) : laA f st ↔ ∀ i, i < qn → q i = nI 47 := by
  have e : (60 : Nat) = st + (60 - st) := by have := h.1; omega
  unfold laA
  rw [show (scan (isS f) (60 - st) st = 60) = (scan (isS f) (60 - st) st = st + (60 - st)) by rw [← e], scan_all]
  constructor
  · intro h2 i hi
    have := h2 (st + i) (by omega) (by have := h.2.1; omega)
    rw [← h.2.2 i hi]; simpa using this
  · intro h2 j h3 h4
    have := h2 (j - st) (by have := h.2.1; omega)
    rw [← h.2.2 (j - st) (by have := h.2.1; omega), show st + (j - st) = j by omega] at this
    simpa using this
theorem rs_put {st qn n : Nat} {f q fl xl : Nat → Int32} {o : Nat} (h : RS st f qn q) (hn : n ≤ st) (hx : ∀ j, j < n → fl j = xl (o + j)) : RS (st - n) (va_cpy fl f 0 (st - n) n) (qn + n) (va_cpy xl (shu q n 0 qn) o 0 n) := by
  refine ⟨by have := h.1; omega, by have := h.1; have := h.2.1; omega, fun j hj => ?_⟩
  unfold va_cpy shu
  by_cases hjn : j < n
  · rw [if_pos (by omega), if_pos (by omega), show 0 + (st - n + j - (st - n)) = j by omega, Nat.sub_zero]
    exact hx j hjn
  · rw [if_neg (by omega), if_neg (by omega), if_pos (by omega), ← h.2.2 (j - n) (by omega)]
    congr 1; omega
