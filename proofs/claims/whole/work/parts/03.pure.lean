/-! numbers, scans and counts -/
theorem nI_inc1 (n : Nat) : nI n + Int32.ofInt 1 = nI (n + 1) := by rw [show Int32.ofInt 1 = (1 : Int32) from by decide]; exact nI_1 n
theorem nI_dec1 {n : Nat} (h : 0 < n) : nI n + Int32.ofInt (-1) = nI (n - 1) := by rw [show Int32.ofInt (-1) = (-1 : Int32) from by decide]; exact sb_m1 h
theorem nI_dec8 {n : Nat} (h : 8 ≤ n) : nI n + Int32.ofInt (-8) = nI (n - 8) := by
  obtain ⟨k, rfl⟩ : ∃ k, n = k + 8 := ⟨n - 8, by omega⟩
  rw [← nI_add, Int32.add_assoc, show nI 8 + Int32.ofInt (-8) = (0 : Int32) from by decide, Int32.add_zero, show k + 8 - 8 = k by omega]
section KC
variable {p : Program} {l : Launch} {e : Env} {R : Room} {s : State} {m : MethodId} {args : Array Value} {below : List Frame} {meth : Method} {c : Code} {H : Heap} {locs : List Loc} {cells slots pc : Nat} {Q : State → Prop} {ls : Array Slot} {rest : List Value} {cc : ByteArray} {nL : Nat} {Ts : List Cond} {own : String}
theorem kIfEqC (hF : CallFix p m c cc nL s args Ts own) {x y : Int64} {off : Int} {tgt : Nat} (hdg : decode cc pc = .ok (.ifCond .eq off, 3)) (ht : (pc : Int) + off = (tgt : Int)) (kt : x = y → W p l e R s m args below meth c H locs cells slots Q (F0 m tgt ls rest)) (kf : ¬ x = y → W p l e R s m args below meth c H locs cells slots Q (F0 m (pc + 3) ls rest)) : W p l e R s m args below meth c H locs cells slots Q (F0 m pc ls (.int (lg_cmp x y) :: rest)) :=
  lv_if_eq hF.1 hF.2.1 hdg ht (fun h => kt ((lg_cmp_eq x y).1 h)) (fun h => kf (fun h2 => h ((lg_cmp_eq x y).2 h2)))
theorem kIfNeC (hF : CallFix p m c cc nL s args Ts own) {x y : Int64} {off : Int} {tgt : Nat} (hdg : decode cc pc = .ok (.ifCond .ne off, 3)) (ht : (pc : Int) + off = (tgt : Int)) (kt : ¬ x = y → W p l e R s m args below meth c H locs cells slots Q (F0 m tgt ls rest)) (kf : x = y → W p l e R s m args below meth c H locs cells slots Q (F0 m (pc + 3) ls rest)) : W p l e R s m args below meth c H locs cells slots Q (F0 m pc ls (.int (lg_cmp x y) :: rest)) :=
  lv_if_ne hF.1 hF.2.1 hdg ht (fun h => kt (fun h2 => h ((lg_cmp_eq x y).2 h2))) (fun h => kf ((lg_cmp_eq x y).1 h))
theorem kIfLeC (hF : CallFix p m c cc nL s args Ts own) {x y : Int64} {off : Int} {tgt : Nat} (hdg : decode cc pc = .ok (.ifCond .le off, 3)) (ht : (pc : Int) + off = (tgt : Int)) (kt : x ≤ y → W p l e R s m args below meth c H locs cells slots Q (F0 m tgt ls rest)) (kf : ¬ x ≤ y → W p l e R s m args below meth c H locs cells slots Q (F0 m (pc + 3) ls rest)) : W p l e R s m args below meth c H locs cells slots Q (F0 m pc ls (.int (lg_cmp x y) :: rest)) :=
  lv_if_le hF.1 hF.2.1 hdg ht (fun h => kt ((lg_cmp_le x y).1 h)) (fun h => kf (fun h2 => h ((lg_cmp_le x y).2 h2)))
end KC
/-- the least place from k on, below k + n, where p fails; k + n if none -/
def scan (p : Nat → Bool) : Nat → Nat → Nat
  | 0, k => k
  | n + 1, k => if p k then scan p n (k + 1) else k
theorem scan_t {p : Nat → Bool} {n k : Nat} (hk : k < n) (h : p k = true) : scan p (n - k) k = scan p (n - (k + 1)) (k + 1) := by
  rw [show n - k = n - (k + 1) + 1 by omega]
  show (if p k then scan p (n - (k + 1)) (k + 1) else k) = _
  rw [h]; rfl
theorem scan_f {p : Nat → Bool} {n k : Nat} (hk : k < n) (h : p k = false) : scan p (n - k) k = k := by
  rw [show n - k = n - (k + 1) + 1 by omega]
  show (if p k then scan p (n - (k + 1)) (k + 1) else k) = _
  rw [h]; rfl
theorem scan_e {p : Nat → Bool} {n k : Nat} (h : n ≤ k) : scan p (n - k) k = k := by rw [Nat.sub_eq_zero_of_le h]; rfl
theorem scan_le {p : Nat → Bool} : ∀ (n k : Nat), k ≤ scan p n k ∧ scan p n k ≤ k + n
  | 0, k => ⟨Nat.le_refl k, Nat.le_refl _⟩
  | n + 1, k => by
    show k ≤ (if p k then scan p n (k + 1) else k) ∧ (if p k then scan p n (k + 1) else k) ≤ k + (n + 1)
    have h := scan_le (p := p) n (k + 1)
    split <;> omega
theorem scan_in {p : Nat → Bool} : ∀ (n k j : Nat), k ≤ j → j < scan p n k → p j = true
  | 0, k, j, h1, h2 => by have h2 : j < k := h2; omega
  | n + 1, k, j, h1, h2 => by
    have h2 : j < (if p k then scan p n (k + 1) else k) := h2
    by_cases hp : p k = true
    · rw [if_pos hp] at h2
      by_cases hj : j = k
      · rw [hj]; exact hp
      · exact scan_in n (k + 1) j (by omega) h2
    · rw [if_neg hp] at h2; omega
theorem scan_at {p : Nat → Bool} : ∀ (n k : Nat), scan p n k < k + n → p (scan p n k) = false
  | 0, k, h => by have h : k < k := h; omega
  | n + 1, k, h => by
    have h : (if p k then scan p n (k + 1) else k) < k + (n + 1) := h
    show p (if p k then scan p n (k + 1) else k) = false
    by_cases hp : p k = true
    · rw [if_pos hp] at h ⊢
      exact scan_at n (k + 1) (by omega)
    · rw [if_neg hp]; simpa using hp
theorem scan_uniq {p : Nat → Bool} {n k j : Nat} (h1 : k ≤ j) (h2 : j ≤ k + n) (h3 : ∀ i, k ≤ i → i < j → p i = true) (h4 : j < k + n → p j = false) : scan p n k = j := by
  have a := scan_le (p := p) n k
  rcases Nat.lt_trichotomy (scan p n k) j with h | h | h
  · have b := scan_at (p := p) n k (by omega)
    rw [h3 _ a.1 h] at b; cases b
  · exact h
  · have b := scan_in (p := p) n k j h1 h
    rw [h4 (by omega)] at b; cases b
/-- how many places below n have p -/
def cntB (p : Nat → Bool) : Nat → Nat
  | 0 => 0
  | n + 1 => cntB p n + (if p n then 1 else 0)
theorem cntB_t {p : Nat → Bool} {k : Nat} (h : p k = true) : cntB p (k + 1) = cntB p k + 1 := by show cntB p k + (if p k then 1 else 0) = _; rw [h]; rfl
theorem cntB_f {p : Nat → Bool} {k : Nat} (h : p k = false) : cntB p (k + 1) = cntB p k := by show cntB p k + (if p k then 1 else 0) = _; rw [h]; rfl
theorem cntB_le {p : Nat → Bool} : ∀ n, cntB p n ≤ n
  | 0 => Nat.le_refl 0
  | n + 1 => by show cntB p n + (if p n then 1 else 0) ≤ n + 1; have := cntB_le (p := p) n; split <;> omega
/-- a place as the answer of a search below n -/
def rI (j n : Nat) : Int32 := if j < n then nI j else -1
theorem rI_t {j n : Nat} (h : j < n) : rI j n = nI j := if_pos h
theorem rI_f {j n : Nat} (h : n ≤ j) : rI j n = -1 := if_neg (by omega)
def shf {α : Type} (f : Nat → α) (p k : Nat) : Nat → α := fun j => if p ≤ j ∧ j < k then f (j + 1) else f j
theorem shf_0 {α : Type} (f : Nat → α) (p : Nat) : shf f p p = f := by funext j; unfold shf; rw [if_neg (by omega)]
theorem shf_s {f : Nat → Int32} {p k : Nat} (h : p ≤ k) : upd (shf f p k) k (shf f p k (k + 1)) = shf f p (k + 1) := by
  funext j
  unfold upd shf
  by_cases hj : j = k
  · rw [if_pos hj, if_neg (by omega), if_pos (by omega), hj]
  · rw [if_neg hj]
    by_cases hk : p ≤ j ∧ j < k
    · rw [if_pos hk, if_pos (by omega)]
    · rw [if_neg hk, if_neg (by omega)]
theorem shf_sL {f : Nat → Int64} {p k : Nat} (h : p ≤ k) : vp_updL (shf f p k) k (shf f p k (k + 1)) = shf f p (k + 1) := by
  funext j
  unfold vp_updL shf
  by_cases hj : j = k
  · rw [if_pos hj, if_neg (by omega), if_pos (by omega), hj]
  · rw [if_neg hj]
    by_cases hk : p ≤ j ∧ j < k
    · rw [if_pos hk, if_pos (by omega)]
    · rw [if_neg hk, if_neg (by omega)]
def fndE (dF : Nat → Int32) (nF : Nat → Int64) (d : Int32) (nm : Int64) (ec : Nat) : Nat := scan (fun j => !(decide (dF j = d) && decide (nF j = nm))) ec 0
/-- the place of the q-th that has p -/
def nth (p : Nat → Bool) (q : Int32) : Nat → Nat → Nat → Nat
  | 0, k, _ => k
  | n + 1, k, b => if p k then (if nI b = q then k else nth p q n (k + 1) (b + 1)) else nth p q n (k + 1) b
theorem nth_e {p : Nat → Bool} {q : Int32} {n k b : Nat} (h : n ≤ k) : nth p q (n - k) k b = k := by rw [Nat.sub_eq_zero_of_le h]; rfl
theorem nth_t {p : Nat → Bool} {q : Int32} {n k b : Nat} (hk : k < n) (h : p k = true) (hb : nI b = q) : nth p q (n - k) k b = k := by
  rw [show n - k = n - (k + 1) + 1 by omega]
  show (if p k then (if nI b = q then k else nth p q (n - (k + 1)) (k + 1) (b + 1)) else nth p q (n - (k + 1)) (k + 1) b) = _
  rw [if_pos h, if_pos hb]
theorem nth_n {p : Nat → Bool} {q : Int32} {n k b : Nat} (hk : k < n) (h : p k = true) (hb : ¬ nI b = q) : nth p q (n - k) k b = nth p q (n - (k + 1)) (k + 1) (b + 1) := by
  rw [show n - k = n - (k + 1) + 1 by omega]
  show (if p k then (if nI b = q then k else nth p q (n - (k + 1)) (k + 1) (b + 1)) else nth p q (n - (k + 1)) (k + 1) b) = _
  rw [if_pos h, if_neg hb]
theorem nth_f {p : Nat → Bool} {q : Int32} {n k b : Nat} (hk : k < n) (h : p k = false) : nth p q (n - k) k b = nth p q (n - (k + 1)) (k + 1) b := by
  rw [show n - k = n - (k + 1) + 1 by omega]
  show (if p k then (if nI b = q then k else nth p q (n - (k + 1)) (k + 1) (b + 1)) else nth p q (n - (k + 1)) (k + 1) b) = _
  rw [h]; rfl
def rL (j n : Nat) (f : Nat → Int64) : Int64 := if j < n then f j else lN 0
theorem rL_t {j n : Nat} {f : Nat → Int64} (h : j < n) : rL j n f = f j := if_pos h
theorem rL_f {j n : Nat} {f : Nat → Int64} (h : n ≤ j) : rL j n f = lN 0 := if_neg (by omega)
theorem rI_lt {j n : Nat} (h : ¬ rI j n = -1) : j < n := by
  by_cases h2 : j < n
  · exact h2
  · exact absurd (rI_f (by omega)) h
theorem rI_ge {j n : Nat} (h : rI j n = -1) (hj : n < 2 ^ 31 := by omega) : n ≤ j := by
  by_cases h2 : j < n
  · rw [rI_t h2] at h
    have := nI_pos (n := j) (by omega)
    rw [h] at this
    exact absurd (by decide) this
  · omega
/-- the volume over o, 0 if none -/
def covJ (cF : Nat → Int32) (o : Int32) (vn : Nat) : Nat := scan (fun v => !decide (cF v = o)) (vn - 1) 1
def covN (cF : Nat → Int32) (o : Int32) (vn : Nat) : Nat := if covJ cF o vn < vn then covJ cF o vn else 0
theorem covN_t {cF : Nat → Int32} {o : Int32} {vn k : Nat} (h : scan (fun v => !decide (cF v = o)) (vn - 1) 1 = k) (hk : k < vn) : covN cF o vn = k := by
  unfold covN covJ; rw [h, if_pos hk]
theorem covN_f {cF : Nat → Int32} {o : Int32} {vn : Nat} (h : vn ≤ scan (fun v => !decide (cF v = o)) (vn - 1) 1) : covN cF o vn = 0 := by
  unfold covN covJ; rw [if_neg (by omega)]
theorem covN_lt {cF : Nat → Int32} {o : Int32} {vn : Nat} (h : 1 ≤ vn ∧ vn ≤ 4) : covN cF o vn < vn := by
  unfold covN; split <;> omega
def mwrN (rF cF : Nat → Int32) (o : Int32) (vn : Nat) : Nat := scan (fun v => !(decide (rF v = o) && !decide (cF v = -1))) (vn - 1) 1
def topC (rF cF : Nat → Int32) (vn : Nat) : Nat → Int32 → Int32
  | 0, h => h
  | n + 1, h => if covN cF h vn = 0 then h else topC rF cF vn n (rF (covN cF h vn))
theorem topC_e {rF cF : Nat → Int32} {vn n k : Nat} {h : Int32} (hk : n ≤ k) : topC rF cF vn (n - k) h = h := by rw [Nat.sub_eq_zero_of_le hk]; rfl
theorem topC_r {rF cF : Nat → Int32} {vn n k : Nat} {h : Int32} (hk : k < n) (h0 : covN cF h vn = 0) : topC rF cF vn (n - k) h = h := by
  rw [show n - k = n - (k + 1) + 1 by omega]; show (if covN cF h vn = 0 then h else _) = _; rw [if_pos h0]
theorem topC_s {rF cF : Nat → Int32} {vn n k : Nat} {h : Int32} (hk : k < n) (h0 : 0 < covN cF h vn) : topC rF cF vn (n - k) h = topC rF cF vn (n - (k + 1)) (rF (covN cF h vn)) := by
  rw [show n - k = n - (k + 1) + 1 by omega]; show (if covN cF h vn = 0 then h else topC rF cF vn (n - (k + 1)) (rF (covN cF h vn))) = _; rw [if_neg (by omega)]
def grdC (rF cF : Nat → Int32) (vn : Nat) : Nat → Int32 → Int32
  | 0, h => h
  | n + 1, h => if vn ≤ mwrN rF cF h vn then h else grdC rF cF vn n (cF (mwrN rF cF h vn))
theorem grdC_e {rF cF : Nat → Int32} {vn n k : Nat} {h : Int32} (hk : n ≤ k) : grdC rF cF vn (n - k) h = h := by rw [Nat.sub_eq_zero_of_le hk]; rfl
theorem grdC_r {rF cF : Nat → Int32} {vn n k : Nat} {h : Int32} (hk : k < n) (h0 : vn ≤ mwrN rF cF h vn) : grdC rF cF vn (n - k) h = h := by
  rw [show n - k = n - (k + 1) + 1 by omega]; show (if vn ≤ mwrN rF cF h vn then h else _) = _; rw [if_pos h0]
theorem grdC_s {rF cF : Nat → Int32} {vn n k : Nat} {h : Int32} (hk : k < n) (h0 : mwrN rF cF h vn < vn) : grdC rF cF vn (n - k) h = grdC rF cF vn (n - (k + 1)) (cF (mwrN rF cF h vn)) := by
  rw [show n - k = n - (k + 1) + 1 by omega]; show (if vn ≤ mwrN rF cF h vn then h else grdC rF cF vn (n - (k + 1)) (cF (mwrN rF cF h vn))) = _; rw [if_neg (by omega)]
theorem mwr_spec {rF cF : Nat → Int32} {o : Int32} {vn : Nat} (h : mwrN rF cF o vn < vn) (h1 : 1 ≤ vn) : 1 ≤ mwrN rF cF o vn ∧ rF (mwrN rF cF o vn) = o ∧ ¬ cF (mwrN rF cF o vn) = -1 := by
  have a := scan_le (p := fun v => !(decide (rF v = o) && !decide (cF v = -1))) (vn - 1) 1
  have b := scan_at (p := fun v => !(decide (rF v = o) && !decide (cF v = -1))) (vn - 1) 1 (by unfold mwrN at h; omega)
  refine ⟨a.1, ?_⟩
  unfold mwrN
  simpa using b
theorem grdC_in {rF cF : Nat → Int32} {vn : Nat} {d : Int32} (hcr : ∀ v, v < 4 → cF v = -1 ∨ vp_in (cF v) 40) (hd : vp_in d 40) (hvn : 1 ≤ vn ∧ vn ≤ 4 := by assumption) : ∀ {n : Nat}, vp_in (grdC rF cF vn n d) 40 := by
  intro n
  induction n generalizing d with
  | zero => exact hd
  | succ n ih =>
    show vp_in (if vn ≤ mwrN rF cF d vn then d else grdC rF cF vn n (cF (mwrN rF cF d vn))) 40
    by_cases h : vn ≤ mwrN rF cF d vn
    · rw [if_pos h]; exact hd
    · rw [if_neg h]
      refine ih ?_
      have a := mwr_spec (rF := rF) (cF := cF) (o := d) (vn := vn) (by omega) hvn.1
      rcases hcr (mwrN rF cF d vn) (by omega) with h2 | h2
      · exact absurd h2 a.2.2
      · exact h2
theorem topC_in {rF cF : Nat → Int32} {vn : Nat} {d : Int32} (hrr : ∀ v, v < 4 → vp_in (rF v) 40) (hd : vp_in d 40) (hvn : 1 ≤ vn ∧ vn ≤ 4 := by assumption) : ∀ {n : Nat}, vp_in (topC rF cF vn n d) 40 := by
  intro n
  induction n generalizing d with
  | zero => exact hd
  | succ n ih =>
    show vp_in (if covN cF d vn = 0 then d else topC rF cF vn n (rF (covN cF d vn))) 40
    by_cases h : covN cF d vn = 0
    · rw [if_pos h]; exact hd
    · rw [if_neg h]
      have := covN_lt (cF := cF) (o := d) hvn
      exact ih (hrr _ (by omega))
theorem vp_ix {i : Int32} {n : Nat} (h : vp_in i n) : ix i < n := by
  rcases Nat.lt_or_ge (ix i) n with a | a
  · exact a
  · exact absurd (Or.inr a) h
def abvC (rF cF pF : Nat → Int32) (vn : Nat) (d r0 : Int32) : Int32 := if d = r0 then r0 else topC rF cF vn 4 (pF (ix (grdC rF cF vn 4 d)))
theorem abvC_t {rF cF pF : Nat → Int32} {vn : Nat} {d r0 : Int32} (h : d = r0) : abvC rF cF pF vn d r0 = r0 := if_pos h
theorem abvC_f {rF cF pF : Nat → Int32} {vn : Nat} {d r0 : Int32} (h : ¬ d = r0) : abvC rF cF pF vn d r0 = topC rF cF vn 4 (pF (ix (grdC rF cF vn 4 d))) := if_neg h
theorem abvC_in {rF cF pF : Nat → Int32} {vn : Nat} {d r0 : Int32} (hvn : 1 ≤ vn ∧ vn ≤ 4) (hcr : ∀ v, v < 4 → cF v = -1 ∨ vp_in (cF v) 40) (hrr : ∀ v, v < 4 → vp_in (rF v) 40) (hpr : ∀ i, i < 40 → vp_in (pF i) 40) (hd : vp_in d 40) (hr : vp_in r0 40) : vp_in (abvC rF cF pF vn d r0) 40 := by
  unfold abvC
  split
  · exact hr
  · exact topC_in hrr (hpr _ (vp_ix (grdC_in hcr hd)))
def mayP (us md ow rt : Int32) : Prop := us = 0 ∨ ¬ ((if us = ow then md / nI 4 else md - md / nI 4 * nI 4) &&& rt) = 0
abbrev isS (f : Nat → Int32) : Nat → Bool := fun j => decide (f j = nI 47)
abbrev noS (f : Nat → Int32) : Nat → Bool := fun j => !decide (f j = nI 47)
/-- a name out of its characters, a byte each -/
def nmC (f : Nat → Int32) : Nat → Nat → Int64 → Int64
  | 0, _, a => a
  | n + 1, k, a => nmC f n (k + 1) ((a <<< ((nI 8).toInt64 &&& 63)) ||| (f k).toInt64)
theorem nmC_e {f : Nat → Int32} {n k : Nat} {a : Int64} (h : n ≤ k) : nmC f (n - k) k a = a := by rw [Nat.sub_eq_zero_of_le h]; rfl
theorem nmC_s {f : Nat → Int32} {n k : Nat} {a : Int64} (h : k < n) : nmC f (n - k) k a = nmC f (n - (k + 1)) (k + 1) ((a <<< ((nI 8).toInt64 &&& 63)) ||| (f k).toInt64) := by
  rw [show n - k = n - (k + 1) + 1 by omega]; rfl
/-- what stands against a name: the codes of takeName -/
noncomputable def tkR (kF mF oF : Nat → Int32) (us a : Int32) (len : Nat) : Int32 := if kF (ix a) = nI 1 then pI (mayP us (mF (ix a)) (oF (ix a)) (nI 1)) (if 6 < len then -5 else nI 0) (-3) else -2
theorem cpy_s {fl f : Nat → Int32} {n st i : Nat} (hi : i < n) (hn : n ≤ st) : upd (va_cpy fl f (n - i) (st - i) i) (st - i - 1) (fl (n - i - 1)) = va_cpy fl f (n - i - 1) (st - i - 1) (i + 1) := by
  funext j
  unfold upd va_cpy
  by_cases hj : j = st - i - 1
  · rw [if_pos hj, if_pos (by omega), show n - i - 1 + (j - (st - i - 1)) = n - i - 1 by omega]
  · rw [if_neg hj]
    by_cases hk : st - i ≤ j ∧ j < st - i + i
    · rw [if_pos hk, if_pos (by omega), show n - i + (j - (st - i)) = n - i - 1 + (j - (st - i - 1)) by omega]
    · rw [if_neg hk, if_neg (by omega)]
theorem nI_m1s (x : Int32) : x + Int32.ofInt (-1) = x - nI 1 := by rw [Int32.sub_eq_add_neg]; congr 1
theorem nI_m1lt {i : Nat} (h : i < 2 ^ 31) : (nI i - nI 1 < 0) ↔ i = 0 := by
  constructor
  · intro h2
    rcases Nat.eq_zero_or_pos i with h3 | h3
    · exact h3
    · rw [pk_sub (by omega : 1 ≤ i)] at h2
      exact absurd h2 (nI_pos (by omega))
  · intro h2; rw [h2]; decide
