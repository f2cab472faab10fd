/-! link and type in pure words -/
noncomputable def lkC (kF mF oF pF rF cF : Nat → Int32) (vn : Nat) (dF : Nat → Int32) (nF : Nat → Int64) (bF : Nat → Int32) (ec : Nat) (LN : Nat → Nat) (LF : Nat → Nat → Int32) (us ro : Int32) (vF : Nat → Int32) (pr : Int32) (f g : Nat → Int32) (n : Nat) (fl : Nat → Int32) (yn : Nat) (yf : Nat → Int32) : Int32 × Nat × (Nat → Int32) × (Nat → Int64) × (Nat → Int32) := if thrT kF mF oF pF rF cF vn dF nF bF ec LN LF us ro pr (nI 0) f yn yf < 0 then (thrT kF mF oF pF rF cF vn dF nF bF ec LN LF us ro pr (nI 0) f yn yf, ec, dF, nF, bF) else if kF (ix (thrT kF mF oF pF rF cF vn dF nF bF ec LN LF us ro pr (nI 0) f yn yf)) = nI 1 then (-11, ec, dF, nF, bF) else if cnC kF mF oF pF rF cF vn dF nF bF ec LN LF us ro pr g n fl (nI 0) = nI 0 then (if vF (ix (tlnT kF mF oF pF rF cF vn dF nF bF ec LN LF us ro pr g n fl).2.1) = vF (ix (thrT kF mF oF pF rF cF vn dF nF bF ec LN LF us ro pr (nI 0) f yn yf)) then (if 80 ≤ ec then (-10, ec, dF, nF, bF) else (thrT kF mF oF pF rF cF vn dF nF bF ec LN LF us ro pr (nI 0) f yn yf, ec + 1, upd dF ec (tlnT kF mF oF pF rF cF vn dF nF bF ec LN LF us ro pr g n fl).2.1, vp_updL nF ec (tlnT kF mF oF pF rF cF vn dF nF bF ec LN LF us ro pr g n fl).2.2.1, upd bF ec (thrT kF mF oF pF rF cF vn dF nF bF ec LN LF us ro pr (nI 0) f yn yf))) else (-9, ec, dF, nF, bF)) else (cnC kF mF oF pF rF cF vn dF nF bF ec LN LF us ro pr g n fl (nI 0), ec, dF, nF, bF)
/-- the k-th byte of a word, the highest first -/
def by4 (w : Int32) (k : Nat) : Nat := w.toBitVec.toNat / 2 ^ (24 - 8 * k) % 256
theorem by4_lt (w : Int32) (k : Nat) : by4 w k < 256 := Nat.mod_lt _ (by decide)
def shI (k : Nat) : Int32 := Int32.ofInt (24 - 8 * k)
theorem shI_0 : nI 24 = shI 0 := by decide
theorem shI_s : ∀ k, k < 4 → shI k + Int32.ofInt (-8) = shI (k + 1) := by decide
theorem shI_lt : ∀ k, k < 5 → (shI k < 0 ↔ k = 4) := by decide
theorem shI_u : ∀ k, k < 4 → (((shI k).toUInt32 &&& Int32.toUInt32 31).toBitVec % 32).toNat = 24 - 8 * k := by decide
theorem by4_c (w : Int32) {k : Nat} (hk : k < 4) : (w.toUInt32 >>> ((shI k).toUInt32 &&& Int32.toUInt32 31)).toInt32 &&& nI 255 = nI (by4 w k) := by
  rw [pk_and _ 8 (by decide), pk_ushr w (shI k) (24 - 8 * k) (shI_u k hk)]
  rfl
/-- all four bytes are empty or may stand in a text -/
def okB (w : Int32) (k : Nat) : Bool := decide (by4 w k = 0) || (decide (33 ≤ by4 w k) && decide (by4 w k ≤ 126))
def nzB (w : Int32) (k : Nat) : Bool := !decide (by4 w k = 0)
/-- the text with the bytes from k on behind it -/
def tyF (w : Int32) : Nat → Nat → Nat → (Nat → Int32) → Nat × (Nat → Int32)
  | 0, _, n, f => (n, f)
  | m + 1, k, n, f => if by4 w k = 0 then tyF w m (k + 1) n f else tyF w m (k + 1) (n + 1) (upd f n (nI (by4 w k)))
theorem tyF_e {w : Int32} {k n : Nat} {f : Nat → Int32} (h : 4 ≤ k) : tyF w (4 - k) k n f = (n, f) := by rw [Nat.sub_eq_zero_of_le h]; rfl
theorem tyF_0 {w : Int32} {k n : Nat} {f : Nat → Int32} (hk : k < 4) (h : by4 w k = 0) : tyF w (4 - k) k n f = tyF w (4 - (k + 1)) (k + 1) n f := by
  rw [show 4 - k = 4 - (k + 1) + 1 by omega]; exact if_pos h
theorem tyF_1 {w : Int32} {k n : Nat} {f : Nat → Int32} (hk : k < 4) (h : ¬ by4 w k = 0) : tyF w (4 - k) k n f = tyF w (4 - (k + 1)) (k + 1) (n + 1) (upd f n (nI (by4 w k))) := by
  rw [show 4 - k = 4 - (k + 1) + 1 by omega]; exact if_neg h
/-- how many of the bytes from k on are not empty -/
def tyN (w : Int32) : Nat → Nat → Nat
  | 0, _ => 0
  | m + 1, k => (if by4 w k = 0 then 0 else 1) + tyN w m (k + 1)
theorem tyN_0 {w : Int32} {k : Nat} (hk : k < 4) (h : by4 w k = 0) : tyN w (4 - k) k = tyN w (4 - (k + 1)) (k + 1) := by
  rw [show 4 - k = 4 - (k + 1) + 1 by omega]; show (if by4 w k = 0 then 0 else 1) + _ = _; rw [if_pos h, Nat.zero_add]
theorem tyN_1 {w : Int32} {k : Nat} (hk : k < 4) (h : ¬ by4 w k = 0) : tyN w (4 - k) k = tyN w (4 - (k + 1)) (k + 1) + 1 := by
  rw [show 4 - k = 4 - (k + 1) + 1 by omega]; show (if by4 w k = 0 then 0 else 1) + _ = _; rw [if_neg h, Nat.add_comm]
theorem tyN_e {w : Int32} {k : Nat} (h : 4 ≤ k) : tyN w (4 - k) k = 0 := by rw [Nat.sub_eq_zero_of_le h]; rfl
def tyB (w : Int32) : Nat → Nat → Bool
  | 0, _ => true
  | m + 1, k => okB w k && tyB w m (k + 1)
theorem tyB_t {w : Int32} {k : Nat} (hk : k < 4) (h : okB w k = true) : tyB w (4 - k) k = tyB w (4 - (k + 1)) (k + 1) := by
  rw [show 4 - k = 4 - (k + 1) + 1 by omega]; show (okB w k && _) = _; rw [h, Bool.true_and]
theorem tyB_f {w : Int32} {k : Nat} (hk : k < 4) (h : okB w k = false) : tyB w (4 - k) k = false := by
  rw [show 4 - k = 4 - (k + 1) + 1 by omega]; show (okB w k && _) = _; rw [h, Bool.false_and]
theorem tyB_e {w : Int32} {k : Nat} (h : 4 ≤ k) : tyB w (4 - k) k = true := by rw [Nat.sub_eq_zero_of_le h]; rfl
def tyC (w : Int32) (n : Nat) (f : Nat → Int32) : Bool × Nat × (Nat → Int32) := if tyB w 4 0 = true ∧ n + tyN w 4 0 ≤ 40 then (true, (tyF w 4 0 n f).1, (tyF w 4 0 n f).2) else (false, n, f)
