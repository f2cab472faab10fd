/-! pasted out of the kit's laws/BITS.to-paste: the families wb_ and pf_ -/
theorem wb_tb (n : Nat) : (lN n).toBitVec = BitVec.ofNat 64 n := rfl
theorem wb_inj {a b : Int64} (h : a.toBitVec = b.toBitVec) : a = b := Int64.toBitVec_inj.mp h
theorem wb_tn {n : Nat} (h : n < 2 ^ 64) : (lN n).toBitVec.toNat = n := by rw [wb_tb, BitVec.toNat_ofNat, Nat.mod_eq_of_lt h]
theorem wb_of (x : Int64) : ∃ n, n < 2 ^ 64 ∧ x = lN n := ⟨x.toBitVec.toNat, x.toBitVec.isLt, wb_inj (by rw [wb_tb]; simp)⟩
theorem wb_of32 (x : Int32) : ∃ n, n < 2 ^ 32 ∧ x = nI n := ⟨x.toBitVec.toNat, x.toBitVec.isLt, Int32.toBitVec_inj.mp (by show _ = BitVec.ofNat 32 _; simp)⟩
theorem wb_c : ∀ k, k < 64 → ((nI k).toInt64 &&& 63) = lN k := by decide +kernel
theorem wb_cu : ∀ k, k < 64 → ((nI k).toInt64.toUInt64 &&& Int64.toUInt64 63) = UInt64.ofNat k := by decide +kernel
theorem wb_sm : ∀ k, k < 64 → (BitVec.ofNat 64 k).smod 64 = BitVec.ofNat 64 k := by decide +kernel
theorem wb_pw {a b : Nat} (h : a ≤ b) : 2 ^ b = 2 ^ a * 2 ^ (b - a) := by rw [← Nat.pow_add]; congr 1; omega
theorem wb_lt2 {a b : Nat} (h : a < b) : 2 ^ a < 2 ^ b := Nat.pow_lt_pow_right (by decide) h
theorem wb_mod (n : Nat) : lN n = lN (n % 2 ^ 64) := wb_inj (by rw [wb_tb, wb_tb]; apply BitVec.eq_of_toNat_eq; rw [BitVec.toNat_ofNat, BitVec.toNat_ofNat, Nat.mod_mod])
theorem wb_shr {n k : Nat} (hn : n < 2 ^ 64) (hk : k < 64) : ((lN n).toUInt64 >>> ((nI k).toInt64.toUInt64 &&& Int64.toUInt64 63)).toInt64 = lN (n / 2 ^ k) := by
  rw [wb_cu k hk]
  apply wb_inj
  apply BitVec.eq_of_toNat_eq
  show ((lN n).toUInt64 >>> UInt64.ofNat k).toNat = (BitVec.ofNat 64 _).toNat
  have h1 : (UInt64.ofNat k).toNat = k := by
    show (BitVec.ofNat 64 k).toNat = k
    rw [BitVec.toNat_ofNat, Nat.mod_eq_of_lt (by omega)]
  have h2 : (lN n).toUInt64.toNat = n := wb_tn hn
  rw [UInt64.toNat_shiftRight, h1, h2, Nat.mod_eq_of_lt hk, Nat.shiftRight_eq_div_pow, BitVec.toNat_ofNat, Nat.mod_eq_of_lt (Nat.lt_of_le_of_lt (Nat.div_le_self _ _) hn)]
theorem wb_shl (n : Nat) {k : Nat} (hk : k < 64) : lN n <<< ((nI k).toInt64 &&& 63) = lN (n * 2 ^ k) := by
  rw [wb_c k hk]
  apply wb_inj
  rw [Int64.toBitVec_shiftLeft, wb_tb, wb_tb, wb_tb, wb_sm k hk]
  apply BitVec.eq_of_toNat_eq
  rw [BitVec.shiftLeft_eq', BitVec.toNat_shiftLeft, BitVec.toNat_ofNat, BitVec.toNat_ofNat, BitVec.toNat_ofNat, Nat.mod_eq_of_lt (show k < 2 ^ 64 by omega), Nat.shiftLeft_eq, Nat.mul_mod, Nat.mod_mod, ← Nat.mul_mod]
theorem wb_and {a b : Nat} (ha : a < 2 ^ 64) (hb : b < 2 ^ 64) : lN a &&& lN b = lN (a &&& b) := by
  apply wb_inj
  rw [Int64.toBitVec_and, wb_tb, wb_tb, wb_tb]
  apply BitVec.eq_of_toNat_eq
  rw [BitVec.toNat_and, BitVec.toNat_ofNat, BitVec.toNat_ofNat, BitVec.toNat_ofNat, Nat.mod_eq_of_lt ha, Nat.mod_eq_of_lt hb, Nat.mod_eq_of_lt (Nat.and_lt_two_pow _ hb)]
theorem wb_or {a b : Nat} (ha : a < 2 ^ 64) (hb : b < 2 ^ 64) : lN a ||| lN b = lN (a ||| b) := by
  apply wb_inj
  rw [Int64.toBitVec_or, wb_tb, wb_tb, wb_tb]
  apply BitVec.eq_of_toNat_eq
  rw [BitVec.toNat_or, BitVec.toNat_ofNat, BitVec.toNat_ofNat, BitVec.toNat_ofNat, Nat.mod_eq_of_lt ha, Nat.mod_eq_of_lt hb, Nat.mod_eq_of_lt (Nat.or_lt_two_pow ha hb)]
theorem wb_mask {n k : Nat} (hn : n < 2 ^ 64) (hk : k < 64) : lN n &&& lN (2 ^ k - 1) = lN (n % 2 ^ k) := by
  rw [wb_and hn (by have := wb_lt2 hk; omega), Nat.and_two_pow_sub_one_eq_mod]
theorem pf_lI {a : Nat} (h : a < 2 ^ 63) : (lN a).toInt = (a : Int) := lg_ofNat_toInt h
theorem pf_shr {a d : Nat} {D : Int64} (hD : (D.toBitVec.smod 64).toNat = d) (h : a < 2 ^ 62) : lN a >>> D = lN (a / 2 ^ d) := by
  have hd : a / 2 ^ d ≤ a := Nat.div_le_self _ _
  apply Int64.toInt_inj.mp
  have e : (lN a >>> D).toInt = (lN a).toInt >>> d := by
    rw [← hD]
    exact BitVec.toInt_sshiftRight ..
  rw [e, Int.shiftRight_eq_div_pow, pf_lI (by omega), pf_lI (by omega)]
  rfl
theorem pf_ushr {a d : Nat} {D : UInt64} (hD : D.toNat % 64 = d) (h : a < 2 ^ 62) : ((lN a).toUInt64 >>> D).toInt64 = lN (a / 2 ^ d) := by
  have hd : a / 2 ^ d ≤ a := Nat.div_le_self _ _
  have e : (lN a).toUInt64 >>> D = UInt64.ofNat (a / 2 ^ d) := UInt64.toNat_inj.mp (by
    rw [UInt64.toNat_shiftRight, hD, Nat.shiftRight_eq_div_pow, UInt64.toNat_ofNat']
    show (UInt64.ofNat a).toNat / 2 ^ d = _
    rw [UInt64.toNat_ofNat', Nat.mod_eq_of_lt (by omega), Nat.mod_eq_of_lt (by omega)])
  rw [e]
  rfl

/-! the reference's path in pure words -/
def chN : Nat → Nat → Nat
  | 0, _ => 0
  | n + 1, v => if v = 0 then 0 else chN n (v / 128) + 1
theorem chN_le : ∀ n v, chN n v ≤ n
  | 0, _ => Nat.le_refl 0
  | n + 1, v => by show (if v = 0 then 0 else chN n (v / 128) + 1) ≤ n + 1; have := chN_le n (v / 128); split <;> omega
theorem chN_0 {n : Nat} : chN n 0 = 0 := by cases n <;> rfl
theorem chN_s {n k v : Nat} (hk : k < n) (h : 0 < v) : chN (n - k) v = chN (n - (k + 1)) (v / 128) + 1 := by
  rw [show n - k = n - (k + 1) + 1 by omega]; exact if_neg (by omega)
theorem dv128 {v k : Nat} (hk : k ≤ 6) (h : v < 128 ^ (6 - k)) (h0 : 0 < v) : k < 6 ∧ v / 128 < 128 ^ (6 - (k + 1)) := by
  have h6 : k < 6 := by
    rcases Nat.lt_or_ge k 6 with h1 | h1
    · exact h1
    · rw [show 6 - k = 0 by omega] at h; omega
  refine ⟨h6, ?_⟩
  rw [show 6 - k = 6 - (k + 1) + 1 by omega, Nat.pow_succ] at h
  exact Nat.div_lt_of_lt_mul (by rw [Nat.mul_comm]; exact h)
theorem lt128 {v k : Nat} (h : v < 128 ^ (6 - k)) : v < 2 ^ 62 := by
  have : 128 ^ (6 - k) ≤ 128 ^ 6 := Nat.pow_le_pow_right (by decide) (by omega)
  have h2 : 128 ^ 6 < 2 ^ 62 := by decide
  omega
def wrN : Nat → Nat → Nat → (Nat → Int32) → Nat × (Nat → Int32)
  | 0, p, _, f => (p, f)
  | n + 1, p, v, f => if v = 0 then (p, f) else wrN n (p - 1) (v / 128) (upd f (p - 1) (nI (v % 128)))
theorem wrN_0 {n p : Nat} {f : Nat → Int32} : wrN n p 0 f = (p, f) := by cases n <;> rfl
theorem wrN_s {n k p v : Nat} {f : Nat → Int32} (hk : k < n) (h : 0 < v) : wrN (n - k) p v f = wrN (n - (k + 1)) (p - 1) (v / 128) (upd f (p - 1) (nI (v % 128))) := by
  rw [show n - k = n - (k + 1) + 1 by omega]; exact if_neg (by omega)
theorem wrN_1 : ∀ (n p v : Nat) (f : Nat → Int32), (wrN n p v f).1 = p - chN n v
  | 0, p, v, f => rfl
  | n + 1, p, v, f => by
    show (if v = 0 then (p, f) else wrN n (p - 1) (v / 128) (upd f (p - 1) (nI (v % 128)))).1 = p - (if v = 0 then 0 else chN n (v / 128) + 1)
    split
    · rfl
    · rw [wrN_1 n]; omega
def nvD (bF dF pF : Nat → Int32) (ec : Nat) (NV : Nat → Nat) (d : Int32) : Nat := if scan (fun j => !(decide (bF j = d) && decide (dF j = pF (ix d)))) ec 0 < ec then NV (scan (fun j => !(decide (bF j = d) && decide (dF j = pF (ix d)))) ec 0) else 0
theorem nvD_eq {bF dF pF : Nat → Int32} {ec : Nat} {NV : Nat → Nat} {nF : Nat → Int64} {d : Int32} (h : ∀ k, k < ec → nF k = lN (NV k) ∧ NV k < 128 ^ 6) : rL (scan (fun j => !(decide (bF j = d) && decide (dF j = pF (ix d)))) ec 0) ec nF = lN (nvD bF dF pF ec NV d) ∧ nvD bF dF pF ec NV d < 128 ^ 6 := by
  unfold nvD rL
  split
  · rename_i h1; exact h _ h1
  · exact ⟨rfl, by decide⟩
def sP (ch : Nat → Nat) : Nat → Nat
  | 0 => 0
  | k + 1 => sP ch k + 1 + ch k
theorem sP_le {ch : Nat → Nat} (h : ∀ k, ch k ≤ 6) : ∀ k, sP ch k ≤ 7 * k
  | 0 => Nat.le_refl 0
  | k + 1 => by have := sP_le h k; have := h k; show sP ch k + 1 + ch k ≤ 7 * (k + 1); omega
theorem sP_mono {ch : Nat → Nat} : ∀ {a b : Nat}, a ≤ b → sP ch a ≤ sP ch b := by
  intro a b h
  induction h with
  | refl => exact Nat.le_refl _
  | step _ ih => exact Nat.le_trans ih (by show _ ≤ sP ch _ + 1 + ch _; omega)
/-- the names written from the end: place and text behind k of them -/
def pwR (vv : Nat → Nat) (T : Nat) (f : Nat → Int32) : Nat → Nat × (Nat → Int32)
  | 0 => (T, f)
  | k + 1 => ((wrN 6 (pwR vv T f k).1 (vv k) (pwR vv T f k).2).1 - 1, upd (wrN 6 (pwR vv T f k).1 (vv k) (pwR vv T f k).2).2 ((wrN 6 (pwR vv T f k).1 (vv k) (pwR vv T f k).2).1 - 1) (nI 47))
abbrev chV (vv : Nat → Nat) : Nat → Nat := fun k => chN 6 (vv k)
def ptR (vv : Nat → Nat) (nn tn : Nat) (f : Nat → Int32) : Int32 × Nat × (Nat → Int32) := if nn = 0 then (nI 1, 1, upd f 0 (nI 47)) else if 40 < sP (chV vv) nn then (-5, tn, f) else (nI (sP (chV vv) nn), sP (chV vv) nn, (pwR vv (sP (chV vv) nn) f nn).2)
theorem land127 {v : Nat} (h : v < 2 ^ 62) : (lN v &&& lN 127).toInt32 = nI (v % 128) := by
  rw [show (127 : Nat) = 2 ^ 7 - 1 from rfl, wb_mask (by omega) (by decide), lN_i]
theorem lshr7 {v : Nat} (h : v < 2 ^ 62) : lN v >>> ((nI 7).toInt64 &&& 63) = lN (v / 128) := pf_shr (d := 7) (by decide) h
theorem lN_le0 {v : Nat} (h : v < 2 ^ 62) : lN v ≤ lN 0 ↔ v = 0 := by rw [pk_lLE (by omega) (by decide)]; omega
