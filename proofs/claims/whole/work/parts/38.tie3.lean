/-! names: base 256 against base 128 -/
def enc (b : Nat) (l : List Nat) : Nat := l.foldl (fun a c => a * b + c) 0
theorem enc_nil (b : Nat) : enc b [] = 0 := rfl
theorem enc_snoc (b : Nat) (l : List Nat) (c : Nat) : enc b (l ++ [c]) = enc b l * b + c := by unfold enc; rw [List.foldl_append]; rfl
theorem list_snoc (l : List Nat) : l = [] ∨ ∃ (m : List Nat) (c : Nat), l = m ++ [c] := by
  rcases List.eq_nil_or_concat l with h | ⟨m, c, h⟩
  · exact Or.inl h
  · exact Or.inr ⟨m, c, by rw [h]; simp⟩
theorem enc_inj {b : Nat} : ∀ (n : Nat) (l m : List Nat), l.length ≤ n → (∀ c ∈ l, 0 < c ∧ c < b) → (∀ c ∈ m, 0 < c ∧ c < b) → enc b l = enc b m → l = m
  | n, l, m, hn, hl, hm, h => by
    rcases list_snoc l with rfl | ⟨l', c, rfl⟩ <;> rcases list_snoc m with rfl | ⟨m', d, rfl⟩
    · rfl
    · rw [enc_nil, enc_snoc] at h
      have := hm d (by simp)
      omega
    · rw [enc_nil, enc_snoc] at h
      have := hl c (by simp)
      omega
    · rw [enc_snoc, enc_snoc] at h
      have hc := hl c (by simp)
      have hd := hm d (by simp)
      have e1 : c = d := by
        have h1 : (enc b l' * b + c) % b = c := by rw [Nat.mul_comm, Nat.mul_add_mod, Nat.mod_eq_of_lt hc.2]
        have h2 : (enc b m' * b + d) % b = d := by rw [Nat.mul_comm, Nat.mul_add_mod, Nat.mod_eq_of_lt hd.2]
        rw [← h1, h, h2]
      subst e1
      have e2 : enc b l' = enc b m' := Nat.eq_of_mul_eq_mul_right (show 0 < b by omega) (by omega)
      cases n with
      | zero => simp at hn
      | succ n =>
        rw [enc_inj n l' m' (by simp at hn; omega) (fun x hx => hl x (by simp [hx])) (fun x hx => hm x (by simp [hx])) e2]
theorem enc_lt {b : Nat} (hb : 0 < b) : ∀ (n : Nat) (l : List Nat), l.length = n → (∀ c ∈ l, c < b) → enc b l < b ^ n
  | 0, l, h, _ => by rw [List.length_eq_zero_iff.mp h]; exact Nat.pow_pos hb
  | n + 1, l, h, hl => by
    rcases list_snoc l with rfl | ⟨l', c, rfl⟩
    · simp at h
    · rw [enc_snoc, Nat.pow_succ]
      have := enc_lt hb n l' (by simp at h; exact h) (fun x hx => hl x (by simp [hx]))
      have hc := hl c (by simp)
      have h2 : (enc b l' + 1) * b ≤ b ^ n * b := Nat.mul_le_mul_right b (by omega)
      rw [Nat.add_mul, Nat.one_mul] at h2
      omega
/-- a character of a text -/
def okT (x : Int32) : Prop := ∃ q : Nat, 33 ≤ q ∧ q ≤ 126 ∧ x = nI q
theorem okT_ix {x : Int32} (h : okT x) : 33 ≤ ix x ∧ ix x ≤ 126 ∧ x = nI (ix x) := by
  obtain ⟨q, h1, h2, rfl⟩ := h
  rw [ix_nI (by omega)]; exact ⟨h1, h2, rfl⟩
def nmL (q : Nat → Int32) (j : Nat) : List Nat := (List.range j).map (fun i => ix (q i))
theorem nmL_s (q : Nat → Int32) (j : Nat) : nmL q (j + 1) = nmL q j ++ [ix (q j)] := by unfold nmL; rw [List.range_succ, List.map_append]; rfl
theorem nmL_len (q : Nat → Int32) (j : Nat) : (nmL q j).length = j := by unfold nmL; simp
theorem nmL_in {q : Nat → Int32} {j : Nat} (h : ∀ i, i < j → okT (q i)) : ∀ c ∈ nmL q j, 33 ≤ c ∧ c ≤ 126 := by
  intro c hc
  unfold nmL at hc
  obtain ⟨i, hi, rfl⟩ := List.mem_map.mp hc
  have := okT_ix (h i (List.mem_range.mp hi))
  exact ⟨this.1, this.2.1⟩
theorem nmR_enc {q : Nat → Int32} : ∀ (m k : Nat), k + m ≤ 6 → (∀ i, i < k + m → okT (q i)) → nmR q m k (lN (enc 128 (nmL q k))) = lN (enc 128 (nmL q (k + m)))
  | 0, k, _, _ => rfl
  | m + 1, k, h, hq => by
    show nmR q m (k + 1) (if k < 6 then lN (enc 128 (nmL q k)) * lN 128 + (q k).toInt64 else _) = _
    have hk := okT_ix (hq k (by omega))
    rw [if_pos (by omega), hk.2.2, nI_l (by omega), lN_mul, lN_add]
    have e : enc 128 (nmL q k) * 128 + ix (q k) = enc 128 (nmL q (k + 1)) := by rw [nmL_s, enc_snoc]
    rw [e, nmR_enc m (k + 1) (by omega) (fun i hi => hq i (by omega)), show k + 1 + m = k + (m + 1) by omega]
theorem nmC_enc {f q : Nat → Int32} {st : Nat} : ∀ (m k : Nat), k + m ≤ 6 → (∀ i, i < k + m → okT (q i) ∧ f (st + i) = q i) → nmC f m (st + k) (lN (enc 256 (nmL q k))) = lN (enc 256 (nmL q (k + m)))
  | 0, k, _, _ => rfl
  | m + 1, k, h, hq => by
    show nmC f m (st + k + 1) ((lN (enc 256 (nmL q k)) <<< ((nI 8).toInt64 &&& 63)) ||| (f (st + k)).toInt64) = _
    have hk := okT_ix (hq k (by omega)).1
    have hb : enc 256 (nmL q k) < 256 ^ k := enc_lt (by decide) k _ (nmL_len q k) (fun c hc => by have := nmL_in (fun i hi => (hq i (by omega)).1) c hc; omega)
    have hp : 256 ^ k ≤ 256 ^ 5 := Nat.pow_le_pow_right (by decide) (by omega)
    have hp5 : (256 : Nat) ^ 5 = 1099511627776 := by decide
    rw [(hq k (by omega)).2, hk.2.2, nI_l (n := ix (q k)) (by omega), wb_shl _ (show 8 < 64 by decide), wb_or (by omega) (by omega)]
    have e1 : enc 256 (nmL q k) * 2 ^ 8 ||| ix (q k) = enc 256 (nmL q k) * 2 ^ 8 + ix (q k) := by
      rw [← Nat.shiftLeft_eq, Nat.shiftLeft_add_eq_or_of_lt (by omega)]
    have e : enc 256 (nmL q k) * 256 + ix (q k) = enc 256 (nmL q (k + 1)) := by rw [nmL_s, enc_snoc]
    rw [e1, show (2 : Nat) ^ 8 = 256 from rfl, e, Nat.add_assoc, nmC_enc m (k + 1) (by omega) (fun i hi => hq i (by omega)), show k + 1 + m = k + (m + 1) by omega]
/-- a name as both sides hold it -/
def okL (l : List Nat) : Prop := l.length ≤ 6 ∧ ∀ c ∈ l, 33 ≤ c ∧ c ≤ 126
def nmE (x : Int64) (y : Int64) : Prop := ∃ l, okL l ∧ x = lN (enc 256 l) ∧ y = lN (enc 128 l)
theorem enc_small {b : Nat} (hb : 0 < b) (hb2 : b ≤ 256) {l : List Nat} (h : okL l) (hl : ∀ c ∈ l, c < b) : enc b l < 2 ^ 62 := by
  have h1 := enc_lt hb l.length l rfl hl
  have h2 : b ^ l.length ≤ 256 ^ 6 := Nat.le_trans (Nat.pow_le_pow_left hb2 _) (Nat.pow_le_pow_right (by decide) h.1)
  have h3 : (256 : Nat) ^ 6 < 2 ^ 62 := by decide
  omega
theorem nmE_iff {x y x' y' : Int64} (h : nmE x y) (h' : nmE x' y') : x = x' ↔ y = y' := by
  obtain ⟨l, hl, rfl, rfl⟩ := h
  obtain ⟨m, hm, rfl, rfl⟩ := h'
  have l1 := enc_small (b := 256) (by decide) (by decide) hl (fun c hc => by have := hl.2 c hc; omega)
  have l2 := enc_small (b := 128) (by decide) (by decide) hl (fun c hc => by have := hl.2 c hc; omega)
  have m1 := enc_small (b := 256) (by decide) (by decide) hm (fun c hc => by have := hm.2 c hc; omega)
  have m2 := enc_small (b := 128) (by decide) (by decide) hm (fun c hc => by have := hm.2 c hc; omega)
  rw [pk_lEQ (by omega) (by omega), pk_lEQ (by omega) (by omega)]
  constructor
  · intro h; rw [enc_inj l.length l m (Nat.le_refl _) (fun c hc => by have := hl.2 c hc; omega) (fun c hc => by have := hm.2 c hc; omega) h]
  · intro h; rw [enc_inj l.length l m (Nat.le_refl _) (fun c hc => by have := hl.2 c hc; omega) (fun c hc => by have := hm.2 c hc; omega) h]
theorem nmE_dot : nmE (lN 46) (lN 46) := ⟨[46], ⟨by decide, by decide⟩, by decide, by decide⟩
theorem nmE_dots : nmE (lN 11822) (lN 5934) := ⟨[46, 46], ⟨by decide, by decide⟩, by decide, by decide⟩
theorem nm_of {st qn : Nat} {f q : Nat → Int32} (h : RS st f qn q) (hq : ∀ j, j < qn → okT (q j)) (h6 : scan (noS q) qn 0 ≤ 6) : nmE (nmA f st) (nmR q (scan (noS q) qn 0) 0 (lN 0)) := by
  have hle := (scan_le (p := noS q) qn 0).2
  refine ⟨nmL q (scan (noS q) qn 0), ⟨by rw [nmL_len]; exact h6, nmL_in (fun i hi => hq i (by omega))⟩, ?_, ?_⟩
  · have := nmC_enc (f := f) (q := q) (st := st) (scan (noS q) qn 0) 0 (by omega) (fun i hi => ⟨hq i (by omega), h.2.2 i (by omega)⟩)
    rw [Nat.add_zero, Nat.zero_add] at this
    show nmC f (eN f st - st) st (lN 0) = _
    rw [rs_eN h, Nat.add_sub_cancel_left]; exact this
  · have := nmR_enc (q := q) (scan (noS q) qn 0) 0 (by omega) (fun i hi => hq i (by omega))
    rw [Nat.zero_add] at this
    exact this
theorem fnd_eq {dF : Nat → Int32} {nC nR : Nat → Int64} {d : Int32} {x y : Int64} {ec : Nat} (h : ∀ k, k < ec → nmE (nC k) (nR k)) (hxy : nmE x y) : fndE dF nC d x ec = fndE dF nR d y ec := by
  have := scan_shift (a := fun j => !(decide (dF j = d) && decide (nC j = x))) (b := fun j => !(decide (dF j = d) && decide (nR j = y))) ec 0 0 (fun j _ hj => by
    rw [Nat.zero_add]
    have e := nmE_iff (h j (by omega)) hxy
    by_cases h1 : nC j = x
    · simp [h1, e.mp h1]
    · have h2 : ¬ nR j = y := fun h2 => h1 (e.mpr h2)
      simp [h1, h2])
  rw [Nat.zero_add, Nat.zero_add] at this
  exact this
