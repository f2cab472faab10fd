/-! the walk in pure words: the class's side -/
theorem scan_x {p : Nat → Bool} {n k : Nat} (h : k < n → p k = false) : scan p (n - k) k = k := by
  by_cases hk : k < n
  · exact scan_f hk (h hk)
  · exact scan_e (by omega)
theorem okC_char (x : Int32) : okC (x.toUInt32 % 65536).toInt32 := ⟨x.toBitVec.toNat % 65536, Nat.mod_lt _ (by decide), pk_char x⟩
def chI (z : Int64) : Int32 := (((z &&& lN 255).toInt32).toUInt32 % 65536).toInt32
def usI (z : Int64) : Int64 := (z.toUInt64 >>> ((nI 8).toInt64.toUInt64 &&& Int64.toUInt64 63)).toInt64
def pnb : Nat → Int64 → Nat → (Nat → Int32) → Nat × (Nat → Int32)
  | 0, _, st, f => (st, f)
  | n + 1, z, st, f => if z = lN 0 then (st, f) else pnb n (usI z) (st - 1) (upd f (st - 1) (chI z))
theorem pnb_e {n k st : Nat} {z : Int64} {f : Nat → Int32} (h : n ≤ k) : pnb (n - k) z st f = (st, f) := by rw [Nat.sub_eq_zero_of_le h]; rfl
theorem pnb_0 {n st : Nat} {z : Int64} {f : Nat → Int32} (h : z = lN 0) : pnb n z st f = (st, f) := by
  cases n with
  | zero => rfl
  | succ n => exact if_pos h
theorem pnb_s {n k st : Nat} {z : Int64} {f : Nat → Int32} (hk : k < n) (h : ¬ z = lN 0) : pnb (n - k) z st f = pnb (n - (k + 1)) (usI z) (st - 1) (upd f (st - 1) (chI z)) := by
  rw [show n - k = n - (k + 1) + 1 by omega]; exact if_neg h
theorem pnb_in : ∀ (n : Nat) (z : Int64) (st : Nat) (f : Nat → Int32), n ≤ st → st - n ≤ (pnb n z st f).1 ∧ (pnb n z st f).1 ≤ st
  | 0, z, st, f, h => ⟨Nat.le_refl _, Nat.le_refl _⟩
  | n + 1, z, st, f, h => by
    show st - (n + 1) ≤ (if z = lN 0 then (st, f) else pnb n (usI z) (st - 1) (upd f (st - 1) (chI z))).1 ∧ (if z = lN 0 then (st, f) else pnb n (usI z) (st - 1) (upd f (st - 1) (chI z))).1 ≤ st
    split
    · show st - (n + 1) ≤ st ∧ st ≤ st; omega
    · have := pnb_in n (usI z) (st - 1) (upd f (st - 1) (chI z)) (by omega); omega
def tuC (rF cF : Nat → Int32) (vn : Nat) (dF : Nat → Int32) (nF : Nat → Int64) (bF : Nat → Int32) (ec : Nat) (d : Int32) (nm : Int64) : Int32 := if fndE dF nF d nm ec < ec then topC rF cF vn 4 (bF (fndE dF nF d nm ec)) else -1
/-- a link's text comes before the rest -/
def plC (st : Nat) (f : Nat → Int32) (n : Nat) (fl : Nat → Int32) (wa ro : Int32) (hp : Nat) : Int32 × Nat × (Nat → Int32) × Int32 := if 8 < hp + 1 then (-4, st, f, wa) else if n ≤ st then (nI 0, st - n, va_cpy fl f 0 (st - n) n, if fl 0 = nI 47 then ro else wa) else (-5, st, f, wa)
theorem cpy_0 {fl f : Nat → Int32} {k n : Nat} (h : 0 < n) : va_cpy fl f 0 k n k = fl 0 := by unfold va_cpy; rw [if_pos (by omega)]; congr 1; omega
/-- where a name leads, before links -/
def nxC (rF cF pF : Nat → Int32) (vn : Nat) (dF : Nat → Int32) (nF : Nat → Int64) (bF : Nat → Int32) (ec : Nat) (wa ro : Int32) (nm : Int64) : Int32 := if nm = lN 11822 then abvC rF cF pF vn wa ro else if nm = lN 46 then wa else tuC rF cF vn dF nF bF ec wa nm
noncomputable def pnC (kF : Nat → Int32) (LN : Nat → Nat) (LF : Nat → Nat → Int32) (nx : Int32) (st : Nat) (f : Nat → Int32) (wa ro : Int32) (hp : Nat) (la sl : Prop) (fo : Int32) : Int32 × Nat × (Nat → Int32) × Int32 × Nat :=
  if nx = -1 then (-1, st, f, wa, hp) else pI (kF (ix nx) = nI 3 ∧ (¬ la ∨ sl ∨ ¬ fo = 0)) ((plC st f (LN (ix nx)) (LF (ix nx)) wa ro hp).1, (plC st f (LN (ix nx)) (LF (ix nx)) wa ro hp).2.1, (plC st f (LN (ix nx)) (LF (ix nx)) wa ro hp).2.2.1, (plC st f (LN (ix nx)) (LF (ix nx)) wa ro hp).2.2.2, hp + 1) (pI (sl ∧ ¬ kF (ix nx) = nI 1) (-2) (nI 0), st, f, nx, hp)
theorem tuC_in {rF cF : Nat → Int32} {vn : Nat} {dF : Nat → Int32} {nF : Nat → Int64} {bF : Nat → Int32} {ec : Nat} {d : Int32} {nm : Int64} (hvn : 1 ≤ vn ∧ vn ≤ 4) (hrr : ∀ v, v < 4 → vp_in (rF v) 40) (hbr : ∀ k, k < ec → vp_in (bF k) 40) : tuC rF cF vn dF nF bF ec d nm = -1 ∨ vp_in (tuC rF cF vn dF nF bF ec d nm) 40 := by
  unfold tuC
  split
  · rename_i h; exact Or.inr (topC_in hrr (hbr _ h))
  · exact Or.inl rfl
theorem nxC_in {rF cF pF : Nat → Int32} {vn : Nat} {dF : Nat → Int32} {nF : Nat → Int64} {bF : Nat → Int32} {ec : Nat} {wa ro : Int32} {nm : Int64} (hvn : 1 ≤ vn ∧ vn ≤ 4) (hcr : ∀ v, v < 4 → cF v = -1 ∨ vp_in (cF v) 40) (hrr : ∀ v, v < 4 → vp_in (rF v) 40) (hpr : ∀ i, i < 40 → vp_in (pF i) 40) (hbr : ∀ k, k < ec → vp_in (bF k) 40) (hwa : vp_in wa 40) (hro : vp_in ro 40) : nxC rF cF pF vn dF nF bF ec wa ro nm = -1 ∨ vp_in (nxC rF cF pF vn dF nF bF ec wa ro nm) 40 := by
  unfold nxC
  split
  · exact Or.inr (abvC_in hvn hcr hrr hpr hwa hro)
  · split
    · exact Or.inr hwa
    · exact tuC_in hvn hrr hbr
/-- the links' texts, as the class holds them: cells among pl -/
def TgOK (G : GG) (kF : Nat → Int32) (tF : Nat → Option Nat) (pl : va_W) (LN : Nat → Nat) (LF : Nat → Nat → Int32) : Prop := ∀ i, i < 40 → kF i = nI 3 → 0 < LN i ∧ LN i ≤ 40 ∧ (∀ j, okC (LF i j)) ∧ ∃ y b k1 k2 : Nat, tF i = some y ∧ pl[k1]? = some (oC y 1 [.ref b, .int (nI (LN i))]) ∧ pl[k2]? = some (aC G b 40 (LF i))
theorem vaP_perm {D : va_G} {cl : List vw_C} {w1 w2 : va_W} {H : Heap} (h : w1.Perm w2) (hP : va_P D cl w1 H) : va_P D cl w2 H := fun k q hq => by
  obtain ⟨i, hi⟩ := List.getElem?_of_mem (h.mem_iff.mpr (List.mem_of_getElem? hq))
  exact hP i q hi
theorem vaD_iff {A : Nat → Prop} {w : va_W} : va_D A w ↔ (w.map Prod.fst).Nodup ∧ ∀ q ∈ w, A q.1 := by
  constructor
  · intro h
    refine ⟨?_, fun q hq => by obtain ⟨i, hi⟩ := List.getElem?_of_mem hq; exact h.2 i q hi⟩
    refine List.pairwise_iff_getElem.mpr (fun i j hi hj hij he => ?_)
    rw [List.length_map] at hi hj
    rw [List.getElem_map, List.getElem_map] at he
    have := h.1 i j w[i] w[j] (List.getElem?_eq_getElem hi) (List.getElem?_eq_getElem hj) he
    omega
  · intro h
    refine ⟨fun i j p q hp hq he => ?_, fun k q hq => h.2 q (List.mem_of_getElem? hq)⟩
    obtain ⟨hi, ei⟩ := List.getElem?_eq_some_iff.mp hp
    obtain ⟨hj, ej⟩ := List.getElem?_eq_some_iff.mp hq
    have hpw := List.pairwise_iff_getElem.mp h.1
    rcases Nat.lt_trichotomy i j with h1 | h1 | h1
    · refine absurd ?_ (hpw i j (by rw [List.length_map]; exact hi) (by rw [List.length_map]; exact hj) h1)
      rw [List.getElem_map, List.getElem_map, ei, ej]; exact he
    · exact h1
    · refine absurd ?_ (hpw j i (by rw [List.length_map]; exact hj) (by rw [List.length_map]; exact hi) h1)
      rw [List.getElem_map, List.getElem_map, ei, ej]; exact he.symm
theorem vaD_perm {A : Nat → Prop} {w1 w2 : va_W} (h : w1.Perm w2) (hD : va_D A w1) : va_D A w2 := by
  rw [vaD_iff] at hD ⊢
  exact ⟨(h.map Prod.fst).nodup_iff.mp hD.1, fun q hq => hD.2 q (h.mem_iff.mpr hq)⟩
theorem pl_two {pl : va_W} {x y : Nat × va_E} {k1 k2 : Nat} (h1 : pl[k1]? = some x) (h2 : pl[k2]? = some y) (hne : x ≠ y) : ∃ pl', pl.Perm (x :: y :: pl') := by
  obtain ⟨l1, l2, rfl⟩ := List.append_of_mem (List.mem_of_getElem? h1)
  have hy : y ∈ l1 ++ l2 := by
    have := List.mem_of_getElem? h2
    simp only [List.mem_append, List.mem_cons] at this ⊢
    rcases this with h | h | h
    · exact Or.inl h
    · exact absurd h.symm hne
    · exact Or.inr h
  obtain ⟨m1, m2, hm⟩ := List.append_of_mem hy
  refine ⟨m1 ++ m2, ?_⟩
  have p1 : (l1 ++ x :: l2).Perm (x :: (l1 ++ l2)) := List.perm_middle
  have p2 : (l1 ++ l2).Perm (y :: (m1 ++ m2)) := by rw [hm]; exact List.perm_middle
  exact p1.trans (List.Perm.cons x p2)
def bgA (fl : Nat → Int32) (ro pr : Int32) : Int32 := if fl 0 = nI 47 then ro else pr
theorem first_z {v : Int32} {P : Prop} (h : (v = nI 1 ∧ P) ∨ (v = nI 0 ∧ ¬ P)) : v = zI P := by
  rcases h with ⟨rfl, h⟩ | ⟨rfl, h⟩
  · exact zI_1 h
  · exact zI_0 h
