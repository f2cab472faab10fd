/-! the walks: the class's and the reference's come to the same -/
def EV (kF vF pC pR rF cF : Nat → Int32) (vn : Nat) (nC nR : Nat → Int64) (bF : Nat → Int32) (ec : Nat) (LC LR : Nat → Nat) (LF : Nat → Nat → Int32) (xF : Nat → Int32) : Prop := (1 ≤ vn ∧ vn ≤ 4) ∧ (∀ v, v < 4 → cF v = -1 ∨ vp_in (cF v) 40) ∧ (∀ v, v < 4 → vp_in (rF v) 40) ∧ (∀ i, i < 40 → vp_in (pC i) 40) ∧ (∀ k, k < ec → vp_in (bF k) 40) ∧ MI rF cF vF vn ∧ (∀ d, vp_in d 40 → kF (ix d) = nI 1 → pC (ix (grdC rF cF vn 4 d)) = pR (ix (grdC rF cF vn 4 d))) ∧ (∀ k, k < ec → nmE (nC k) (nR k)) ∧ (∀ i, i < 40 → LR i ≤ 40) ∧ (∀ i, i < 40 → kF i = nI 3 → LR i = LC i ∧ 0 < LC i ∧ ∀ j, j < LC i → LF i j = xF (40 * i + j) ∧ okT (LF i j))
section SIM
variable {kF mF oF vF pC pR rF cF xF : Nat → Int32} {vn : Nat} {dF : Nat → Int32} {nC nR : Nat → Int64} {bF : Nat → Int32} {ec : Nat} {LC LR : Nat → Nat} {LF : Nat → Nat → Int32} {us ro fo : Int32}
theorem nx_eq (hE : EV kF vF pC pR rF cF vn nC nR bF ec LC LR LF xF) {wa : Int32} (hwa : vp_in wa 40) (hk : kF (ix wa) = nI 1) {x y : Int64} (hxy : nmE x y) : nxC rF cF pC vn dF nC bF ec wa ro x = nxR rF cF pR vn dF nR bF ec wa ro y := by
  obtain ⟨hvn, hcr, hrr, hpr, hbr, hM, hP, hN, -, -⟩ := hE
  unfold nxC nxR tuC
  by_cases h1 : x = lN 11822
  · rw [if_pos h1, if_pos ((nmE_iff hxy nmE_dots).mp h1)]
    exact abv_eq hvn hcr hrr hM hpr hwa (hP wa hwa hk)
  · rw [if_neg h1, if_neg (fun h => h1 ((nmE_iff hxy nmE_dots).mpr h))]
    by_cases h2 : x = lN 46
    · rw [if_pos h2, if_pos ((nmE_iff hxy nmE_dot).mp h2)]
    · rw [if_neg h2, if_neg (fun h => h2 ((nmE_iff hxy nmE_dot).mpr h)), fnd_eq hN hxy]
      by_cases h3 : fndE dF nR wa y ec < ec
      · rw [if_pos h3, if_pos h3]; exact (top_eq hvn hrr hM (hbr _ h3)).1
      · rw [if_neg h3, if_neg h3]
theorem step_sim (hE : EV kF vF pC pR rF cF vn nC nR bF ec LC LR LF xF) {nx wa : Int32} {st qn hp : Nat} {f q : Nat → Int32} {la la' sl sl' : Prop} (hRS : RS st f qn q) (hq : ∀ j, j < qn → okT (q j)) (hnx : nx = -1 ∨ vp_in nx 40) (hla : la ↔ la') (hsl : sl ↔ sl') : (pnC kF LC LF nx st f wa ro hp la sl fo).1 = (stR kF xF LR nx qn q wa ro hp la' sl' fo).1 ∧ (pnC kF LC LF nx st f wa ro hp la sl fo).2.2.2.1 = (stR kF xF LR nx qn q wa ro hp la' sl' fo).2.2.2.1 ∧ (pnC kF LC LF nx st f wa ro hp la sl fo).2.2.2.2 = (stR kF xF LR nx qn q wa ro hp la' sl' fo).2.2.2.2 ∧ ((pnC kF LC LF nx st f wa ro hp la sl fo).1 = nI 0 → RS (pnC kF LC LF nx st f wa ro hp la sl fo).2.1 (pnC kF LC LF nx st f wa ro hp la sl fo).2.2.1 (stR kF xF LR nx qn q wa ro hp la' sl' fo).2.1 (stR kF xF LR nx qn q wa ro hp la' sl' fo).2.2.1 ∧ ∀ j, j < (stR kF xF LR nx qn q wa ro hp la' sl' fo).2.1 → okT ((stR kF xF LR nx qn q wa ro hp la' sl' fo).2.2.1 j)) := by
  obtain ⟨-, -, -, -, -, -, -, -, -, hL⟩ := hE
  rw [propext hla, propext hsl]
  unfold pnC stR
  by_cases h1 : nx = -1
  · rw [if_pos h1, if_pos h1]; exact ⟨rfl, rfl, rfl, fun h => absurd (show (-1 : Int32) = nI 0 from h) (by decide)⟩
  · rw [if_neg h1, if_neg h1]
    have hx := hnx.resolve_left h1
    by_cases h2 : kF (ix nx) = nI 3 ∧ (¬ la' ∨ sl' ∨ ¬ fo = 0)
    · rw [pI_t h2, pI_t h2]
      obtain ⟨le, l0, l1⟩ := hL _ (vp_ix hx) h2.1
      unfold plC pbF
      rw [le]
      by_cases h3 : 8 < hp + 1
      · rw [if_pos h3, if_pos h3]; exact ⟨rfl, rfl, rfl, fun h => absurd (show (-4 : Int32) = nI 0 from h) (by decide)⟩
      · rw [if_neg h3, if_neg h3]
        have r1 := hRS.1
        have r2 := hRS.2.1
        by_cases h4 : LC (ix nx) ≤ st
        · rw [if_pos h4, if_neg (show ¬ 60 < qn + LC (ix nx) by omega)]
          refine ⟨rfl, ?_, rfl, fun _ => ⟨rs_put hRS h4 (fun j hj => (l1 j hj).1), fun j hj => ?_⟩⟩
          · show (if LF (ix nx) 0 = nI 47 then ro else wa) = (if xF (40 * ix nx) = nI 47 then ro else wa)
            have e := (l1 0 l0).1
            rw [Nat.add_zero] at e
            rw [e]
          · have hj : j < qn + LC (ix nx) := hj
            show okT (va_cpy xF (shu q (LC (ix nx)) 0 qn) (40 * ix nx) 0 (LC (ix nx)) j)
            unfold va_cpy shu
            by_cases hjn : j < LC (ix nx)
            · rw [if_pos (by omega), Nat.sub_zero, ← (l1 j hjn).1]; exact (l1 j hjn).2
            · rw [if_neg (by omega), if_pos (by omega)]; exact hq _ (by omega)
        · rw [if_neg h4, if_pos (show 60 < qn + LC (ix nx) by omega)]; exact ⟨rfl, rfl, rfl, fun h => absurd (show (-5 : Int32) = nI 0 from h) (by decide)⟩
    · rw [pI_f h2, pI_f h2]; exact ⟨rfl, rfl, rfl, fun _ => ⟨hRS, hq⟩⟩
theorem tkR_zero {us wa : Int32} {n : Nat} (h : tkR kF mF oF us wa n = nI 0) : kF (ix wa) = nI 1 ∧ n ≤ 6 := by
  unfold tkR at h
  by_cases h1 : kF (ix wa) = nI 1
  · refine ⟨h1, ?_⟩
    rw [if_pos h1] at h
    by_cases h2 : mayP us (mF (ix wa)) (oF (ix wa)) (nI 1)
    · rw [pI_t h2] at h
      by_cases h3 : 6 < n
      · rw [if_pos h3] at h; exact absurd h (by decide)
      · omega
    · rw [pI_f h2] at h; exact absurd h (by decide)
  · rw [if_neg h1] at h; exact absurd h (by decide)
theorem sk_head {st : Nat} {f : Nat → Int32} (h : sk f st < 60) (hs : st ≤ 60) : ¬ f (sk f st) = nI 47 := by
  have := scan_at (p := isS f) (60 - st) st (by have : sk f st = scan (isS f) (60 - st) st := rfl; omega)
  simpa using this
theorem dr_ok {q : Nat → Int32} {qn k : Nat} (hk : k ≤ qn) (hq : ∀ j, j < qn → okT (q j)) : ∀ j, j < qn - k → okT (drF q k (qn - k) j) := fun j hj => by
  unfold drF; rw [if_pos hj]; exact hq _ (by omega)
/-- one name on both sides -/
theorem name_sim (hE : EV kF vF pC pR rF cF vn nC nR bF ec LC LR LF xF) {st qn hp : Nat} {f q : Nat → Int32} {wa : Int32} (hRS : RS st f qn q) (hq : ∀ j, j < qn → okT (q j)) (hwa : vp_in wa 40) (ht : tkR kF mF oF us wa (eN f st - st) = nI 0) : (stQ kF pC rF cF vn dF nC bF ec LC LF ro fo f st wa hp).1 = (sQ kF pR rF cF xF vn dF nR bF ec LR ro fo qn q wa hp).1 ∧ (stQ kF pC rF cF vn dF nC bF ec LC LF ro fo f st wa hp).2.2.2.1 = (sQ kF pR rF cF xF vn dF nR bF ec LR ro fo qn q wa hp).2.2.2.1 ∧ (stQ kF pC rF cF vn dF nC bF ec LC LF ro fo f st wa hp).2.2.2.2 = (sQ kF pR rF cF xF vn dF nR bF ec LR ro fo qn q wa hp).2.2.2.2 ∧ ((stQ kF pC rF cF vn dF nC bF ec LC LF ro fo f st wa hp).1 = nI 0 → RS (stQ kF pC rF cF vn dF nC bF ec LC LF ro fo f st wa hp).2.1 (stQ kF pC rF cF vn dF nC bF ec LC LF ro fo f st wa hp).2.2.1 (sQ kF pR rF cF xF vn dF nR bF ec LR ro fo qn q wa hp).2.1 (sQ kF pR rF cF xF vn dF nR bF ec LR ro fo qn q wa hp).2.2.1 ∧ ∀ j, j < (sQ kF pR rF cF xF vn dF nR bF ec LR ro fo qn q wa hp).2.1 → okT ((sQ kF pR rF cF xF vn dF nR bF ec LR ro fo qn q wa hp).2.2.1 j)) := by
  have e := rs_eN hRS
  have hle := (scan_le (p := noS q) qn 0).2
  have hz := tkR_zero ht
  rw [e, Nat.add_sub_cancel_left] at hz
  have hnm := nm_of hRS hq hz.2
  have hd := rs_drop (k := scan (noS q) qn 0) hRS (by omega)
  unfold stQ sQ
  rw [nx_eq hE hwa hz.1 hnm, e]
  refine step_sim hE hd (dr_ok (show scan (noS q) qn 0 ≤ qn by omega) hq) ?_ (rs_la hd) ?_
  · have hE' := hE
    obtain ⟨hvn, hcr, hrr, hpr, hbr, -⟩ := hE'
    rw [← nx_eq hE hwa hz.1 hnm]
    unfold nxC
    split
    · unfold abvC
      split
      · rename_i h1 h2; rw [← h2]; exact Or.inr hwa
      · exact Or.inr (topC_in hrr (hpr _ (vp_ix (grdC_in hcr hwa))))
    · split
      · exact Or.inr hwa
      · exact tuC_in hvn hrr hbr
  · have r1 := hRS.1
    have r2 := hRS.2.1
    show st + scan (noS q) qn 0 < 60 ↔ 0 < qn - scan (noS q) qn 0
    omega
end SIM
