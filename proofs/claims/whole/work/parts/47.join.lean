/-! both sides together: what one call keeps -/
def JI (kF vF pC pR rF cF : Nat → Int32) (vn : Nat) (dF : Nat → Int32) (nC nR : Nat → Int64) (bF : Nat → Int32) (ec : Nat) (LC LR : Nat → Nat) (LF : Nat → Nat → Int32) (xF : Nat → Int32) (ro pr : Int32) : Prop := TI kF vF pC rF cF vn dF bF ec ∧ CI kF vF pC rF cF vn ro pr ∧ NRel kF pC pR nC nR ec LC LR LF xF
section JN
variable {kF mF oF vF pC pR rF cF xF : Nat → Int32} {vn : Nat} {dF : Nat → Int32} {nC nR : Nat → Int64} {bF : Nat → Int32} {ec : Nat} {LC LR : Nat → Nat} {LF : Nat → Nat → Int32} {us ro pr : Int32}
theorem JI.ev (h : JI kF vF pC pR rF cF vn dF nC nR bF ec LC LR LF xF ro pr) : EV kF vF pC pR rF cF vn nC nR bF ec LC LR LF xF := h.1.ev h.2.2
theorem JI.inro (h : JI kF vF pC pR rF cF vn dF nC nR bF ec LC LR LF xF ro pr) : vp_in ro 40 := h.2.1.1.1.1
theorem JI.inpr (h : JI kF vF pC pR rF cF vn dF nC nR bF ec LC LR LF xF ro pr) : vp_in pr 40 := by
  obtain ⟨-, ⟨c1, ⟨n, c2⟩, -⟩, -⟩ := h
  exact (Gr.ok c1 c2).1.1
theorem JI.k0 (h : JI kF vF pC pR rF cF vn dF nC nR bF ec LC LR LF xF ro pr) : ¬ kF 0 = nI 3 := by
  obtain ⟨⟨hvn, -, -, -, -, hr, hr0, -⟩, -⟩ := h
  have r := (hr 0 (by omega)).1
  rw [hr0, ix_nI (by decide)] at r
  rw [r]; decide
theorem JI.thr (h : JI kF vF pC pR rF cF vn dF nC nR bF ec LC LR LF xF ro pr) {fo : Int32} {n : Nat} {f q fl t : Nat → Int32} (hx : TX n fl t) : thrT kF mF oF pC rF cF vn dF nC bF ec LC LF us ro pr fo f n fl = wkT kF mF oF pR rF cF xF vn dF nR bF ec LR us ro pr fo q n t := thr_eq h.ev h.inro h.inpr hx.1 hx.2
theorem JI.vol (h : JI kF vF pC pR rF cF vn dF nC nR bF ec LC LR LF xF ro pr) {r0 : Int32} {k2 m2 o2 v2 p2 r2 : Nat → Int32} {w2 : Nat} {r0' : Int32} {k2' m2' o2' v2' p2' r2' : Nat → Int32} {w2' : Nat} (e1 : (r0, k2, m2, o2, v2, p2, r2, w2) = volC kF mF oF vF pC rF vn) (e2 : (r0', k2', m2', o2', v2', p2', r2', w2') = volR kF mF oF vF pR rF vn) : r0 = r0' ∧ k2 = k2' ∧ m2 = m2' ∧ o2 = o2' ∧ v2 = v2' ∧ r2 = r2' ∧ w2 = w2' ∧ JI k2 v2 p2 p2' r2 cF w2 dF nC nR bF ec LC LR LF xF ro pr ∧ (∀ i, k2 i = nI 3 → kF i = nI 3) := by
  unfold volC at e1
  unfold volR at e2
  rw [ix_nI (by have := lfN_le kF; omega)] at e1
  by_cases hc : lfN kF < 40 ∧ vn < 4
  · rw [if_pos hc] at e1 e2
    cases e1; cases e2
    have h0 := lfN_at hc.1
    obtain ⟨hT, hC, n1, n2, n3, n4, n5⟩ := h
    refine ⟨rfl, rfl, rfl, rfl, rfl, rfl, rfl, ⟨hT.vol hc.1 h0 hc.2, CI.vol hT hC hc.1 h0 hc.2, n1, fun i hi => ?_, fun i hi hk => ?_, n4, fun i hi hk => ?_⟩, fun i hk => ?_⟩
    · by_cases e : i = lfN kF
      · rw [e, updS]; exact vp_in_nI hc.1 (by decide)
      · rw [updN e]; exact n2 i hi
    · by_cases e : i = lfN kF
      · rw [e, updS, updS]
      · rw [updN e] at hk; rw [updN e, updN e]; exact n3 i hi hk
    · by_cases e : i = lfN kF
      · rw [e, updS] at hk; exact absurd hk (by decide)
      · rw [updN e] at hk; exact n5 i hi hk
    · by_cases e : i = lfN kF
      · rw [e, updS] at hk; exact absurd hk (by decide)
      · rw [updN e] at hk; exact hk
  · rw [if_neg hc] at e1 e2
    cases e1; cases e2
    exact ⟨rfl, rfl, rfl, rfl, rfl, rfl, rfl, h, fun i hk => hk⟩
theorem JI.mt (h : JI kF vF pC pR rF cF vn dF nC nR bF ec LC LR LF xF ro pr) {v fo : Int32} {n : Nat} {f q fl t : Nat → Int32} (hx : TX n fl t) {r0 : Int32} {c2 : Nat → Int32} {r0' : Int32} {c2' : Nat → Int32} (e1 : (r0, c2) = mtC kF pC rF cF vn us ro pr v (thrT kF mF oF pC rF cF vn dF nC bF ec LC LF us ro pr fo f n fl)) (e2 : (r0', c2') = mtR kF pR rF cF vn us ro pr v (wkT kF mF oF pR rF cF xF vn dF nR bF ec LR us ro pr fo q n t)) : r0 = r0' ∧ c2 = c2' ∧ JI kF vF pC pR rF c2 vn dF nC nR bF ec LC LR LF xF ro pr := by
  rw [← h.thr (f := f) hx] at e2
  obtain ⟨hT, hC, hN⟩ := h
  rw [← hT.mt_eq hC hN.2.2.1, ← e1] at e2
  have hw := thrT_wp (mF := mF) (oF := oF) (nF := nC) (LN := LC) (LF := LF) (us := us) (fo := fo) (f := f) (fl := fl) (n := n) hT hC
  generalize thrT kF mF oF pC rF cF vn dF nC bF ec LC LF us ro pr fo f n fl = d at e1 hw
  cases e2
  refine ⟨rfl, rfl, ?_⟩
  unfold mtC at e1
  by_cases h1 : 0 < v ∧ v < nI vn
  · rw [if_pos h1] at e1
    by_cases h2 : us = 0
    · rw [if_pos h2] at e1
      by_cases h3 : cF (ix v) = -1
      · rw [if_pos h3] at e1
        by_cases h4 : d < 0
        · rw [if_pos h4] at e1; cases e1; exact ⟨hT, hC, hN⟩
        · rw [if_neg h4] at e1
          by_cases h5 : kF (ix d) = nI 1
          · rw [if_pos h5] at e1
            by_cases h6 : iaC rF cF pC vn 40 ro d = d ∨ iaC rF cF pC vn 40 pr d = d
            · rw [if_pos h6] at e1; cases e1; exact ⟨hT, hC, hN⟩
            · rw [if_neg h6] at e1; cases e1
              have hw := hw.resolve_left h4
              have hok := hw.okd h5
              have hv4 := v_in4 h1 hT.1.2
              have e := nI_ix hv4 (by decide)
              have v1 : 1 ≤ ix v := by
                rcases Nat.eq_zero_or_pos (ix v) with hz | hz
                · rw [e, hz] at h1; exact absurd h1.1 (by decide)
                · exact hz
              have v2 : ix v < vn := by
                have := h1.2
                rw [e] at this
                exact (nI_ltI (by have := vp_ix hv4; omega) (by have := hT.1.2; omega)).1 this
              exact ⟨hT.mt v1 v2 h3 hok (CI.d0 hT hC (fun x => h6 (Or.inl x))), CI.mt hT hC v1 v2 h3 hok (fun x => h6 (Or.inl x)) (fun x => h6 (Or.inr x)), hN⟩
          · rw [if_neg h5] at e1; cases e1; exact ⟨hT, hC, hN⟩
      · rw [if_neg h3] at e1; cases e1; exact ⟨hT, hC, hN⟩
    · rw [if_neg h2] at e1; cases e1; exact ⟨hT, hC, hN⟩
  · rw [if_neg h1] at e1; cases e1; exact ⟨hT, hC, hN⟩
theorem JI.um (h : JI kF vF pC pR rF cF vn dF nC nR bF ec LC LR LF xF ro pr) {fo : Int32} {n : Nat} {f q fl t : Nat → Int32} (hx : TX n fl t) {r0 : Int32} {c2 : Nat → Int32} {r0' : Int32} {c2' : Nat → Int32} (e1 : (r0, c2) = umC vF rF cF vn us ro pr (thrT kF mF oF pC rF cF vn dF nC bF ec LC LF us ro pr fo f n fl)) (e2 : (r0', c2') = umR vF rF cF vn us ro pr (wkT kF mF oF pR rF cF xF vn dF nR bF ec LR us ro pr fo q n t)) : r0 = r0' ∧ c2 = c2' ∧ JI kF vF pC pR rF c2 vn dF nC nR bF ec LC LR LF xF ro pr := by
  rw [← h.thr (f := f) hx] at e2
  obtain ⟨hT, hC, hN⟩ := h
  rw [← hT.um_eq, ← e1] at e2
  generalize thrT kF mF oF pC rF cF vn dF nC bF ec LC LF us ro pr fo f n fl = d at e1
  cases e2
  refine ⟨rfl, rfl, ?_⟩
  unfold umC at e1
  by_cases h1 : us = 0
  · rw [if_pos h1] at e1
    by_cases h2 : d < 0
    · rw [if_pos h2] at e1; cases e1; exact ⟨hT, hC, hN⟩
    · rw [if_neg h2] at e1
      by_cases h3 : mwrN rF cF d vn < vn
      · rw [if_pos h3] at e1
        by_cases h4 : vF (ix ro) = nI (mwrN rF cF d vn) ∨ vF (ix pr) = nI (mwrN rF cF d vn) ∨ hcV cF vF vn (nI (mwrN rF cF d vn))
        · rw [pI_t h4] at e1; cases e1; exact ⟨hT, hC, hN⟩
        · rw [pI_f h4, ix_nI (by have := hT.1.2; omega)] at e1
          have hb : ∀ v, 1 ≤ v → v < vn → ¬ cF v = -1 → ¬ vF (ix (cF v)) = nI (mwrN rF cF d vn) := fun v v1 v2 v3 v4 => h4 (Or.inr (Or.inr ((hcV_iff hT.1.1).mpr ⟨v, v1, v2, v3, v4⟩)))
          cases e1
          exact ⟨hT.um h3 hb, CI.um hT hC hb (fun x => h4 (Or.inl x)) (fun x => h4 (Or.inr (Or.inl x))), hN⟩
      · rw [if_neg h3] at e1; cases e1; exact ⟨hT, hC, hN⟩
  · rw [if_neg h1] at e1; cases e1; exact ⟨hT, hC, hN⟩
theorem JI.et (h : JI kF vF pC pR rF cF vn dF nC nR bF ec LC LR LF xF ro pr) {fj fo : Int32} {n : Nat} {f q fl t : Nat → Int32} (hx : TX n fl t) {r0 p2 o2 r0' p2' o2' : Int32} (e1 : (r0, p2, o2) = etC kF mF oF us ro pr fj (thrT kF mF oF pC rF cF vn dF nC bF ec LC LF us ro pr fo f n fl)) (e2 : (r0', p2', o2') = etR kF mF oF us ro pr fj (wkT kF mF oF pR rF cF xF vn dF nR bF ec LR us ro pr fo q n t)) : r0 = r0' ∧ p2 = p2' ∧ o2 = o2' ∧ JI kF vF pC pR rF cF vn dF nC nR bF ec LC LR LF xF o2 p2 := by
  rw [← h.thr (f := f) hx] at e2
  obtain ⟨hT, hC, hN⟩ := h
  rw [← et_eq, ← e1] at e2
  have hw := thrT_wp (mF := mF) (oF := oF) (nF := nC) (LN := LC) (LF := LF) (us := us) (fo := fo) (f := f) (fl := fl) (n := n) hT hC
  generalize thrT kF mF oF pC rF cF vn dF nC bF ec LC LF us ro pr fo f n fl = d at e1 hw
  cases e2
  refine ⟨rfl, rfl, rfl, hT, ?_, hN⟩
  unfold etC at e1
  by_cases h2 : d < 0
  · rw [if_pos h2] at e1; cases e1; exact hC
  · rw [if_neg h2] at e1
    by_cases h3 : kF (ix d) = nI 1
    · rw [if_pos h3] at e1
      by_cases h4 : mayP us (mF (ix d)) (oF (ix d)) (nI 1)
      · rw [pI_t h4] at e1
        have hw := hw.resolve_left h2
        by_cases h5 : fj = 0
        · rw [if_pos h5] at e1; cases e1; exact hC.en hw h3
        · rw [if_neg h5] at e1; cases e1; exact CI.jail hT hC hw h3
      · rw [pI_f h4] at e1; cases e1; exact hC
    · rw [if_neg h3] at e1; cases e1; exact hC
theorem JI.lk (h : JI kF vF pC pR rF cF vn dF nC nR bF ec LC LR LF xF ro pr) {n yn : Nat} {f g q q' fl t yf sF : Nat → Int32} (hx : TX n fl t) (hy : TX yn yf sF) {r0 : Int32} {c2 : Nat} {d2 : Nat → Int32} {q2 : Nat → Int64} {b2 : Nat → Int32} {r0' : Int32} {c2' : Nat} {d2' : Nat → Int32} {q2' : Nat → Int64} {b2' : Nat → Int32} (e1 : (r0, c2, d2, q2, b2) = lkC kF mF oF pC rF cF vn dF nC bF ec LC LF us ro vF pr f g n fl yn yf) (e2 : (r0', c2', d2', q2', b2') = lkR kF mF oF pR rF cF xF vn dF nR bF ec LR us ro vF pr q q' n t yn sF) : r0 = r0' ∧ c2 = c2' ∧ d2 = d2' ∧ b2 = b2' ∧ JI kF vF pC pR rF cF vn d2 q2 q2' b2 c2 LC LR LF xF ro pr := by
  have hl := lk_rel (mF := mF) (oF := oF) (us := us) (f := f) (g := g) (q := q) (q' := q') (dF := dF) h.ev h.1.2.1 h.inro h.inpr hx hy
  rw [← e1, ← e2] at hl
  obtain ⟨a1, a2, a3, a4, a5⟩ := hl
  dsimp only at a1 a2 a3 a4 a5
  subst a1; subst a2; subst a3; subst a4
  refine ⟨rfl, rfl, rfl, rfl, ?_⟩
  obtain ⟨hT, hC, hN⟩ := h
  suffices hs : TI kF vF pC rF cF vn d2 b2 c2 from ⟨hs, hC, a5, hN.2⟩
  clear e2 a5
  have hw := thrT_wp (mF := mF) (oF := oF) (nF := nC) (LN := LC) (LF := LF) (us := us) (fo := nI 0) (f := f) (fl := yf) (n := yn) hT hC
  have hlw := tlnT_wp (mF := mF) (oF := oF) (nF := nC) (LN := LC) (LF := LF) (us := us) (f := g) (fl := fl) (n := n) hT hC
  unfold lkC at e1
  generalize hd : thrT kF mF oF pC rF cF vn dF nC bF ec LC LF us ro pr (nI 0) f yn yf = d at e1 hw
  by_cases h1 : d < 0
  · rw [if_pos h1] at e1; cases e1; exact hT
  · rw [if_neg h1] at e1
    by_cases h2 : kF (ix d) = nI 1
    · rw [if_pos h2] at e1; cases e1; exact hT
    · rw [if_neg h2] at e1
      by_cases h3 : cnC kF mF oF pC rF cF vn dF nC bF ec LC LF us ro pr g n fl (nI 0) = nI 0
      · rw [if_pos h3] at e1
        have cz := cn_zero h3
        have hlw := hlw cz.2.2.1
        generalize tlnT kF mF oF pC rF cF vn dF nC bF ec LC LF us ro pr g n fl = z at e1 hlw
        by_cases h4 : vF (ix z.2.1) = vF (ix d)
        · rw [if_pos h4] at e1
          by_cases h5 : 80 ≤ ec
          · rw [if_pos h5] at e1; cases e1; exact hT
          · rw [if_neg h5] at e1; cases e1
            have hw := hw.resolve_left h1
            exact hT.lk (by omega) (hlw.1.okd hlw.2).1 hw.1 hw.2.1 h2 h4
        · rw [if_neg h4] at e1; cases e1; exact hT
      · rw [if_neg h3] at e1; cases e1; exact hT
theorem wn_zero {sl : Prop} {wa o : Int32} (h : wnC sl kF mF oF us ro pr wa cF vn dF ec o = nI 0) : covN cF o vn = 0 ∧ ¬ o = ro ∧ ¬ o = pr ∧ ∀ j, j < ec → ¬ dF j = o := by
  unfold wnC at h
  by_cases h1 : sl ∧ ¬ kF (ix o) = nI 1
  · rw [pI_t h1] at h; exact absurd h (by decide)
  · rw [pI_f h1] at h
    by_cases h2 : mayP us (mF (ix wa)) (oF (ix wa)) (nI 2)
    · rw [pI_t h2] at h
      by_cases h3 : 0 < covN cF o vn ∨ o = ro ∨ o = pr
      · rw [if_pos h3] at h; exact absurd h (by decide)
      · rw [if_neg h3] at h
        by_cases h4 : cntB (fun j => decide (dF j = o)) ec = 0
        · exact ⟨Nat.eq_zero_of_not_pos fun x => h3 (Or.inl x), fun x => h3 (Or.inr (Or.inl x)), fun x => h3 (Or.inr (Or.inr x)), fun j hj => of_decide_eq_false (cntB_zero.mp h4 j hj)⟩
        · rw [if_neg h4] at h; exact absurd h (by decide)
    · rw [pI_f h2] at h; exact absurd h (by decide)
theorem JI.rm (h : JI kF vF pC pR rF cF vn dF nC nR bF ec LC LR LF xF ro pr) {n : Nat} {f q fl t : Nat → Int32} (hx : TX n fl t) {r0 : Int32} {c2 : Nat} {d2 : Nat → Int32} {q2 : Nat → Int64} {b2 k2 : Nat → Int32} {r0' : Int32} {c2' : Nat} {d2' : Nat → Int32} {q2' : Nat → Int64} {b2' k2' : Nat → Int32} (e1 : (r0, c2, d2, q2, b2, k2) = rmC kF mF oF pC rF cF vn dF nC bF ec LC LF us ro pr f n fl) (e2 : (r0', c2', d2', q2', b2', k2') = rmR kF mF oF pR rF cF xF vn dF nR bF ec LR us ro pr q n t) : r0 = r0' ∧ c2 = c2' ∧ d2 = d2' ∧ b2 = b2' ∧ k2 = k2' ∧ JI k2 vF pC pR rF cF vn d2 q2 q2' b2 c2 LC LR LF xF ro pr ∧ (∀ i, k2 i = nI 3 → kF i = nI 3) := by
  have hl := rm_rel (mF := mF) (oF := oF) (us := us) (f := f) (q := q) h.1 h.ev h.inro h.inpr hx
  rw [← e1, ← e2] at hl
  obtain ⟨a1, a2, a3, a4, a5⟩ := hl
  dsimp only at a1 a2 a3 a4 a5
  obtain ⟨a4, a6⟩ := Prod.mk.inj a4
  subst a1; subst a2; subst a3; subst a4; subst a6
  refine ⟨rfl, rfl, rfl, rfl, rfl, ?_⟩
  obtain ⟨hT, hC, hN⟩ := h
  suffices hs : TI k2 vF pC rF cF vn d2 b2 c2 ∧ CI k2 vF pC rF cF vn ro pr ∧ ∀ i, ¬ k2 i = nI 0 → k2 i = kF i by
    obtain ⟨s1, s2, s3⟩ := hs
    have t1 : ∀ i, k2 i = nI 1 → kF i = nI 1 := fun i hk => by rw [← s3 i (by rw [hk]; decide)]; exact hk
    have t3 : ∀ i, k2 i = nI 3 → kF i = nI 3 := fun i hk => by rw [← s3 i (by rw [hk]; decide)]; exact hk
    exact ⟨⟨s1, s2, a5, hN.2.1, fun i hi hk => hN.2.2.1 i hi (t1 i hk), hN.2.2.2.1, fun i hi hk => hN.2.2.2.2 i hi (t3 i hk)⟩, t3⟩
  clear e2 a5
  have no : ∀ r : Int32, (r0, c2, d2, q2, b2, k2) = (r, ec, dF, nC, bF, kF) → TI k2 vF pC rF cF vn d2 b2 c2 ∧ CI k2 vF pC rF cF vn ro pr ∧ ∀ i, ¬ k2 i = nI 0 → k2 i = kF i := fun r e => by
    cases e; exact ⟨hT, hC, fun _ _ => rfl⟩
  unfold rmC at e1
  by_cases h0 : n = 0
  · rw [if_pos h0] at e1; exact no _ e1
  · rw [if_neg h0] at e1
    by_cases hs : scan (isS fl) n 0 = n
    · rw [if_pos hs] at e1; exact no _ e1
    · rw [if_neg hs] at e1
      generalize tlnT kF mF oF pC rF cF vn dF nC bF ec LC LF us ro pr f n fl = z at e1
      by_cases h1 : z.1 = nI 0
      · rw [if_pos h1] at e1
        by_cases h2 : z.2.2.1 = lN 46 ∨ z.2.2.1 = lN 11822
        · rw [if_pos h2] at e1; exact no _ e1
        · rw [if_neg h2] at e1
          by_cases h3 : fndE dF nC z.2.1 z.2.2.1 ec < ec
          · rw [if_pos h3] at e1
            generalize fndE dF nC z.2.1 z.2.2.1 ec = J at e1 h3
            unfold rmD at e1
            generalize hw : wnC z.2.2.2 kF mF oF us ro pr z.2.1 cF vn dF ec (bF J) = w at e1
            by_cases h4 : w = nI 0
            · rw [if_pos h4] at e1
              rw [h4] at hw
              obtain ⟨w1, w2, w3, w4⟩ := wn_zero hw
              cases e1
              exact ⟨hT.rm h3 w1 w4, CI.rm hT hC h3 w4 w2 w3, (rmK_spec hT h3).1⟩
            · rw [if_neg h4] at e1; exact no _ e1
          · rw [if_neg h3] at e1; exact no _ e1
      · rw [if_neg h1] at e1; exact no _ e1
theorem JI.mk (h : JI kF vF pC pR rF cF vn dF nC nR bF ec LC LR LF xF ro pr) {n yn : Nat} {f q fl t yf sF : Nat → Int32} {kd mo : Int32} (hx : TX n fl t) (hy : TX yn yf sF) {tF t2 : Nat → Option Nat} {N2 : Nat → Nat} {F2 : Nat → Nat → Int32} (ht : ∀ i, i < 40 → kF i = nI 3 → ∃ y, tF i = some y) {r0 : Int32} {k2 m2 o2 v2 p2 : Nat → Int32} {c2 : Nat} {d2 : Nat → Int32} {q2 : Nat → Int64} {b2 : Nat → Int32} {r0' : Int32} {k2' m2' o2' v2' p2' x2 : Nat → Int32} {L2 : Nat → Nat} {c2' : Nat} {d2' : Nat → Int32} {q2' : Nat → Int64} {b2' : Nat → Int32} (e1 : (r0, k2, m2, o2, v2, p2, c2, d2, q2, b2) = mkC kF mF oF pC rF cF vn dF nC bF ec LC LF us ro vF pr f n fl yn kd mo) (e3 : mkP kF LC LF tF yn yf kd r0 t2 N2 F2) (e2 : (r0', k2', m2', o2', v2', p2', x2, L2, c2', d2', q2', b2') = mkR kF mF oF pR rF cF xF vn dF nR bF ec LR us ro vF pr q n t yn sF kd mo) : r0 = r0' ∧ k2 = k2' ∧ m2 = m2' ∧ o2 = o2' ∧ v2 = v2' ∧ c2 = c2' ∧ d2 = d2' ∧ b2 = b2' ∧ JI k2 v2 p2 p2' rF cF vn d2 q2 q2' b2 c2 N2 L2 F2 x2 ro pr ∧ (∀ i, i < 40 → k2 i = nI 3 → ∃ y, t2 i = some y) := by
  have no : ∀ r : Int32, r < 0 → (r0, k2, m2, o2, v2, p2, c2, d2, q2, b2) = (r, kF, mF, oF, vF, pC, ec, dF, nC, bF) → (r0', k2', m2', o2', v2', p2', x2, L2, c2', d2', q2', b2') = (r, kF, mF, oF, vF, pR, xF, LR, ec, dF, nR, bF) → r0 = r0' ∧ k2 = k2' ∧ m2 = m2' ∧ o2 = o2' ∧ v2 = v2' ∧ c2 = c2' ∧ d2 = d2' ∧ b2 = b2' ∧ JI k2 v2 p2 p2' rF cF vn d2 q2 q2' b2 c2 N2 L2 F2 x2 ro pr ∧ (∀ i, i < 40 → k2 i = nI 3 → ∃ y, t2 i = some y) := fun r hr a b => by
    cases a; cases b
    obtain ⟨x1, x2, x3⟩ := e3.2 (fun x => x.2 hr)
    subst x1; subst x2; subst x3
    exact ⟨rfl, rfl, rfl, rfl, rfl, rfl, rfl, rfl, h, ht⟩
  have hec := h.1.2.1
  have ec0 := cn_eq (mF := mF) (oF := oF) (us := us) (dF := dF) (f := f) (q := q) (ms := if kd = nI 1 then nI 1 else nI 0) h.ev h.inro h.inpr hx
  unfold mkC at e1
  unfold mkR at e2
  rw [ix_nI (by have := lfN_le kF; omega)] at e1
  rw [← ec0] at e2
  by_cases hb : mbP yn kd mo
  · rw [pI_t hb] at e1
    rw [pI_t (mb_iff.mp hb)] at e2
    by_cases h1 : cnC kF mF oF pC rF cF vn dF nC bF ec LC LF us ro pr f n fl (if kd = nI 1 then nI 1 else nI 0) = nI 0
    · rw [if_pos h1] at e1 e2
      by_cases h2 : lfN kF < 40 ∧ ec < 80
      · rw [if_pos h2] at e1
        rw [if_pos ⟨h2.1, by omega⟩] at e2
        have cz := cn_zero h1
        have hX := tln_eq (mF := mF) (oF := oF) (us := us) (dF := dF) (f := f) (q := q) h.ev h.inro h.inpr hx.1 hx.2 (ns_of cz.1 (fun h2 => cz.2.1 ((sl_iff (by omega) hx).mpr h2)))
        have hlw := tlnT_wp (mF := mF) (oF := oF) (nF := nC) (LN := LC) (LF := LF) (us := us) (f := f) (fl := fl) (n := n) h.1 h.2.1 cz.2.2.1
        generalize tlnT kF mF oF pC rF cF vn dF nC bF ec LC LF us ro pr f n fl = z at e1 hX hlw
        generalize cmT kF mF oF pR rF cF xF vn dF nR bF ec LR us ro pr q n t = z' at e2 hX
        obtain ⟨-, y2, y3, -⟩ := hX
        have hk0 : ¬ kd = nI 0 := fun e => by
          unfold mbP at hb
          rw [if_neg (by rw [e]; decide), e] at hb
          exact absurd hb.1 (by decide)
        have hk3 : kd = nI 3 → 0 < yn := fun e => by
          unfold mbP at hb
          rw [if_pos e] at hb; omega
        have hi := h2.1
        have h0 := lfN_at hi
        have hd := hlw.1.okd hlw.2
        have r00 : r0 = nI (lfN kF) := (Prod.mk.inj e1).1
        have hrn : ¬ r0 < 0 := by rw [r00]; exact nI_pos (by omega)
        rw [← y2] at e2
        have hpe : (if kd = nI 1 then upd (upd pC (lfN kF) (nI (lfN kF))) (lfN kF) z.2.1 else upd pC (lfN kF) (nI (lfN kF))) = upd pC (lfN kF) (if kd = nI 1 then z.2.1 else nI (lfN kF)) := by
          by_cases e : kd = nI 1
          · rw [if_pos e, if_pos e, updU]
          · rw [if_neg e, if_neg e]
        rw [hpe] at e1
        have e3a := e3.1
        have e3b := e3.2
        rw [ix_nI (by omega)] at e3a
        clear no e3 ec0
        generalize lfN kF = i at *
        cases e1; cases e2
        obtain ⟨hT, hC, n1, n2, n3, n4, n5⟩ := h
        refine ⟨rfl, rfl, rfl, rfl, rfl, rfl, rfl, rfl, ⟨hT.mk hi h0 h2.2 hd.1 hk0, CI.mk hT hC h0, nm_add n1 y3, fun j hj => ?_, fun j hj hk => ?_, fun j hj => ?_, fun j hj hk => ?_⟩, fun j hj hk => ?_⟩
        · by_cases e : j = i
          · rw [e, updS]; exact hd.1.1
          · rw [updN e]; exact n2 j hj
        · by_cases e : j = i
          · rw [e, updS] at hk
            rw [e, updS, updS, if_pos hk]
          · rw [updN e] at hk; rw [updN e, updN e]; exact n3 j hj hk
        · by_cases e : j = i
          · rw [e, va_up_self]; split
            · exact hy.1
            · omega
          · rw [va_up_ne _ _ e]; exact n4 j hj
        · by_cases e : j = i
          · rw [e, updS] at hk
            obtain ⟨m1, m2, m3, -⟩ := e3a ⟨hk, hrn⟩
            rw [e, m1, va_up_self, va_up_self, if_pos hk]
            refine ⟨rfl, hk3 hk, fun k hk2 => ?_⟩
            rw [m3 k hk2]
            have := hy.2 k hk2
            unfold va_cpy
            rw [if_pos (by omega), Nat.zero_add, Nat.add_sub_cancel_left, this.1]
            exact ⟨rfl, this.2⟩
          · rw [updN e] at hk
            obtain ⟨u1, u2, u3⟩ := n5 j hj hk
            have hN2 : N2 j = LC j ∧ F2 j = LF j := by
              by_cases hc : kd = nI 3 ∧ ¬ nI i < 0
              · obtain ⟨m1, m2, m3, -⟩ := e3a hc
                exact ⟨by rw [m1, va_up_ne _ _ e], m2 j e⟩
              · obtain ⟨m1, m2, -⟩ := e3b hc
                rw [m1, m2]; exact ⟨rfl, rfl⟩
            rw [hN2.1, hN2.2, va_up_ne _ _ e]
            refine ⟨u1, u2, fun k hk2 => ?_⟩
            have l40 := n4 j hj
            have y40 := hy.1
            have hne : va_cpy sF xF 0 (40 * i) (if kd = nI 3 then yn else 0) (40 * j + k) = xF (40 * j + k) := by
              unfold va_cpy
              have : (if kd = nI 3 then yn else 0) ≤ 40 := by split <;> omega
              rw [if_neg (by omega)]
            rw [hne]; exact u3 k hk2
        · by_cases e : j = i
          · rw [e, updS] at hk
            obtain ⟨-, -, -, y, m4⟩ := e3a ⟨hk, hrn⟩
            exact ⟨y, by rw [m4, e, va_up_self]⟩
          · rw [updN e] at hk
            obtain ⟨y, hy2⟩ := ht j hj hk
            by_cases hc : kd = nI 3 ∧ ¬ nI i < 0
            · obtain ⟨-, -, -, y', m4⟩ := e3a hc
              exact ⟨y, by rw [m4, va_up_ne _ _ e]; exact hy2⟩
            · obtain ⟨-, -, m3⟩ := e3b hc
              exact ⟨y, by rw [m3]; exact hy2⟩
      · rw [if_neg h2] at e1
        rw [if_neg (by omega)] at e2
        exact no _ (by decide) e1 e2
    · rw [if_neg h1] at e1 e2
      exact no _ (cnC_neg rfl h1) e1 e2
  · rw [pI_f hb] at e1
    rw [pI_f (fun x => hb (mb_iff.mpr x))] at e2
    exact no _ (by decide) e1 e2
end JN
