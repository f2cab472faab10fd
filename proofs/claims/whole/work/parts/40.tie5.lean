/-! whole walks on both sides -/
section SIM2
variable {kF mF oF vF pC pR rF cF xF : Nat → Int32} {vn : Nat} {dF : Nat → Int32} {nC nR : Nat → Int64} {bF : Nat → Int32} {ec : Nat} {LC LR : Nat → Nat} {LF : Nat → Nat → Int32} {us ro fo pr : Int32}
theorem nxR_in2 (hE : EV kF vF pC pR rF cF vn nC nR bF ec LC LR LF xF) (hro : vp_in ro 40) {wa : Int32} (hwa : vp_in wa 40) (hk : kF (ix wa) = nI 1) {x y : Int64} (hxy : nmE x y) : nxR rF cF pR vn dF nR bF ec wa ro y = -1 ∨ vp_in (nxR rF cF pR vn dF nR bF ec wa ro y) 40 := by
  rw [← nx_eq hE hwa hk hxy]
  obtain ⟨hvn, hcr, hrr, hpr, hbr, -⟩ := hE
  exact nxC_in hvn hcr hrr hpr hbr hwa hro
theorem walk_sim (hE : EV kF vF pC pR rF cF vn nC nR bF ec LC LR LF xF) (hro : vp_in ro 40) : ∀ (n m st qn hp : Nat) (f q : Nat → Int32) (wa : Int32), RS (sk f st) f qn q → (∀ j, j < qn → okT (q j)) → (0 < qn → ¬ q 0 = nI 47) → vp_in wa 40 → hp ≤ 8 → qn + 61 * (8 - hp) < n → qn + 61 * (8 - hp) < m → thrR kF mF oF pC rF cF vn dF nC bF ec LC LF us ro fo n st f wa hp = wkR kF mF oF pR rF cF xF vn dF nR bF ec LR us ro fo m qn q wa hp := by
  intro n
  induction n with
  | zero => intro m st qn hp f q wa _ _ _ _ _ h; omega
  | succ n ih =>
    intro m st qn hp f q wa hRS hq hq0 hwa hp8 hn hm
    obtain ⟨m, rfl⟩ : ∃ k, m = k + 1 := ⟨m - 1, by omega⟩
    have r1 := hRS.1
    have r2 := hRS.2.1
    by_cases h0 : qn = 0
    · rw [thrR_0 (by omega), wkR_0 h0]
    · have hs : sk f st < 60 := by omega
      have hag : agR kF mF oF us wa (eQ qn q) = tkR kF mF oF us wa (eN f (sk f st) - sk f st) := by
        rw [tk_ag, rs_eN hRS, Nat.add_sub_cancel_left]
      by_cases ht : tkR kF mF oF us wa (eN f (sk f st) - sk f st) = nI 0
      · have hS := name_sim (mF := mF) (oF := oF) (us := us) (ro := ro) (fo := fo) (hp := hp) (dF := dF) hE hRS hq hwa ht
        have hz := tkR_zero ht
        rw [rs_eN hRS, Nat.add_sub_cancel_left] at hz
        have hnm := nm_of hRS hq hz.2
        rcases hX : stQ kF pC rF cF vn dF nC bF ec LC LF ro fo f (sk f st) wa hp with ⟨r0, s2, f2, a2, h2⟩
        rcases hY : sQ kF pR rF cF xF vn dF nR bF ec LR ro fo qn q wa hp with ⟨r3, s3, f3, a3, h3⟩
        rw [hX, hY] at hS
        obtain ⟨e1, e2, e3, e4⟩ := hS
        dsimp only at e1 e2 e3 e4
        subst e1; subst e2; subst e3
        by_cases h1 : r0 = nI 0
        · have hA := thrR_s (n := n + 1) (k := 0) (by omega) hs ht hX.symm h1
          have hB := wkR_s (m := m + 1) (by omega) h0 (hag.trans ht) hY.symm h1
          rw [Nat.sub_zero, Nat.zero_add, Nat.add_sub_cancel] at hA
          rw [Nat.add_sub_cancel] at hB
          rw [hA, hB]
          obtain ⟨g1, g2⟩ := e4 h1
          have hk := rs_sk g1
          have hle := (scan_le (p := isS f3) s3 0).2
          have hep := eQ_pos (qn := qn) (qF := q) (by omega) (hq0 (by omega))
          have hele := (scan_le (p := noS q) qn 0).2
          have hep : 0 < scan (noS q) qn 0 := hep
          have hok := stR_ok hY.symm (show qn - scan (noS q) qn 0 ≤ 60 by omega) hE.2.2.2.2.2.2.2.2.1 hwa hro (nxR_in2 hE hro hwa hz.1 hnm) hp8
          have h5 := hok.2.2.1 h1
          have h6 : s3 = qn - scan (noS q) qn 0 ∧ h2 = hp ∨ h2 = hp + 1 ∧ h2 ≤ 8 := h5.2
          refine ih m s2 _ h2 f2 _ a2 ?_ (dr_ok (by omega) g2) dr_head hok.2.1 (by omega) (by omega) (by omega)
          rw [hk]; exact rs_drop g1 (by omega)
        · have hA := thrR_q (n := n + 1) (k := 0) (by omega) hs ht hX.symm h1
          have hB := wkR_q (m := m + 1) (by omega) h0 (hag.trans ht) hY.symm h1
          rw [Nat.sub_zero] at hA
          rw [hA, hB]
      · have hA := thrR_t (pF := pC) (rF := rF) (cF := cF) (vn := vn) (dF := dF) (nF := nC) (bF := bF) (ec := ec) (LN := LC) (LF := LF) (ro := ro) (fo := fo) (hp := hp) (n := n + 1) (k := 0) (by omega) hs ht
        have hB := wkR_a (pF := pR) (rF := rF) (cF := cF) (xF := xF) (vn := vn) (dF := dF) (nF := nR) (bF := bF) (ec := ec) (LN := LR) (ro := ro) (fo := fo) (hp := hp) (m := m + 1) (by omega) h0 (by rw [hag]; exact ht)
        rw [Nat.sub_zero] at hA
        rw [hA, hB, hag]
theorem rs_text {n : Nat} {f q fl t : Nat → Int32} (hn : n ≤ 40) (h : ∀ j, j < n → fl j = t j) : RS (60 - n) (va_cpy fl f 0 (60 - n) n) n (va_cpy t q 0 0 n) := by
  refine ⟨by omega, by omega, fun j hj => ?_⟩
  unfold va_cpy
  rw [if_pos (by omega), if_pos (by omega), Nat.sub_zero, Nat.zero_add, Nat.zero_add, show 60 - n + j - (60 - n) = j by omega]
  exact h j hj
theorem cpy_ok {n : Nat} {q t : Nat → Int32} (h : ∀ j, j < n → okT (t j)) : ∀ j, j < n → okT (va_cpy t q 0 0 n j) := fun j hj => by
  unfold va_cpy; rw [if_pos (by omega), Nat.sub_zero, Nat.zero_add]; exact h j hj
theorem bg_eq {n : Nat} {fl t : Nat → Int32} (h0 : 0 < n) (h : ∀ j, j < n → fl j = t j) : bgA fl ro pr = bgR t n ro pr := by
  unfold bgA bgR
  rw [h 0 h0]
  by_cases h1 : t 0 = nI 47
  · rw [if_pos h1, if_pos ⟨h0, h1⟩]
  · rw [if_neg h1, if_neg (fun h => h1 h.2)]
theorem thr_eq (hE : EV kF vF pC pR rF cF vn nC nR bF ec LC LR LF xF) (hro : vp_in ro 40) (hpp : vp_in pr 40) {n : Nat} {f q fl t : Nat → Int32} (hn : n ≤ 40) (h : ∀ j, j < n → fl j = t j ∧ okT (t j)) : thrT kF mF oF pC rF cF vn dF nC bF ec LC LF us ro pr fo f n fl = wkT kF mF oF pR rF cF xF vn dF nR bF ec LR us ro pr fo q n t := by
  unfold thrT wkT
  by_cases h0 : n = 0
  · rw [if_pos h0, if_pos h0]
  · rw [if_neg h0, if_neg h0, bg_eq (by omega) (fun j hj => (h j hj).1)]
    have r := rs_text (f := f) (q := q) hn (fun j hj => (h j hj).1)
    have hle := (scan_le (p := isS (va_cpy t q 0 0 n)) n 0).2
    refine walk_sim hE hro _ _ _ _ _ _ _ _ ?_ (dr_ok (by omega) (cpy_ok (fun j hj => (h j hj).2))) dr_head (vp_bgR hro hpp) (by omega) (by omega) (by omega)
    rw [rs_sk r]; exact rs_drop r (by omega)
theorem nmE_nil : nmE (lN 0) (lN 0) := ⟨[], ⟨by decide, by decide⟩, by decide, by decide⟩
theorem come_sim (hE : EV kF vF pC pR rF cF vn nC nR bF ec LC LR LF xF) (hro : vp_in ro 40) : ∀ (n m st qn hp : Nat) (f q : Nat → Int32) (wa : Int32), RS st f qn q → (∀ j, j < qn → okT (q j)) → nsQ qn q → vp_in wa 40 → hp ≤ 8 → qn + 61 * (8 - hp) < n → qn + 61 * (8 - hp) < m → (tlnR kF mF oF pC rF cF vn dF nC bF ec LC LF us ro n st f wa hp).1 = (cmR kF mF oF pR rF cF xF vn dF nR bF ec LR us ro m qn q wa hp).1 ∧ (tlnR kF mF oF pC rF cF vn dF nC bF ec LC LF us ro n st f wa hp).2.1 = (cmR kF mF oF pR rF cF xF vn dF nR bF ec LR us ro m qn q wa hp).2.1 ∧ nmE (tlnR kF mF oF pC rF cF vn dF nC bF ec LC LF us ro n st f wa hp).2.2.1 (cmR kF mF oF pR rF cF xF vn dF nR bF ec LR us ro m qn q wa hp).2.2.1 ∧ ((tlnR kF mF oF pC rF cF vn dF nC bF ec LC LF us ro n st f wa hp).2.2.2 ↔ (cmR kF mF oF pR rF cF xF vn dF nR bF ec LR us ro m qn q wa hp).2.2.2) := by
  intro n
  induction n with
  | zero => intro m st qn hp f q wa _ _ _ _ _ h; omega
  | succ n ih =>
    intro m st qn hp f q wa hRS0 hq hns hwa hp8 hn hm
    obtain ⟨m, rfl⟩ : ∃ k, m = k + 1 := ⟨m - 1, by omega⟩
    have hsl := (scan_le (p := isS q) qn 0).2
    have hRS := rs_drop (k := scan (isS q) qn 0) hRS0 (by omega)
    rw [← rs_sk hRS0] at hRS
    have hq2 := dr_ok (k := scan (isS q) qn 0) (by omega) hq
    have hpos := ns_pos hns
    have hhd := dr_head hpos
    have r1 := hRS.1
    have r2 := hRS.2.1
    have hs : sk f st < 60 := by omega
    have hag : agR kF mF oF us wa (eQ (qn - scan (isS q) qn 0) (drF q (scan (isS q) qn 0) (qn - scan (isS q) qn 0))) = tkR kF mF oF us wa (eN f (sk f st) - sk f st) := by
      rw [tk_ag, rs_eN hRS, Nat.add_sub_cancel_left]
    by_cases ht : tkR kF mF oF us wa (eN f (sk f st) - sk f st) = nI 0
    · have hS := name_sim (mF := mF) (oF := oF) (us := us) (ro := ro) (fo := nI 1) (hp := hp) (dF := dF) hE hRS hq2 hwa ht
      have hz := tkR_zero ht
      rw [rs_eN hRS, Nat.add_sub_cancel_left] at hz
      have hnm := nm_of hRS hq2 hz.2
      have hele := (scan_le (p := noS (drF q (scan (isS q) qn 0) (qn - scan (isS q) qn 0))) (qn - scan (isS q) qn 0) 0).2
      have hla : laA f (eN f (sk f st)) ↔ laQ (qn - scan (isS q) qn 0) (drF q (scan (isS q) qn 0) (qn - scan (isS q) qn 0)) := by
        rw [rs_eN hRS]; exact rs_la (rs_drop hRS (by omega))
      by_cases hl : laA f (eN f (sk f st))
      · have hA := tlnR_l (pF := pC) (rF := rF) (cF := cF) (vn := vn) (dF := dF) (nF := nC) (bF := bF) (ec := ec) (LN := LC) (LF := LF) (ro := ro) (hp := hp) (n := n + 1) (k := 0) (by omega) hs ht hl
        have hB := cmR_l (pF := pR) (rF := rF) (cF := cF) (xF := xF) (vn := vn) (dF := dF) (nF := nR) (bF := bF) (ec := ec) (LN := LR) (ro := ro) (hp := hp) (m := m + 1) (by omega) (hag.trans ht) (hla.mp hl)
        rw [Nat.sub_zero] at hA
        rw [hA, hB]
        refine ⟨rfl, rfl, hnm, ?_⟩
        show eN f (sk f st) < 60 ↔ 0 < qn - scan (isS q) qn 0 - scan (noS (drF q (scan (isS q) qn 0) (qn - scan (isS q) qn 0))) (qn - scan (isS q) qn 0) 0
        rw [rs_eN hRS]
        omega
      · rcases hX : stQ kF pC rF cF vn dF nC bF ec LC LF ro (nI 1) f (sk f st) wa hp with ⟨r0, s2, f2, a2, h2⟩
        rcases hY : sQ kF pR rF cF xF vn dF nR bF ec LR ro (nI 1) (qn - scan (isS q) qn 0) (drF q (scan (isS q) qn 0) (qn - scan (isS q) qn 0)) wa hp with ⟨r3, s3, f3, a3, h3⟩
        rw [hX, hY] at hS
        obtain ⟨e1, e2, e3, e4⟩ := hS
        dsimp only at e1 e2 e3 e4
        subst e1; subst e2; subst e3
        have hl2 : ¬ laQ (qn - scan (isS q) qn 0) (drF q (scan (isS q) qn 0) (qn - scan (isS q) qn 0)) := fun h => hl (hla.mpr h)
        by_cases h1 : r0 = nI 0
        · have hA := tlnR_s (n := n + 1) (k := 0) (by omega) hs ht hl hX.symm h1
          have hB := cmR_s (m := m + 1) (by omega) (hag.trans ht) hl2 hY.symm h1
          rw [Nat.sub_zero, Nat.zero_add, Nat.add_sub_cancel] at hA
          rw [Nat.add_sub_cancel] at hB
          rw [hA, hB]
          obtain ⟨g1, g2⟩ := e4 h1
          have hep : 0 < scan (noS (drF q (scan (isS q) qn 0) (qn - scan (isS q) qn 0))) (qn - scan (isS q) qn 0) 0 := eQ_pos hpos hhd
          have hok := stR_ok hY.symm (show (qn - scan (isS q) qn 0) - scan (noS (drF q (scan (isS q) qn 0) (qn - scan (isS q) qn 0))) (qn - scan (isS q) qn 0) 0 ≤ 60 by omega) hE.2.2.2.2.2.2.2.2.1 hwa hro (nxR_in2 hE hro hwa hz.1 hnm) hp8
          have h5 := hok.2.2.1 h1
          have h6 : s3 = (qn - scan (isS q) qn 0) - scan (noS (drF q (scan (isS q) qn 0) (qn - scan (isS q) qn 0))) (qn - scan (isS q) qn 0) 0 ∧ h2 = hp ∨ h2 = hp + 1 ∧ h2 ≤ 8 := h5.2
          exact ih m s2 _ h2 f2 _ a2 g1 g2 (ns_st hY.symm h1 (ns_la hl2)) hok.2.1 (by omega) (by omega) (by omega)
        · have hA := tlnR_q (n := n + 1) (k := 0) (by omega) hs ht hl hX.symm h1
          have hB := cmR_q (m := m + 1) (by omega) (hag.trans ht) hl2 hY.symm h1
          rw [Nat.sub_zero] at hA
          rw [hA, hB]
          exact ⟨rfl, rfl, nmE_nil, Iff.rfl⟩
    · have hA := tlnR_t (pF := pC) (rF := rF) (cF := cF) (vn := vn) (dF := dF) (nF := nC) (bF := bF) (ec := ec) (LN := LC) (LF := LF) (ro := ro) (hp := hp) (n := n + 1) (k := 0) (by omega) hs ht
      have hB := cmR_a (pF := pR) (rF := rF) (cF := cF) (xF := xF) (vn := vn) (dF := dF) (nF := nR) (bF := bF) (ec := ec) (LN := LR) (ro := ro) (hp := hp) (m := m + 1) (by omega) (by rw [hag]; exact ht)
      rw [Nat.sub_zero] at hA
      rw [hA, hB, hag]
      exact ⟨rfl, rfl, nmE_nil, Iff.rfl⟩
theorem tln_eq (hE : EV kF vF pC pR rF cF vn nC nR bF ec LC LR LF xF) (hro : vp_in ro 40) (hpp : vp_in pr 40) {n : Nat} {f q fl t : Nat → Int32} (hn : n ≤ 40) (h : ∀ j, j < n → fl j = t j ∧ okT (t j)) (hns : nsQ n t) : (tlnT kF mF oF pC rF cF vn dF nC bF ec LC LF us ro pr f n fl).1 = (cmT kF mF oF pR rF cF xF vn dF nR bF ec LR us ro pr q n t).1 ∧ (tlnT kF mF oF pC rF cF vn dF nC bF ec LC LF us ro pr f n fl).2.1 = (cmT kF mF oF pR rF cF xF vn dF nR bF ec LR us ro pr q n t).2.1 ∧ nmE (tlnT kF mF oF pC rF cF vn dF nC bF ec LC LF us ro pr f n fl).2.2.1 (cmT kF mF oF pR rF cF xF vn dF nR bF ec LR us ro pr q n t).2.2.1 ∧ ((tlnT kF mF oF pC rF cF vn dF nC bF ec LC LF us ro pr f n fl).2.2.2 ↔ (cmT kF mF oF pR rF cF xF vn dF nR bF ec LR us ro pr q n t).2.2.2) := by
  have h0 : 0 < n := by obtain ⟨i, hi, -⟩ := hns; omega
  unfold tlnT cmT
  rw [bg_eq h0 (fun j hj => (h j hj).1)]
  exact come_sim hE hro _ _ _ _ _ _ _ _ (rs_text hn (fun j hj => (h j hj).1)) (cpy_ok (fun j hj => (h j hj).2)) (ns_cpy hns) (vp_bgR hro hpp) (by omega) (by omega) (by omega)
end SIM2
