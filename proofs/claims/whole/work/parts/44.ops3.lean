/-! the calls that come to a last name, on both sides -/
def NRel (kF pC pR : Nat → Int32) (nC nR : Nat → Int64) (ec : Nat) (LC LR : Nat → Nat) (LF : Nat → Nat → Int32) (xF : Nat → Int32) : Prop := (∀ k, k < ec → nmE (nC k) (nR k)) ∧ (∀ i, i < 40 → vp_in (pR i) 40) ∧ (∀ i, i < 40 → kF i = nI 1 → pC i = pR i) ∧ (∀ i, i < 40 → LR i ≤ 40) ∧ (∀ i, i < 40 → kF i = nI 3 → LR i = LC i ∧ 0 < LC i ∧ ∀ j, j < LC i → LF i j = xF (40 * i + j) ∧ okT (LF i j))
section OPS3
variable {kF mF oF vF pC pR rF cF xF : Nat → Int32} {vn : Nat} {dF : Nat → Int32} {nC nR : Nat → Int64} {bF : Nat → Int32} {ec : Nat} {LC LR : Nat → Nat} {LF : Nat → Nat → Int32} {us ro fo pr : Int32}
theorem TI.grdD (hT : TI kF vF pC rF cF vn dF bF ec) : ∀ (n : Nat) (d : Int32), vp_in d 40 → kF (ix d) = nI 1 → vp_in (grdC rF cF vn n d) 40 ∧ kF (ix (grdC rF cF vn n d)) = nI 1
  | 0, d, h, h2 => ⟨h, h2⟩
  | n + 1, d, h, h2 => by
    by_cases hm : mwrN rF cF d vn < vn
    · rw [grdC_go hm]
      have hT2 := hT
      obtain ⟨hvn, -, hcr, -, -, -, -, -, -, -, hco, -⟩ := hT2
      have s := mwr_spec (rF := rF) (cF := cF) (o := d) hm hvn.1
      have c := hco _ s.1 hm s.2.2
      exact hT.grdD n _ ((hcr _ (by omega)).resolve_left s.2.2) c.1
    · rw [grdC_fix (by omega)]; exact ⟨h, h2⟩
theorem TI.ev (hT : TI kF vF pC rF cF vn dF bF ec) (hN : NRel kF pC pR nC nR ec LC LR LF xF) : EV kF vF pC pR rF cF vn nC nR bF ec LC LR LF xF := by
  have hM := hT.mi
  have hT2 := hT
  obtain ⟨hvn, hec, hcr, hrr, hpr, -, -, hen, -⟩ := hT2
  obtain ⟨n1, n2, n3, n4, n5⟩ := hN
  exact ⟨hvn, hcr, hrr, hpr, fun k hk => (hen k hk).2.1, hM, fun d hd hk => by
    have := hT.grdD 4 d hd hk
    exact n3 _ (vp_ix this.1) this.2, n1, n4, n5⟩
theorem sl_iff {n : Nat} {fl t : Nat → Int32} (h0 : ¬ n = 0) (h : TX n fl t) : scan (isS fl) n 0 = n ↔ (0 < n ∧ ∀ j, j < n → t j = nI 47) := by
  have e := scan_all (p := isS fl) (n := n) (k := 0)
  rw [Nat.zero_add] at e
  rw [e]
  constructor
  · intro h2
    refine ⟨by omega, fun j hj => ?_⟩
    have := h2 j (Nat.zero_le j) hj
    rw [← (h.2 j hj).1]; exact of_decide_eq_true this
  · intro h2 j _ hj
    exact decide_eq_true (by rw [(h.2 j hj).1]; exact h2.2 j hj)
theorem cn_eq (hE : EV kF vF pC pR rF cF vn nC nR bF ec LC LR LF xF) (hro : vp_in ro 40) (hpp : vp_in pr 40) {n : Nat} {f q fl t : Nat → Int32} {ms : Int32} (h : TX n fl t) : cnC kF mF oF pC rF cF vn dF nC bF ec LC LF us ro pr f n fl ms = nnR kF mF oF pR rF cF xF vn dF nR bF ec LR us ro pr q n t ms := by
  unfold cnC nnR
  by_cases h0 : n = 0
  · rw [if_pos h0, if_pos h0]
  · rw [if_neg h0, if_neg h0]
    by_cases hs : scan (isS fl) n 0 = n
    · rw [if_pos hs, pI_t ((sl_iff h0 h).mp hs)]
    · have hs2 : ¬ (0 < n ∧ ∀ j, j < n → t j = nI 47) := fun h2 => hs ((sl_iff h0 h).mpr h2)
      rw [if_neg hs, pI_f hs2]
      have hX := tln_eq (mF := mF) (oF := oF) (us := us) (dF := dF) (f := f) (q := q) hE hro hpp h.1 h.2 (ns_of (by omega) hs2)
      rcases hA : tlnT kF mF oF pC rF cF vn dF nC bF ec LC LF us ro pr f n fl with ⟨a1, a2, a3, a4⟩
      rcases hB : cmT kF mF oF pR rF cF xF vn dF nR bF ec LR us ro pr q n t with ⟨b1, b2, b3, b4⟩
      rw [hA, hB] at hX
      obtain ⟨e1, e2, e3, e4⟩ := hX
      dsimp only at e1 e2 e3 e4 ⊢
      subst e1; subst e2
      rw [propext e4]
      rw [pI_cg (may_2 us (mF (ix a2)) (oF (ix a2))), propext (nmE_iff e3 nmE_dot), propext (nmE_iff e3 nmE_dots), fnd_eq hE.2.2.2.2.2.2.2.1 e3]
theorem cn_zero {n : Nat} {f fl : Nat → Int32} {ms : Int32} (h : cnC kF mF oF pC rF cF vn dF nC bF ec LC LF us ro pr f n fl ms = nI 0) : 0 < n ∧ ¬ scan (isS fl) n 0 = n ∧ (tlnT kF mF oF pC rF cF vn dF nC bF ec LC LF us ro pr f n fl).1 = nI 0 ∧ ¬ fndE dF nC (tlnT kF mF oF pC rF cF vn dF nC bF ec LC LF us ro pr f n fl).2.1 (tlnT kF mF oF pC rF cF vn dF nC bF ec LC LF us ro pr f n fl).2.2.1 ec < ec := by
  unfold cnC at h
  by_cases h0 : n = 0
  · rw [if_pos h0] at h; exact absurd h (by decide)
  · rw [if_neg h0] at h
    by_cases hs : scan (isS fl) n 0 = n
    · rw [if_pos hs] at h; exact absurd h (by decide)
    · rw [if_neg hs] at h
      by_cases h1 : (tlnT kF mF oF pC rF cF vn dF nC bF ec LC LF us ro pr f n fl).1 = nI 0
      · rw [if_pos h1] at h
        refine ⟨by omega, hs, h1, fun h2 => ?_⟩
        rw [pI_t (Or.inr h2)] at h
        exact absurd h (by decide)
      · rw [if_neg h1] at h; exact absurd h h1
/-- five results alike but for the names -/
def L5 (a : Int32 × Nat × (Nat → Int32) × (Nat → Int64) × (Nat → Int32)) (b : Int32 × Nat × (Nat → Int32) × (Nat → Int64) × (Nat → Int32)) : Prop := a.1 = b.1 ∧ a.2.1 = b.2.1 ∧ a.2.2.1 = b.2.2.1 ∧ a.2.2.2.2 = b.2.2.2.2 ∧ ∀ k, k < a.2.1 → nmE (a.2.2.2.1 k) (b.2.2.2.1 k)
theorem nm_add (hN : ∀ k, k < ec → nmE (nC k) (nR k)) {x y : Int64} (h : nmE x y) : ∀ k, k < ec + 1 → nmE (vp_updL nC ec x k) (vp_updL nR ec y k) := by
  intro k hk
  unfold vp_updL
  by_cases e : k = ec
  · rw [if_pos e, if_pos e]; exact h
  · rw [if_neg e, if_neg e]; exact hN k (by omega)
theorem lk_rel (hE : EV kF vF pC pR rF cF vn nC nR bF ec LC LR LF xF) (hec : ec ≤ 80) (hro : vp_in ro 40) (hpp : vp_in pr 40) {n yn : Nat} {f g q q' fl t yf sF : Nat → Int32} (h : TX n fl t) (hy : TX yn yf sF) : L5 (lkC kF mF oF pC rF cF vn dF nC bF ec LC LF us ro vF pr f g n fl yn yf) (lkR kF mF oF pR rF cF xF vn dF nR bF ec LR us ro vF pr q q' n t yn sF) := by
  have hN := hE.2.2.2.2.2.2.2.1
  have e0 := thr_eq (mF := mF) (oF := oF) (us := us) (dF := dF) (fo := nI 0) (f := f) (q := q) hE hro hpp hy.1 hy.2
  have e1 := cn_eq (mF := mF) (oF := oF) (us := us) (dF := dF) (f := g) (q := q') (ms := nI 0) hE hro hpp h
  unfold lkC lkR
  rw [e0, e1]
  by_cases h1 : wkT kF mF oF pR rF cF xF vn dF nR bF ec LR us ro pr (nI 0) q yn sF < 0
  · rw [if_pos h1, if_pos h1]; exact ⟨rfl, rfl, rfl, rfl, hN⟩
  · rw [if_neg h1, if_neg h1]
    by_cases h2 : kF (ix (wkT kF mF oF pR rF cF xF vn dF nR bF ec LR us ro pr (nI 0) q yn sF)) = nI 1
    · rw [if_pos h2, if_pos h2]; exact ⟨rfl, rfl, rfl, rfl, hN⟩
    · rw [if_neg h2, if_neg h2]
      by_cases h3 : nnR kF mF oF pR rF cF xF vn dF nR bF ec LR us ro pr q' n t (nI 0) = nI 0
      · rw [if_pos h3, if_pos h3]
        have cz := cn_zero (e1.trans h3)
        have hX := tln_eq (mF := mF) (oF := oF) (us := us) (dF := dF) (f := g) (q := q') hE hro hpp h.1 h.2 (ns_of cz.1 (fun h2 => cz.2.1 ((sl_iff (by omega) h).mpr h2)))
        rcases hA : tlnT kF mF oF pC rF cF vn dF nC bF ec LC LF us ro pr g n fl with ⟨a1, a2, a3, a4⟩
        rcases hB : cmT kF mF oF pR rF cF xF vn dF nR bF ec LR us ro pr q' n t with ⟨b1, b2, b3, b4⟩
        rw [hA, hB] at hX
        obtain ⟨x1, x2, x3, x4⟩ := hX
        dsimp only at x1 x2 x3 x4 ⊢
        subst x2
        by_cases h4 : vF (ix a2) = vF (ix (wkT kF mF oF pR rF cF xF vn dF nR bF ec LR us ro pr (nI 0) q yn sF))
        · rw [if_pos h4, if_pos h4]
          by_cases h5 : 80 ≤ ec
          · rw [if_pos h5, if_pos (by omega)]; exact ⟨rfl, rfl, rfl, rfl, hN⟩
          · rw [if_neg h5, if_neg (by omega)]; exact ⟨rfl, rfl, rfl, rfl, nm_add hN x3⟩
        · rw [if_neg h4, if_neg h4]; exact ⟨rfl, rfl, rfl, rfl, hN⟩
      · rw [if_neg h3, if_neg h3]; exact ⟨rfl, rfl, rfl, rfl, hN⟩
theorem wn_eq (hT : TI kF vF pC rF cF vn dF bF ec) {sl sl' : Prop} (hs : sl ↔ sl') {wa o : Int32} (ho : vp_in o 40) : wnC sl kF mF oF us ro pr wa cF vn dF ec o = wnR sl' kF mF oF us ro pr wa cF vn dF ec o := by
  obtain ⟨hvn, hec, hcr, hrr, hpr, -, -, hen, -, -, -, -, hU, -⟩ := hT
  unfold wnC wnR
  rw [propext hs, pI_cg (may_2 us (mF (ix wa)) (oF (ix wa))), cov_eq hvn.1 hU (ne_m1 ho)]
  have e : (if cntB (fun j => decide (dF j = o)) ec = 0 then nI 0 else -8) = (if kF (ix o) = nI 1 ∧ 0 < cntB (fun j => decide (dF j = o)) ec then -8 else nI 0) := by
    by_cases h : cntB (fun j => decide (dF j = o)) ec = 0
    · rw [if_pos h, if_neg (by omega)]
    · have hk : kF (ix o) = nI 1 := Classical.byContradiction fun hk => h (cntB_zero.mpr (fun j hj => decide_eq_false (fun e => hk (by rw [← e]; exact (hen j hj).2.2.1))))
      rw [if_neg h, if_pos ⟨hk, by omega⟩]
  rw [e]
def L6 (a : Int32 × Nat × (Nat → Int32) × (Nat → Int64) × (Nat → Int32) × (Nat → Int32)) (b : Int32 × Nat × (Nat → Int32) × (Nat → Int64) × (Nat → Int32) × (Nat → Int32)) : Prop := a.1 = b.1 ∧ a.2.1 = b.2.1 ∧ a.2.2.1 = b.2.2.1 ∧ a.2.2.2.2 = b.2.2.2.2 ∧ ∀ k, k < a.2.1 → nmE (a.2.2.2.1 k) (b.2.2.2.1 k)
theorem upd_id {f : Nat → Int32} {i : Nat} : upd f i (f i) = f := by funext j; unfold upd; split; (rename_i e; rw [e]); rfl
theorem rd_rel (hN : ∀ k, k < ec → nmE (nC k) (nR k)) {J : Nat} {w : Int32} : L6 (rmD kF dF nC bF ec J w) (rmE kF dF nR bF ec J w) := by
  unfold rmD rmE
  by_cases hw : w = nI 0
  · rw [if_pos hw, if_pos hw]
    refine ⟨rfl, rfl, rfl, ?_, fun k hk => ?_⟩
    · show (shf bF J (ec - 1), _) = (shf bF J (ec - 1), _)
      by_cases hc : cntB (fun j => decide (shf bF J (ec - 1) j = bF J)) (ec - 1) = 0
      · rw [if_pos hc, if_pos hc]
      · rw [if_neg hc, if_neg hc, upd_id]
    · have hk : k < ec - 1 := hk
      show nmE (shf nC J (ec - 1) k) (shf nR J (ec - 1) k)
      unfold shf
      by_cases h2 : J ≤ k ∧ k < ec - 1
      · rw [if_pos h2, if_pos h2]; exact hN _ (by omega)
      · rw [if_neg h2, if_neg h2]; exact hN _ (by omega)
  · rw [if_neg hw, if_neg hw]; exact ⟨rfl, rfl, rfl, rfl, hN⟩
theorem rm_rel (hT : TI kF vF pC rF cF vn dF bF ec) (hE : EV kF vF pC pR rF cF vn nC nR bF ec LC LR LF xF) (hro : vp_in ro 40) (hpp : vp_in pr 40) {n : Nat} {f q fl t : Nat → Int32} (h : TX n fl t) : L6 (rmC kF mF oF pC rF cF vn dF nC bF ec LC LF us ro pr f n fl) (rmR kF mF oF pR rF cF xF vn dF nR bF ec LR us ro pr q n t) := by
  have hN := hE.2.2.2.2.2.2.2.1
  unfold rmC rmR
  by_cases h0 : n = 0
  · rw [if_pos h0, if_pos h0]; exact ⟨rfl, rfl, rfl, rfl, hN⟩
  · rw [if_neg h0, if_neg h0]
    by_cases hs : scan (isS fl) n 0 = n
    · rw [if_pos hs, pI_t ((sl_iff h0 h).mp hs)]; exact ⟨rfl, rfl, rfl, rfl, hN⟩
    · have hs2 : ¬ (0 < n ∧ ∀ j, j < n → t j = nI 47) := fun h2 => hs ((sl_iff h0 h).mpr h2)
      rw [if_neg hs, pI_f hs2]
      have hX := tln_eq (mF := mF) (oF := oF) (us := us) (dF := dF) (f := f) (q := q) hE hro hpp h.1 h.2 (ns_of (by omega) hs2)
      rcases hA : tlnT kF mF oF pC rF cF vn dF nC bF ec LC LF us ro pr f n fl with ⟨a1, a2, a3, a4⟩
      rcases hB : cmT kF mF oF pR rF cF xF vn dF nR bF ec LR us ro pr q n t with ⟨b1, b2, b3, b4⟩
      rw [hA, hB] at hX
      obtain ⟨e1, e2, e3, e4⟩ := hX
      dsimp only at e1 e2 e3 e4 ⊢
      subst e1; subst e2
      by_cases h1 : a1 = nI 0
      · rw [if_pos h1, if_pos h1]
        by_cases h2 : a3 = lN 46 ∨ a3 = lN 11822
        · rw [if_pos h2, if_pos (Or.imp (nmE_iff e3 nmE_dot).mp (nmE_iff e3 nmE_dots).mp h2)]; exact ⟨rfl, rfl, rfl, rfl, hN⟩
        · rw [if_neg h2, if_neg (fun h3 => h2 (Or.imp (nmE_iff e3 nmE_dot).mpr (nmE_iff e3 nmE_dots).mpr h3)), fnd_eq hN e3]
          by_cases h3 : fndE dF nR a2 b3 ec < ec
          · rw [if_pos h3, if_pos h3, wn_eq hT e4 (hE.2.2.2.2.1 _ h3)]
            exact rd_rel hN
          · rw [if_neg h3, if_neg h3]; exact ⟨rfl, rfl, rfl, rfl, hN⟩
      · rw [if_neg h1, if_neg h1]; exact ⟨rfl, rfl, rfl, rfl, hN⟩
theorem mb_iff {yn : Nat} {kd mo : Int32} : mbP yn kd mo ↔ mbR yn kd mo := by
  unfold mbP mbR
  have t1 : (kd < nI 1) ↔ kd.toInt < 1 := by rw [Int32.lt_iff_toInt_lt, nI_toInt (by decide)]; rfl
  have t3 : (nI 3 < kd) ↔ 3 < kd.toInt := by rw [Int32.lt_iff_toInt_lt, nI_toInt (by decide)]; rfl
  have t4 : (kd < nI 3) ↔ kd.toInt < 3 := by rw [Int32.lt_iff_toInt_lt, nI_toInt (by decide)]; rfl
  have s1 : kd = nI 1 ↔ kd.toInt = 1 := by rw [← Int32.toInt_inj, nI_toInt (by decide)]; rfl
  have s2 : kd = nI 2 ↔ kd.toInt = 2 := by rw [← Int32.toInt_inj, nI_toInt (by decide)]; rfl
  have s3 : kd = nI 3 ↔ kd.toInt = 3 := by rw [← Int32.toInt_inj, nI_toInt (by decide)]; rfl
  rw [t1, t3, t4]
  by_cases h : kd = nI 3
  · have h' := s3.mp h
    rw [if_pos h]
    constructor
    · intro h2; exact ⟨by omega, by omega, fun h3 => by omega, fun _ => h2⟩
    · intro h2; exact h2.2.2.2 h
  · have h' : ¬ kd.toInt = 3 := fun e => h (s3.mpr e)
    rw [if_neg h, md_iff, s1, s2]
    constructor
    · intro h2; exact ⟨by omega, by omega, fun _ => h2.2, fun h3 => absurd h3 h⟩
    · intro h2; exact ⟨by omega, h2.2.2.1 (by omega)⟩
end OPS3
