/-! the way up ends; below, mount, unmount on both sides -/
section UPS
variable {kF vF pC pR rF cF : Nat → Int32} {vn : Nat} {dF bF : Nat → Int32} {ec : Nat} {ro pr : Int32}
theorem TI.topLD (hT : TI kF vF pC rF cF vn dF bF ec) : ∀ (n : Nat) (x : Int32), LD kF vF cF vn x → LD kF vF cF vn (topC rF cF vn n x)
  | 0, x, h => h
  | n + 1, x, h => by
    by_cases h0 : covN cF x vn = 0
    · rw [topC_fix h0]; exact h
    · rw [topC_go h0]
      rcases covN_spec (cF := cF) (d := x) hT.1.1 with ⟨h2, -⟩ | ⟨w1, w2, w3⟩
      · exact absurd h2 h0
      · have hc : ¬ cF (covN cF x vn) = -1 := by rw [w3]; exact ne_m1 h.1
        have hT2 := hT
        obtain ⟨hvn, -, -, hrr, -, hr, -⟩ := hT2
        have r := hr _ w2
        exact hT.topLD n _ ⟨hrr _ (by omega), r.1, by rw [r.2.1]; exact Or.inr ⟨_, w1, w2, rfl, hc⟩⟩
theorem TI.zeroOK (hT : TI kF vF pC rF cF vn dF bF ec) : OKD kF vF cF vn (nI 0) := by
  obtain ⟨hvn, -, hcr, hrr, -, hr, hr0, -, -, -, hco, -⟩ := hT
  have r := hr 0 (by omega)
  rw [hr0] at r
  refine ⟨⟨vp_in_nI (by decide) (by decide), r.1, Or.inl r.2.1⟩, ?_⟩
  rcases covN_spec (cF := cF) (d := nI 0) hvn.1 with ⟨h2, -⟩ | ⟨w1, w2, w3⟩
  · exact h2
  · exact absurd w3 (hco _ w1 w2 (by rw [w3]; decide)).2.1
theorem TI.zeroUp (hT : TI kF vF pC rF cF vn dF bF ec) : upF pC rF cF vn (nI 0) = nI 0 := by
  have hM := hT.mi
  obtain ⟨hvn, -, hcr, hrr, -, hr, hr0, -⟩ := hT
  have g : grdC rF cF vn 4 (nI 0) = nI 0 := grdC_fix (Nat.le_of_not_lt fun hm => by
    have s := mwr_spec (rF := rF) (cF := cF) (o := nI 0) hm hvn.1
    have := hM.2.1 _ _ hm (show 0 < vn by omega) (s.2.1.trans hr0.symm)
    omega)
  show pC (ix (grdC rF cF vn 4 (nI 0))) = nI 0
  rw [g]
  have := (hr 0 (by omega)).2.2
  rw [hr0] at this; exact this
abbrev NM (nu : Nat → Nat) (rF cF : Nat → Int32) (vn : Nat) (d : Int32) : Nat := cntB (fun x => decide (nu x < nu (ix (grdC rF cF vn 4 d)))) 40
theorem TI.nm39 (hT : TI kF vF pC rF cF vn dF bF ec) {nu : Nat → Nat} {d : Int32} (hd : LD kF vF cF vn d) : NM nu rF cF vn d ≤ 39 := by
  have := cntB_ex (p := fun x => decide (nu x < nu (ix (grdC rF cF vn 4 d)))) 40 ⟨ix (grdC rF cF vn 4 d), vp_ix (hT.grdLD 4 d hd).1, by simp⟩
  show cntB _ 40 ≤ 39
  omega
theorem TI.dec (hT : TI kF vF pC rF cF vn dF bF ec) {nu : Nat → Nat} (h1 : ∀ i, i < 40 → kF i = nI 1 → (∀ v, v < vn → ¬ rF v = nI i) → nu (ix (pC i)) < nu i) (h2 : ∀ w, 1 ≤ w → w < vn → ¬ cF w = -1 → nu (ix (cF w)) < nu (ix (rF w))) {d : Int32} (hd : LD kF vF cF vn d) (h0 : ¬ d = nI 0) : NM nu rF cF vn (topC rF cF vn 4 (upF pC rF cF vn d)) < NM nu rF cF vn d := by
  have g := hT.grdLD 4 d hd
  have u := hT.upLD hd
  have a := h1 (ix (grdC rF cF vn 4 d)) (vp_ix g.1) g.2.1 (fun v hv => by rw [← nI_ix g.1 (by decide)]; exact hT.grdroot hd h0 hv)
  have b := hT.grdnu h2 4 (upF pC rF cF vn d)
  have e : grdC rF cF vn 4 (topC rF cF vn 4 (upF pC rF cF vn d)) = grdC rF cF vn 4 (upF pC rF cF vn d) := hT.grdtop 4 _ u.1
  show cntB (fun x => decide (nu x < nu (ix (grdC rF cF vn 4 (topC rF cF vn 4 (upF pC rF cF vn d)))))) 40 < cntB _ 40
  rw [e]
  have c : nu (ix (grdC rF cF vn 4 (upF pC rF cF vn d))) < nu (ix (grdC rF cF vn 4 d)) := Nat.lt_of_le_of_lt b a
  refine cntB_lt 40 (fun j hj h => ?_) ⟨ix (grdC rF cF vn 4 (upF pC rF cF vn d)), vp_ix (hT.grdLD 4 _ u).1, ?_, ?_⟩
  · have h : nu j < nu (ix (grdC rF cF vn 4 (upF pC rF cF vn d))) := by simpa using h
    exact decide_eq_true (Nat.lt_trans h c)
  · exact decide_eq_true c
  · simp
theorem abv_top {rF cF pC : Nat → Int32} {vn : Nat} {h r0 : Int32} (h0 : ¬ h = r0) : abvC rF cF pC vn h r0 = topC rF cF vn 4 (upF pC rF cF vn h) := if_neg h0
theorem TI.ia (hT : TI kF vF pC rF cF vn dF bF ec) {nu : Nat → Nat} (h1 : ∀ i, i < 40 → kF i = nI 1 → (∀ v, v < vn → ¬ rF v = nI i) → nu (ix (pC i)) < nu i) (h2 : ∀ w, 1 ≤ w → w < vn → ¬ cF w = -1 → nu (ix (cF w)) < nu (ix (rF w))) (hP : ∀ i, i < 40 → kF i = nI 1 → pC i = pR i) {d : Int32} : ∀ (n m : Nat) (h : Int32), LD kF vF cF vn h → NM nu rF cF vn h < n → NM nu rF cF vn h < m → iaC rF cF pC vn n h d = iaR rF cF pR vn m h d := by
  intro n
  induction n with
  | zero => intro m h _ h; omega
  | succ n ih =>
    intro m h hl hn hm
    obtain ⟨m, rfl⟩ : ∃ k, m = k + 1 := ⟨m - 1, by omega⟩
    by_cases hh : h = d ∨ h = 0
    · rw [iaC_r hh, iaR_r hh]
    · have h0 : ¬ h = nI 0 := fun e => hh (Or.inr e)
      have hA := iaC_s (rF := rF) (cF := cF) (pF := pC) (vn := vn) (n := n + 1) (k := 0) (by omega) (fun e => hh (Or.inl e)) (fun e => hh (Or.inr e))
      have hB := iaR_s (rF := rF) (cF := cF) (pF := pR) (vn := vn) (n := m + 1) (k := 0) (by omega) (fun e => hh (Or.inl e)) (fun e => hh (Or.inr e))
      rw [Nat.sub_zero, Nat.zero_add, Nat.add_sub_cancel] at hA hB
      have g := hT.grdLD 4 h hl
      have e := abv_eq (r0 := nI 0) hT.1 hT.2.2.1 hT.2.2.2.1 hT.mi hT.2.2.2.2.1 hl.1 (hP _ (vp_ix g.1) g.2.1)
      rw [hA, hB, ← e, abv_top h0]
      have dd := hT.dec h1 h2 hl h0
      exact ih m _ (hT.topLD 4 _ (hT.upLD hl)) (by omega) (by omega)
theorem TI.ia_eq (hT : TI kF vF pC rF cF vn dF bF ec) (hP : ∀ i, i < 40 → kF i = nI 1 → pC i = pR i) {h d : Int32} (hl : LD kF vF cF vn h) : iaC rF cF pC vn 40 h d = iaR rF cF pR vn 50 h d := by
  have hT2 := hT
  obtain ⟨-, -, -, -, -, -, -, -, -, -, -, -, -, -, nu, h1, h2⟩ := hT2
  have := hT.nm39 (nu := nu) hl
  exact hT.ia h1 h2 hP 40 50 h hl (by omega) (by omega)
theorem TI.noz (hT : TI kF vF pC rF cF vn dF bF ec) {OK : Int32 → Prop} {t : Int32} (ht : ¬ nI 0 = t) : ∀ n, ¬ Gr (upF pC rF cF vn) OK t n (nI 0)
  | 0, h => ht h
  | n + 1, h => by
    have := h.2.2
    rw [hT.zeroUp] at this
    exact hT.noz ht n this
theorem TI.grlen (hT : TI kF vF pC rF cF vn dF bF ec) {nu : Nat → Nat} (h1 : ∀ i, i < 40 → kF i = nI 1 → (∀ v, v < vn → ¬ rF v = nI i) → nu (ix (pC i)) < nu i) (h2 : ∀ w, 1 ≤ w → w < vn → ¬ cF w = -1 → nu (ix (cF w)) < nu (ix (rF w))) {t : Int32} (ht : OKD kF vF cF vn t) : ∀ (n : Nat) (d : Int32), Gr (upF pC rF cF vn) (OKD kF vF cF vn) t n d → n ≤ NM nu rF cF vn d
  | 0, d, _ => Nat.zero_le _
  | n + 1, d, h => by
    have h0 : ¬ d = nI 0 := by
      intro e
      subst e
      exact hT.noz (fun e => h.1 e) (n + 1) h
    have i := hT.grlen h1 h2 ht n _ h.2.2
    have ok := Gr.ok ht h.2.2
    have dd := hT.dec h1 h2 h.2.1.1 h0
    rw [topC_fix ok.2] at dd
    omega
theorem TI.gr39 (hT : TI kF vF pC rF cF vn dF bF ec) {t d : Int32} {n : Nat} (ht : OKD kF vF cF vn t) (h : Gr (upF pC rF cF vn) (OKD kF vF cF vn) t n d) : n ≤ 39 := by
  have hT2 := hT
  obtain ⟨-, -, -, -, -, -, -, -, -, -, -, -, -, -, nu, h1, h2⟩ := hT2
  have a := hT.grlen h1 h2 ht n d h
  have b := hT.nm39 (nu := nu) (Gr.ok ht h).1
  omega
theorem TI.iaout (hT : TI kF vF pC rF cF vn dF bF ec) {t d : Int32} (ht : OKD kF vF cF vn t) : ∀ (n m : Nat) (h : Int32), Gr (upF pC rF cF vn) (OKD kF vF cF vn) t n h → n < m → ¬ iaC rF cF pC vn m h d = d → Gr (upF pC rF cF vn) (fun x => OKD kF vF cF vn x ∧ ¬ x = d) t n h
  | 0, m, h, hg, _, _ => hg
  | n + 1, m, h, hg, hm, hi => by
    obtain ⟨m, rfl⟩ : ∃ k, m = k + 1 := ⟨m - 1, by omega⟩
    have hd : ¬ h = d := fun e => hi (by rw [iaC_r (Or.inl e)]; exact e)
    have h0 : ¬ h = nI 0 := by
      intro e
      subst e
      exact hT.noz (fun e => hg.1 e) (n + 1) hg
    have hA := iaC_s (rF := rF) (cF := cF) (pF := pC) (vn := vn) (n := m + 1) (k := 0) (by omega) hd h0
    rw [Nat.sub_zero, Nat.zero_add, Nat.add_sub_cancel, abv_top h0, topC_fix (Gr.ok ht hg.2.2).2] at hA
    rw [hA] at hi
    exact ⟨hg.1, ⟨hg.2.1, hd⟩, hT.iaout ht n m _ hg.2.2 (by omega) hi⟩
theorem Gr.map {up up' : Int32 → Int32} {OK OK' : Int32 → Prop} {t : Int32} (hm : ∀ x, OK x → OK' x ∧ up' x = up x) : ∀ (n : Nat) (d : Int32), Gr up OK t n d → Gr up' OK' t n d
  | 0, d, h => h
  | n + 1, d, h => ⟨h.1, (hm d h.2.1).1, by rw [(hm d h.2.1).2]; exact Gr.map hm n _ h.2.2⟩
/-- mount: the two answer alike -/
theorem TI.mt_eq (hT : TI kF vF pC rF cF vn dF bF ec) (hC : CI kF vF pC rF cF vn ro pr) (hP : ∀ i, i < 40 → kF i = nI 1 → pC i = pR i) {us v d : Int32} : mtC kF pC rF cF vn us ro pr v d = mtR kF pR rF cF vn us ro pr v d := by
  obtain ⟨h1, ⟨n, h2⟩, -⟩ := hC
  unfold mtC mtR
  rw [hT.ia_eq hP h1.1, hT.ia_eq hP (Gr.ok h1 h2).1]
  have e : (0 < v ∧ v < nI vn) ↔ (¬ v < nI 1 ∧ v < nI vn) := by
    have : (0 < v) ↔ ¬ v < nI 1 := by
      rw [Int32.not_lt, Int32.lt_iff_toInt_lt, Int32.le_iff_toInt_le, nI_toInt (by decide), Int32.toInt_zero]; omega
    rw [this]
  by_cases hv : 0 < v ∧ v < nI vn
  · rw [if_pos hv, if_pos (e.mp hv)]
    have hc := cneg hT.2.2.1 (vp_ix (v_in4 hv hT.1.2))
    by_cases h3 : cF (ix v) = -1
    · rw [if_pos h3, if_pos (hc.mpr h3)]
    · rw [if_neg h3, if_neg (fun h => h3 (hc.mp h))]
  · rw [if_neg hv, if_neg (fun h => hv (e.mpr h))]
theorem bsR_iff {cF vF : Nat → Int32} {w : Int32} {P : Prop} : ∀ k, bsR cF vF w P k ↔ (P ∨ ∃ v, 1 ≤ v ∧ v < k ∧ ¬ cF v < 0 ∧ vF (ix (cF v)) = w)
  | 0 => ⟨Or.inl, fun h => h.elim id (fun ⟨v, _, h, _⟩ => absurd h (by omega))⟩
  | k + 1 => by
    show bsR cF vF w P k ∨ (1 ≤ k ∧ ¬ cF k < 0 ∧ vF (ix (cF k)) = w) ↔ _
    rw [bsR_iff k]
    constructor
    · rintro ((h | ⟨v, a, b, c⟩) | ⟨a, b⟩)
      · exact Or.inl h
      · exact Or.inr ⟨v, a, by omega, c⟩
      · exact Or.inr ⟨k, a, by omega, b⟩
    · rintro (h | ⟨v, a, b, c⟩)
      · exact Or.inl (Or.inl h)
      · by_cases e : v = k
        · subst e; exact Or.inr ⟨a, c⟩
        · exact Or.inl (Or.inr ⟨v, a, by omega, c⟩)
theorem hcV_iff {cF vF : Nat → Int32} {vn : Nat} {w : Int32} (hv : 1 ≤ vn) : hcV cF vF vn w ↔ ∃ v, 1 ≤ v ∧ v < vn ∧ ¬ cF v = -1 ∧ vF (ix (cF v)) = w := by
  unfold hcV
  have a := scan_le (p := fun v => !(!decide (cF v = -1) && decide (vF (ix (cF v)) = w))) (vn - 1) 1
  constructor
  · intro h
    have b := scan_at (p := fun v => !(!decide (cF v = -1) && decide (vF (ix (cF v)) = w))) (vn - 1) 1 (by omega)
    exact ⟨_, a.1, h, by simpa using b⟩
  · rintro ⟨v, h1, h2, h3, h4⟩
    apply Classical.byContradiction
    intro h
    have b := scan_in (p := fun v => !(!decide (cF v = -1) && decide (vF (ix (cF v)) = w))) (vn - 1) 1 v h1 (by omega)
    simp [h3, h4] at b
theorem TI.um_eq (hT : TI kF vF pC rF cF vn dF bF ec) {us d : Int32} : umC vF rF cF vn us ro pr d = umR vF rF cF vn us ro pr d := by
  have hM := hT.mi
  obtain ⟨hvn, -, hcr, -⟩ := hT
  unfold umC umR
  by_cases hu : us = 0
  · rw [if_pos hu, if_pos hu]
    by_cases hd : d < 0
    · rw [if_pos hd, if_pos hd]
    · rw [if_neg hd, if_neg hd]
      rcases mw_eq (rF := rF) (cF := cF) (d := d) hvn hcr hM.2.1 with ⟨h1, h2⟩ | ⟨h1, h2, h3⟩
      · rw [if_neg (by omega), if_pos h2]
      · rw [if_pos h1, if_neg (by omega), h2, ix_nI (by omega)]
        refine pI_cg ?_
        rw [bsR_iff, hcV_iff hvn.1]
        have e : (∃ v, 1 ≤ v ∧ v < vn ∧ ¬ cF v = -1 ∧ vF (ix (cF v)) = nI (mwrN rF cF d vn)) ↔ (∃ v, 1 ≤ v ∧ v < vn ∧ ¬ cF v < 0 ∧ vF (ix (cF v)) = nI (mwrN rF cF d vn)) := by
          constructor
          · rintro ⟨v, a, b, c, f⟩; exact ⟨v, a, b, fun h => c ((cneg hcr (by omega)).mp h), f⟩
          · rintro ⟨v, a, b, c, f⟩; exact ⟨v, a, b, fun h => c ((cneg hcr (by omega)).mpr h), f⟩
        rw [e, or_assoc]
  · rw [if_neg hu, if_neg hu]
end UPS
