/-! the invariant of the tree, and what walks come to -/
theorem cntB_le2 {p q : Nat → Bool} : ∀ n, (∀ j, j < n → p j = true → q j = true) → cntB p n ≤ cntB q n
  | 0, _ => Nat.le_refl 0
  | n + 1, h => by
    have ih := cntB_le2 n (fun j hj => h j (by omega))
    have hn := h n (by omega)
    show cntB p n + (if p n then 1 else 0) ≤ cntB q n + (if q n then 1 else 0)
    by_cases hp : p n = true
    · rw [if_pos hp, if_pos (hn hp)]; omega
    · rw [if_neg hp]; omega
theorem cntB_lt {p q : Nat → Bool} : ∀ n, (∀ j, j < n → p j = true → q j = true) → (∃ j, j < n ∧ q j = true ∧ ¬ p j = true) → cntB p n < cntB q n
  | 0, _, h => by obtain ⟨j, h, -⟩ := h; omega
  | n + 1, h, ⟨j, hj, h1, h2⟩ => by
    show cntB p n + (if p n then 1 else 0) < cntB q n + (if q n then 1 else 0)
    by_cases e : j = n
    · subst e
      have := cntB_le2 j (fun i hi => h i (by omega))
      rw [if_neg h2, if_pos h1]; omega
    · have := cntB_lt n (fun i hi => h i (by omega)) ⟨j, by omega, h1, h2⟩
      have hn := h n (by omega)
      by_cases hp : p n = true
      · rw [if_pos hp, if_pos (hn hp)]; omega
      · rw [if_neg hp]; omega
theorem cntB_ex {p : Nat → Bool} : ∀ n, (∃ j, j < n ∧ ¬ p j = true) → cntB p n < n
  | 0, h => by obtain ⟨j, h, -⟩ := h; omega
  | n + 1, ⟨j, hj, h1⟩ => by
    show cntB p n + (if p n then 1 else 0) < n + 1
    by_cases e : j = n
    · subst e
      have := cntB_le (p := p) j
      rw [if_neg h1]; omega
    · have := cntB_ex n ⟨j, by omega, h1⟩
      split <;> omega
theorem cntB_pos {p : Nat → Bool} {n j : Nat} (hj : j < n) (h : p j = true) : 0 < cntB p n := by
  have := cntB_lt (p := fun _ => false) (q := p) n (fun i hi h => by cases h) ⟨j, hj, h, by decide⟩
  omega
theorem cntB_zero {p : Nat → Bool} : ∀ {n : Nat}, cntB p n = 0 ↔ ∀ j, j < n → p j = false := by
  intro n
  constructor
  · intro h j hj
    by_cases hp : p j = true
    · have := cntB_pos hj hp; omega
    · simpa using hp
  · intro h
    induction n with
    | zero => rfl
    | succ n ih => rw [cntB_f (h n (by omega))]; exact ih (fun j hj => h j (by omega))
def live (cF : Nat → Int32) (vn : Nat) (x : Int32) : Prop := x = nI 0 ∨ ∃ w, 1 ≤ w ∧ w < vn ∧ x = nI w ∧ ¬ cF w = -1
/-- the tree and the volumes -/
def TI (kF vF pC rF cF : Nat → Int32) (vn : Nat) (dF bF : Nat → Int32) (ec : Nat) : Prop :=
  (1 ≤ vn ∧ vn ≤ 4) ∧ ec ≤ 80 ∧ (∀ v, v < 4 → cF v = -1 ∨ vp_in (cF v) 40) ∧ (∀ v, v < 4 → vp_in (rF v) 40) ∧ (∀ i, i < 40 → vp_in (pC i) 40) ∧
  (∀ v, v < vn → kF (ix (rF v)) = nI 1 ∧ vF (ix (rF v)) = nI v ∧ pC (ix (rF v)) = rF v) ∧ rF 0 = nI 0 ∧
  (∀ k, k < ec → vp_in (dF k) 40 ∧ vp_in (bF k) 40 ∧ kF (ix (dF k)) = nI 1 ∧ ¬ kF (ix (bF k)) = nI 0 ∧ vF (ix (bF k)) = vF (ix (dF k)) ∧ (∀ v, v < vn → ¬ bF k = rF v) ∧ (kF (ix (bF k)) = nI 1 → pC (ix (bF k)) = dF k ∧ ∀ j, j < ec → bF j = bF k → j = k)) ∧
  (∀ i, i < 40 → kF i = nI 1 → (∃ v, v < vn ∧ rF v = nI i) ∨ (∃ k, k < ec ∧ bF k = nI i)) ∧
  (∀ i, i < 40 → ¬ kF i = nI 0 → ∃ u, u < vn ∧ vF i = nI u) ∧
  (∀ w, 1 ≤ w → w < vn → ¬ cF w = -1 → kF (ix (cF w)) = nI 1 ∧ ¬ cF w = nI 0 ∧ live cF vn (vF (ix (cF w)))) ∧
  (∀ v, vn ≤ v → v < 4 → cF v = -1) ∧ covU cF vn ∧
  (∃ rk : Nat → Nat, ∀ w u, 1 ≤ w → w < vn → ¬ cF w = -1 → u < vn → vF (ix (cF w)) = nI u → rk u < rk w) ∧
  (∃ nu : Nat → Nat, (∀ i, i < 40 → kF i = nI 1 → (∀ v, v < vn → ¬ rF v = nI i) → nu (ix (pC i)) < nu i) ∧ (∀ w, 1 ≤ w → w < vn → ¬ cF w = -1 → nu (ix (cF w)) < nu (ix (rF w))))
section TIS
variable {kF vF pC rF cF : Nat → Int32} {vn : Nat} {dF bF : Nat → Int32} {ec : Nat}
theorem TI.mi (hT : TI kF vF pC rF cF vn dF bF ec) : MI rF cF vF vn := by
  obtain ⟨hvn, -, hcr, hrr, -, hro, -, -, -, hvo, hco, -, hU, ⟨rk, hrk⟩, -⟩ := hT
  refine ⟨hU, fun v w hv hw h => ?_, fun v hv => (hro v hv).2.1, fun w => cntB (fun x => decide (1 ≤ x) && decide (rk x ≤ rk w)) vn, fun w h1 h2 => ⟨?_, ?_⟩, fun w h1 h2 h3 => ?_⟩
  · have a := (hro v hv).2.1
    rw [h, (hro w hw).2.1] at a
    exact ((nI_eq (by omega) (by omega)).1 a).symm
  · have := cntB_pos (p := fun x => decide (1 ≤ x) && decide (rk x ≤ rk w)) h2 (by simp [h1])
    exact this
  · have := cntB_ex (p := fun x => decide (1 ≤ x) && decide (rk x ≤ rk w)) vn ⟨0, by omega, by simp⟩
    show cntB (fun x => decide (1 ≤ x) && decide (rk x ≤ rk w)) vn ≤ 3
    omega
  · have hc := hco w h1 h2 h3
    have hin : vp_in (cF w) 40 := (hcr w (by omega)).resolve_left h3
    obtain ⟨u, hu, he⟩ := hvo (ix (cF w)) (vp_ix hin) (by rw [hc.1]; decide)
    refine ⟨u, hu, he, ?_⟩
    have hlt := hrk w u h1 h2 h3 hu he
    refine cntB_lt vn (fun j hj h => ?_) ⟨w, h2, by simp [h1], by simp; omega⟩
    simp at h ⊢
    omega
theorem TI.grd3 (hT : TI kF vF pC rF cF vn dF bF ec) {d : Int32} : grdC rF cF vn 3 d = grdC rF cF vn 4 d := by
  have hM := hT.mi
  obtain ⟨hvn, -, hcr, -⟩ := hT
  have h4 := grd_eq (d := d) hvn hcr hM
  obtain ⟨-, hr, hV, rk, hk1, hk2⟩ := hM
  rw [h4.1]
  exact (grd_aux hvn hcr hr hV hk1 hk2 3 3 5 d (fun w w1 w2 _ _ => (hk1 w w1 w2).2) (by omega) (by omega)).1
theorem TI.mwr (hT : TI kF vF pC rF cF vn dF bF ec) {w : Nat} (h1 : 1 ≤ w) (h2 : w < vn) (h3 : ¬ cF w = -1) : mwrN rF cF (rF w) vn = w := by
  have hM := hT.mi
  rcases mwrN_spec (rF := rF) (cF := cF) (d := rF w) hT.1.1 with ⟨-, h⟩ | ⟨a, b, c, -⟩
  · exact absurd ⟨rfl, h3⟩ (h w h1 h2)
  · exact hM.2.1 _ _ b h2 c
theorem TI.grdtop (hT : TI kF vF pC rF cF vn dF bF ec) : ∀ (n : Nat) (x : Int32), vp_in x 40 → grdC rF cF vn 4 (topC rF cF vn n x) = grdC rF cF vn 4 x
  | 0, x, _ => rfl
  | n + 1, x, hx => by
    by_cases h0 : covN cF x vn = 0
    · rw [topC_fix h0]
    · rw [topC_go h0]
      rcases covN_spec (cF := cF) (d := x) hT.1.1 with ⟨h, -⟩ | ⟨h1, h2, h3⟩
      · exact absurd h h0
      · have hc : ¬ cF (covN cF x vn) = -1 := by rw [h3]; exact ne_m1 hx
        rw [hT.grdtop n _ (hT.2.2.2.1 _ (by have := hT.1.2; omega))]
        have hm := hT.mwr h1 h2 hc
        rw [grdC_go (n := 3) (by rw [hm]; exact h2), hm, h3, hT.grd3]
/-- a live directory -/
def LD (kF vF cF : Nat → Int32) (vn : Nat) (d : Int32) : Prop := vp_in d 40 ∧ kF (ix d) = nI 1 ∧ live cF vn (vF (ix d))
theorem TI.grdLD (hT : TI kF vF pC rF cF vn dF bF ec) : ∀ (n : Nat) (d : Int32), LD kF vF cF vn d → LD kF vF cF vn (grdC rF cF vn n d)
  | 0, d, h => h
  | n + 1, d, h => by
    by_cases hm : mwrN rF cF d vn < vn
    · rw [grdC_go hm]
      have hT2 := hT
      obtain ⟨hvn, -, hcr, -, -, -, -, -, -, -, hco, -⟩ := hT2
      have s := mwr_spec (rF := rF) (cF := cF) (o := d) hm hvn.1
      have c := hco _ s.1 hm s.2.2
      exact hT.grdLD n _ ⟨(hcr _ (by omega)).resolve_left s.2.2, c.1, c.2.2⟩
    · rw [grdC_fix (by omega)]; exact h
theorem TI.grd0 (hT : TI kF vF pC rF cF vn dF bF ec) : ∀ (n : Nat) (d : Int32), ¬ d = nI 0 → ¬ grdC rF cF vn n d = nI 0
  | 0, d, h => h
  | n + 1, d, h => by
    by_cases hm : mwrN rF cF d vn < vn
    · rw [grdC_go hm]
      have hT2 := hT
      obtain ⟨hvn, -, -, -, -, -, -, -, -, -, hco, -⟩ := hT2
      have s := mwr_spec (rF := rF) (cF := cF) (o := d) hm hvn.1
      exact hT.grd0 n _ (hco _ s.1 hm s.2.2).2.1
    · rw [grdC_fix (by omega)]; exact h
theorem TI.grdnu (hT : TI kF vF pC rF cF vn dF bF ec) {nu : Nat → Nat} (hn : ∀ w, 1 ≤ w → w < vn → ¬ cF w = -1 → nu (ix (cF w)) < nu (ix (rF w))) : ∀ (n : Nat) (d : Int32), nu (ix (grdC rF cF vn n d)) ≤ nu (ix d)
  | 0, d => Nat.le_refl _
  | n + 1, d => by
    by_cases hm : mwrN rF cF d vn < vn
    · rw [grdC_go hm]
      have s := mwr_spec (rF := rF) (cF := cF) (o := d) hm hT.1.1
      have a := hn _ s.1 hm s.2.2
      rw [s.2.1] at a
      exact Nat.le_trans (hT.grdnu hn n _) (Nat.le_of_lt a)
    · rw [grdC_fix (by omega)]; exact Nat.le_refl _
/-- what lies at the ground is no root but 0 -/
theorem TI.grdroot (hT : TI kF vF pC rF cF vn dF bF ec) {d : Int32} (hd : LD kF vF cF vn d) (h0 : ¬ d = nI 0) {v : Nat} (hv : v < vn) : ¬ rF v = grdC rF cF vn 4 d := by
  intro h
  have g := hT.grdLD 4 d hd
  have g0 := hT.grd0 4 d h0
  have gm := (grd_eq (d := d) hT.1 hT.2.2.1 hT.mi).2
  rw [← h] at g g0 gm
  have hT2 := hT
  obtain ⟨hvn, -, -, -, -, hro, hr0, -⟩ := hT2
  rcases g.2.2 with e | ⟨w, w1, w2, w3, w4⟩
  · rw [(hro v hv).2.1] at e
    have := (nI_eq (by omega) (by omega)).1 e
    subst this; exact g0 hr0
  · rw [(hro v hv).2.1] at w3
    have := (nI_eq (by omega) (by omega)).1 w3
    subst this
    have := hT.mwr w1 w2 w4
    omega
/-- a live directory's parent at the ground -/
theorem TI.upLD (hT : TI kF vF pC rF cF vn dF bF ec) {d : Int32} (hd : LD kF vF cF vn d) : LD kF vF cF vn (pC (ix (grdC rF cF vn 4 d))) := by
  have g := hT.grdLD 4 d hd
  obtain ⟨hvn, -, -, -, hpr, hro, -, hen, hdi, -⟩ := hT
  generalize grdC rF cF vn 4 d = x at g
  have hx := nI_ix g.1 (by decide)
  rcases hdi _ (vp_ix g.1) g.2.1 with ⟨v, hv, e⟩ | ⟨k, hk, e⟩
  · rw [← hx] at e
    have := (hro v hv).2.2
    rw [e] at this
    rw [this]; exact g
  · rw [← hx] at e
    obtain ⟨k1, k2, k3, k4, k5, k6, k7⟩ := hen k hk
    have := (k7 (by rw [e]; exact g.2.1)).1
    rw [e] at this
    rw [this]
    refine ⟨k1, k3, ?_⟩
    rw [← k5, e]; exact g.2.2
theorem TI.topOK (hT : TI kF vF pC rF cF vn dF bF ec) : ∀ (n : Nat) (x : Int32), vp_in x 40 → ¬ kF (ix x) = nI 0 → live cF vn (vF (ix x)) → vp_in (topC rF cF vn n x) 40 ∧ ¬ kF (ix (topC rF cF vn n x)) = nI 0 ∧ live cF vn (vF (ix (topC rF cF vn n x))) ∧ (kF (ix (topC rF cF vn n x)) = nI 1 → kF (ix x) = nI 1)
  | 0, x, h1, h2, h3 => ⟨h1, h2, h3, id⟩
  | n + 1, x, h1, h2, h3 => by
    by_cases h0 : covN cF x vn = 0
    · rw [topC_fix h0]; exact ⟨h1, h2, h3, id⟩
    · rw [topC_go h0]
      rcases covN_spec (cF := cF) (d := x) hT.1.1 with ⟨h, -⟩ | ⟨w1, w2, w3⟩
      · exact absurd h h0
      · have hc : ¬ cF (covN cF x vn) = -1 := by rw [w3]; exact ne_m1 h1
        have hT2 := hT
        obtain ⟨hvn, -, -, hrr, -, hro, -, -, -, -, hco, -⟩ := hT2
        have r := hro _ w2
        have := hT.topOK n (rF (covN cF x vn)) (hrr _ (by omega)) (by rw [r.1]; decide) (by rw [r.2.1]; exact Or.inr ⟨_, w1, w2, rfl, hc⟩)
        have c1 := (hco _ w1 w2 hc).1
        rw [w3] at c1
        exact ⟨this.1, this.2.1, this.2.2.1, fun _ => c1⟩
theorem fndE_at {dF : Nat → Int32} {nF : Nat → Int64} {d : Int32} {x : Int64} {ec : Nat} (h : fndE dF nF d x ec < ec) : dF (fndE dF nF d x ec) = d ∧ nF (fndE dF nF d x ec) = x := by
  have := scan_at (p := fun j => !(decide (dF j = d) && decide (nF j = x))) ec 0 (by unfold fndE at h; omega)
  unfold fndE
  simpa using this
end TIS
/-- the way up: to its end all live directories that nothing covers -/
def Gr (up : Int32 → Int32) (OK : Int32 → Prop) (ro : Int32) : Nat → Int32 → Prop
  | 0, d => d = ro
  | n + 1, d => ¬ d = ro ∧ OK d ∧ Gr up OK ro n (up d)
abbrev upF (pC rF cF : Nat → Int32) (vn : Nat) : Int32 → Int32 := fun d => pC (ix (grdC rF cF vn 4 d))
abbrev OKD (kF vF cF : Nat → Int32) (vn : Nat) : Int32 → Prop := fun d => LD kF vF cF vn d ∧ covN cF d vn = 0
def CI (kF vF pC rF cF : Nat → Int32) (vn : Nat) (ro pr : Int32) : Prop := OKD kF vF cF vn ro ∧ (∃ n, Gr (upF pC rF cF vn) (OKD kF vF cF vn) ro n pr) ∧ (∃ n, Gr (upF pC rF cF vn) (OKD kF vF cF vn) (nI 0) n ro)
def WP (kF vF pC rF cF : Nat → Int32) (vn : Nat) (ro : Int32) (wa : Int32) : Prop := vp_in wa 40 ∧ ¬ kF (ix wa) = nI 0 ∧ live cF vn (vF (ix wa)) ∧ covN cF wa vn = 0 ∧ (kF (ix wa) = nI 1 → ∃ n, Gr (upF pC rF cF vn) (OKD kF vF cF vn) ro n wa)
theorem Gr.ok {up : Int32 → Int32} {OK : Int32 → Prop} {ro d : Int32} {n : Nat} (hr : OK ro) (h : Gr up OK ro n d) : OK d := by
  cases n with
  | zero => rw [show d = ro from h]; exact hr
  | succ n => exact h.2.1
theorem Gr.app {up : Int32 → Int32} {OK : Int32 → Prop} {ro : Int32} {m : Nat} (h2 : Gr up OK (nI 0) m ro) (hz : up (nI 0) = nI 0) : ∀ (n : Nat) (d : Int32), Gr up OK ro n d → ∃ k, Gr up OK (nI 0) k d
  | 0, d, h => ⟨m, by rw [show d = ro from h]; exact h2⟩
  | n + 1, d, h => by
    by_cases h0 : d = nI 0
    · exact ⟨0, h0⟩
    · obtain ⟨k, hk⟩ := Gr.app h2 hz n _ h.2.2
      exact ⟨k + 1, h0, h.2.1, hk⟩
section WPS
variable {kF mF oF vF pC rF cF : Nat → Int32} {vn : Nat} {dF : Nat → Int32} {nF : Nat → Int64} {bF : Nat → Int32} {ec : Nat} {LN : Nat → Nat} {LF : Nat → Nat → Int32} {us ro fo pr : Int32}
theorem OKD.wp {d : Int32} (h : OKD kF vF cF vn d) (hg : ∃ n, Gr (upF pC rF cF vn) (OKD kF vF cF vn) ro n d) : WP kF vF pC rF cF vn ro d := ⟨h.1.1, by rw [h.1.2.1]; decide, h.1.2.2, h.2, fun _ => hg⟩
theorem nx_wp (hT : TI kF vF pC rF cF vn dF bF ec) (hr : OKD kF vF cF vn ro) {wa : Int32} {nm : Int64} (hw : WP kF vF pC rF cF vn ro wa) (hk : kF (ix wa) = nI 1) : nxC rF cF pC vn dF nF bF ec wa ro nm = -1 ∨ WP kF vF pC rF cF vn ro (nxC rF cF pC vn dF nF bF ec wa ro nm) := by
  unfold nxC
  split
  · right
    unfold abvC
    split
    · exact OKD.wp hr ⟨0, rfl⟩
    · rename_i h1
      obtain ⟨n, hn⟩ := hw.2.2.2.2 hk
      cases n with
      | zero => exact absurd hn h1
      | succ n =>
        have ho := Gr.ok hr hn.2.2
        have e : topC rF cF vn 4 (pC (ix (grdC rF cF vn 4 wa))) = pC (ix (grdC rF cF vn 4 wa)) := topC_fix ho.2
        rw [e]
        exact OKD.wp ho ⟨n, hn.2.2⟩
  · split
    · exact Or.inr hw
    · unfold tuC
      split
      · rename_i hf
        right
        obtain ⟨e1, -⟩ := fndE_at hf
        have hT2 := hT
        obtain ⟨hvn, -, hcr, hrr, hpr, hro, -, hen, hdi, -⟩ := hT2
        obtain ⟨k1, k2, k3, k4, k5, k6, k7⟩ := hen _ hf
        have hlv : live cF vn (vF (ix (bF (fndE dF nF wa nm ec)))) := by rw [k5, e1]; exact hw.2.2.1
        have ht := hT.topOK 4 _ k2 k4 hlv
        have hcv := (top_eq hvn hrr hT.mi k2).2
        refine ⟨ht.1, ht.2.1, ht.2.2.1, hcv, fun hd => ?_⟩
        by_cases hx : topC rF cF vn 4 (bF (fndE dF nF wa nm ec)) = ro
        · exact ⟨0, hx⟩
        · obtain ⟨n, hn⟩ := hw.2.2.2.2 hk
          refine ⟨n + 1, hx, ⟨⟨ht.1, hd, ht.2.2.1⟩, hcv⟩, ?_⟩
          have hb := ht.2.2.2 hd
          have hg : grdC rF cF vn 4 (topC rF cF vn 4 (bF (fndE dF nF wa nm ec))) = bF (fndE dF nF wa nm ec) := by
            rw [hT.grdtop 4 _ k2]
            refine grdC_fix (Nat.le_of_not_lt fun hm => ?_)
            have s := mwr_spec (rF := rF) (cF := cF) (o := bF (fndE dF nF wa nm ec)) hm hvn.1
            exact k6 _ hm s.2.1.symm
          show Gr _ _ ro n (pC (ix (grdC rF cF vn 4 (topC rF cF vn 4 (bF (fndE dF nF wa nm ec))))))
          rw [hg, (k7 hb).1, e1]
          exact hn
      · exact Or.inl rfl
theorem plC_at {st n hp : Nat} {f fl : Nat → Int32} {wa ro : Int32} : (plC st f n fl wa ro hp).2.2.2 = wa ∨ (plC st f n fl wa ro hp).2.2.2 = ro := by
  unfold plC
  by_cases h1 : 8 < hp + 1
  · rw [if_pos h1]; exact Or.inl rfl
  · rw [if_neg h1]
    by_cases h2 : n ≤ st
    · rw [if_pos h2]
      by_cases h3 : fl 0 = nI 47
      · rw [if_pos h3]; exact Or.inr rfl
      · rw [if_neg h3]; exact Or.inl rfl
    · rw [if_neg h2]; exact Or.inl rfl
theorem st_wp (hT : TI kF vF pC rF cF vn dF bF ec) (hr : OKD kF vF cF vn ro) {wa : Int32} {f : Nat → Int32} {st hp : Nat} (hw : WP kF vF pC rF cF vn ro wa) (hk : kF (ix wa) = nI 1) : WP kF vF pC rF cF vn ro (stQ kF pC rF cF vn dF nF bF ec LN LF ro fo f st wa hp).2.2.2.1 := by
  have hwr := OKD.wp (pC := pC) (rF := rF) (ro := ro) hr ⟨0, rfl⟩
  unfold stQ pnC
  by_cases h1 : nxC rF cF pC vn dF nF bF ec wa ro (nmA f st) = -1
  · rw [if_pos h1]; exact hw
  · rw [if_neg h1]
    by_cases h2 : kF (ix (nxC rF cF pC vn dF nF bF ec wa ro (nmA f st))) = nI 3 ∧ (¬ laA f (eN f st) ∨ eN f st < 60 ∨ ¬ fo = 0)
    · rw [pI_t h2]
      dsimp only
      rcases plC_at (st := eN f st) (f := f) (n := LN (ix (nxC rF cF pC vn dF nF bF ec wa ro (nmA f st)))) (fl := LF (ix (nxC rF cF pC vn dF nF bF ec wa ro (nmA f st)))) (wa := wa) (ro := ro) (hp := hp) with e | e
      · rw [e]; exact hw
      · rw [e]; exact hwr
    · rw [pI_f h2]
      exact (nx_wp hT hr hw hk).resolve_left h1
theorem thr_wp (hT : TI kF vF pC rF cF vn dF bF ec) (hr : OKD kF vF cF vn ro) : ∀ (n st : Nat) (f : Nat → Int32) (wa : Int32) (hp : Nat), WP kF vF pC rF cF vn ro wa → thrR kF mF oF pC rF cF vn dF nF bF ec LN LF us ro fo n st f wa hp < 0 ∨ WP kF vF pC rF cF vn ro (thrR kF mF oF pC rF cF vn dF nF bF ec LN LF us ro fo n st f wa hp)
  | 0, st, f, wa, hp, hw => Or.inr hw
  | n + 1, st, f, wa, hp, hw => by
    unfold thrR
    by_cases h1 : sk f st < 60
    · rw [if_pos h1]
      by_cases h2 : tkR kF mF oF us wa (eN f (sk f st) - sk f st) = nI 0
      · rw [if_pos h2]
        by_cases h3 : (stQ kF pC rF cF vn dF nF bF ec LN LF ro fo f (sk f st) wa hp).1 = nI 0
        · rw [if_pos h3]
          exact thr_wp hT hr n _ _ _ _ (st_wp hT hr hw (tkR_zero h2).1)
        · rw [if_neg h3]
          exact Or.inl (pnC_neg (r0 := (stQ kF pC rF cF vn dF nF bF ec LN LF ro fo f (sk f st) wa hp).1) (s2 := (stQ kF pC rF cF vn dF nF bF ec LN LF ro fo f (sk f st) wa hp).2.1) (f2 := (stQ kF pC rF cF vn dF nF bF ec LN LF ro fo f (sk f st) wa hp).2.2.1) (a2 := (stQ kF pC rF cF vn dF nF bF ec LN LF ro fo f (sk f st) wa hp).2.2.2.1) (h2 := (stQ kF pC rF cF vn dF nF bF ec LN LF ro fo f (sk f st) wa hp).2.2.2.2) rfl h3)
      · rw [if_neg h2]; exact Or.inl (tkR_neg h2)
    · rw [if_neg h1]; exact Or.inr hw
theorem tln_wp (hT : TI kF vF pC rF cF vn dF bF ec) (hr : OKD kF vF cF vn ro) : ∀ (n st : Nat) (f : Nat → Int32) (wa : Int32) (hp : Nat), WP kF vF pC rF cF vn ro wa → (tlnR kF mF oF pC rF cF vn dF nF bF ec LN LF us ro n st f wa hp).1 = nI 0 → WP kF vF pC rF cF vn ro (tlnR kF mF oF pC rF cF vn dF nF bF ec LN LF us ro n st f wa hp).2.1 ∧ kF (ix (tlnR kF mF oF pC rF cF vn dF nF bF ec LN LF us ro n st f wa hp).2.1) = nI 1
  | 0, st, f, wa, hp, hw, h => absurd (show (-1 : Int32) = nI 0 from h) (by decide)
  | n + 1, st, f, wa, hp, hw, h => by
    unfold tlnR at h ⊢
    by_cases h1 : sk f st < 60
    · rw [if_pos h1] at h ⊢
      by_cases h2 : tkR kF mF oF us wa (eN f (sk f st) - sk f st) = nI 0
      · rw [if_pos h2] at h ⊢
        by_cases hl : laA f (eN f (sk f st))
        · rw [pI_t hl]; exact ⟨hw, (tkR_zero h2).1⟩
        · rw [pI_f hl] at h ⊢
          by_cases h3 : (stQ kF pC rF cF vn dF nF bF ec LN LF ro (nI 1) f (sk f st) wa hp).1 = nI 0
          · rw [if_pos h3] at h ⊢
            exact tln_wp hT hr n _ _ _ _ (st_wp hT hr hw (tkR_zero h2).1) h
          · rw [if_neg h3] at h; exact absurd h h3
      · rw [if_neg h2] at h; exact absurd h h2
    · rw [if_neg h1] at h; exact absurd (show (-1 : Int32) = nI 0 from h) (by decide)
theorem CI.bg (hC : CI kF vF pC rF cF vn ro pr) {fl : Nat → Int32} : WP kF vF pC rF cF vn ro (bgA fl ro pr) := by
  obtain ⟨h1, h2, -⟩ := hC
  unfold bgA
  split
  · exact OKD.wp h1 ⟨0, rfl⟩
  · obtain ⟨n, h2⟩ := h2
    exact OKD.wp (Gr.ok h1 h2) ⟨n, h2⟩
theorem thrT_wp (hT : TI kF vF pC rF cF vn dF bF ec) (hC : CI kF vF pC rF cF vn ro pr) {f fl : Nat → Int32} {n : Nat} : thrT kF mF oF pC rF cF vn dF nF bF ec LN LF us ro pr fo f n fl < 0 ∨ WP kF vF pC rF cF vn ro (thrT kF mF oF pC rF cF vn dF nF bF ec LN LF us ro pr fo f n fl) := by
  unfold thrT
  split
  · exact Or.inl (by decide)
  · exact thr_wp hT hC.1 _ _ _ _ _ hC.bg
theorem tlnT_wp (hT : TI kF vF pC rF cF vn dF bF ec) (hC : CI kF vF pC rF cF vn ro pr) {f fl : Nat → Int32} {n : Nat} (h : (tlnT kF mF oF pC rF cF vn dF nF bF ec LN LF us ro pr f n fl).1 = nI 0) : WP kF vF pC rF cF vn ro (tlnT kF mF oF pC rF cF vn dF nF bF ec LN LF us ro pr f n fl).2.1 ∧ kF (ix (tlnT kF mF oF pC rF cF vn dF nF bF ec LN LF us ro pr f n fl).2.1) = nI 1 := tln_wp hT hC.1 _ _ _ _ _ hC.bg h
end WPS
