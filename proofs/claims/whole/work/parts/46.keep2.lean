/-! the invariant is kept: remove, mount, unmount, enter -/
abbrev sg (J k : Nat) : Nat := if J ≤ k then k + 1 else k
theorem shf_sg {α : Type} {f : Nat → α} {J n k : Nat} (h : k < n) : shf f J n k = f (sg J k) := by
  unfold shf sg
  by_cases h1 : J ≤ k
  · rw [if_pos ⟨h1, h⟩, if_pos h1]
  · rw [if_neg (fun h => h1 h.1), if_neg h1]
theorem sg_lt {J n k : Nat} (h : k < n - 1) : sg J k < n := by unfold sg; split <;> omega
theorem sg_ne {J k : Nat} : ¬ sg J k = J := by unfold sg; split <;> omega
theorem sg_inj {J k l : Nat} (h : sg J k = sg J l) : k = l := by unfold sg at h; split at h <;> split at h <;> omega
theorem sg_ex {J s n : Nat} (hJ : J < n) (h : s < n) (hn : ¬ s = J) : ∃ k, k < n - 1 ∧ sg J k = s := by
  by_cases h1 : s < J
  · exact ⟨s, by omega, if_neg (by omega)⟩
  · exact ⟨s - 1, by omega, by unfold sg; rw [if_pos (by omega)]; omega⟩
section KP2
variable {kF vF pC rF cF : Nat → Int32} {vn : Nat} {dF bF : Nat → Int32} {ec : Nat} {ro pr : Int32}
theorem ix_inj {x y : Int32} (hx : vp_in x 40) (hy : vp_in y 40) (h : ix x = ix y) : x = y := by rw [nI_ix hx (by decide), nI_ix hy (by decide), h]
abbrev rmK (kF bF : Nat → Int32) (ec J : Nat) : Nat → Int32 := if cntB (fun j => decide (shf bF J (ec - 1) j = bF J)) (ec - 1) = 0 then upd kF (ix (bF J)) (nI 0) else kF
theorem rmK_spec (hT : TI kF vF pC rF cF vn dF bF ec) {J : Nat} (hJ : J < ec) : (∀ i, ¬ rmK kF bF ec J i = nI 0 → rmK kF bF ec J i = kF i) ∧ (∀ i, ¬ i = ix (bF J) → rmK kF bF ec J i = kF i) ∧ (∀ i, rmK kF bF ec J i = nI 1 → ¬ i = ix (bF J)) ∧ (∀ k, k < ec - 1 → ¬ rmK kF bF ec J (ix (bF (sg J k))) = nI 0) := by
  obtain ⟨-, -, -, -, -, -, -, hen, -⟩ := hT
  have eJ := hen J hJ
  unfold rmK
  by_cases hc : cntB (fun j => decide (shf bF J (ec - 1) j = bF J)) (ec - 1) = 0
  · rw [if_pos hc]
    refine ⟨fun i h => ?_, fun i h => updN h, fun i h e => ?_, fun k hk => ?_⟩
    · by_cases e : i = ix (bF J)
      · rw [e, updS] at h; exact absurd rfl h
      · exact updN e
    · rw [e, updS] at h; exact absurd h (by decide)
    · have a := cntB_zero.mp hc k hk
      have a2 := of_decide_eq_false a
      rw [shf_sg hk] at a2
      have b := hen _ (sg_lt (J := J) hk)
      rw [updN (fun e => a2 (ix_inj b.2.1 eJ.2.1 e))]; exact b.2.2.2.1
  · rw [if_neg hc]
    refine ⟨fun i h => rfl, fun i h => rfl, fun i h e => ?_, fun k hk => (hen _ (sg_lt (J := J) hk)).2.2.2.1⟩
    apply hc
    refine cntB_zero.mpr (fun k hk => decide_eq_false (fun e2 => ?_))
    rw [shf_sg hk] at e2
    rw [e] at h
    exact sg_ne ((eJ.2.2.2.2.2.2 h).2 _ (sg_lt hk) e2)
theorem TI.rm (hT : TI kF vF pC rF cF vn dF bF ec) {J : Nat} (hJ : J < ec) (hcv : covN cF (bF J) vn = 0) (hno : ∀ j, j < ec → ¬ dF j = bF J) : TI (rmK kF bF ec J) vF pC rF cF vn (shf dF J (ec - 1)) (shf bF J (ec - 1)) (ec - 1) := by
  obtain ⟨A, B, C, D⟩ := rmK_spec hT hJ
  generalize rmK kF bF ec J = k2 at A B C D ⊢
  have hT2 := hT
  obtain ⟨hvn, hec, hcr, hrr, hpr, hr, hr0, hen, hdi, hvo, hco, hcx, hU, hrk, nu, hn1, hn2⟩ := hT2
  have eJ := hen J hJ
  have A1 : ∀ i, k2 i = nI 1 → kF i = nI 1 := fun i h => by rw [← h]; exact (A i (by rw [h]; decide)).symm
  have B1 : ∀ x, vp_in x 40 → ¬ x = bF J → k2 (ix x) = kF (ix x) := fun x hx h => B _ (fun e => h (ix_inj hx eJ.2.1 e))
  refine ⟨hvn, by omega, hcr, hrr, hpr, fun v hv => ?_, hr0, fun k hk => ?_, fun i hi h => ?_, fun i hi h => hvo i hi (by rw [← A i h]; exact h), fun w h1 h2 h3 => ?_, hcx, hU, hrk, nu, fun i hi h => hn1 i hi (A1 i h), hn2⟩
  · rw [B1 _ (hrr v (by omega)) (fun e => eJ.2.2.2.2.2.1 v hv e.symm)]; exact hr v hv
  · obtain ⟨k1, k2', k3, k4, k5, k6, k7⟩ := hen _ (sg_lt (J := J) hk)
    rw [shf_sg hk, shf_sg hk]
    refine ⟨k1, k2', by rw [B1 _ k1 (hno _ (sg_lt hk))]; exact k3, D k hk, k5, k6, fun h => ⟨(k7 (A1 _ h)).1, fun j hj e => ?_⟩⟩
    rw [shf_sg hj] at e
    exact sg_inj ((k7 (A1 _ h)).2 _ (sg_lt hj) e)
  · rcases hdi i hi (A1 i h) with h2 | ⟨s, hs, e⟩
    · exact Or.inl h2
    · have hn : ¬ s = J := fun e2 => C i h (by rw [← e2, e, ix_nI (by omega)])
      obtain ⟨k, hk, e2⟩ := sg_ex hJ hs hn
      exact Or.inr ⟨k, hk, by rw [shf_sg hk, e2]; exact e⟩
  · obtain ⟨c1, c2, c3⟩ := hco w h1 h2 h3
    refine ⟨by rw [B1 _ ((hcr w (by omega)).resolve_left h3) ((cov0_iff hvn.1).mp hcv w h1 h2)]; exact c1, c2, c3⟩
theorem TI.upvol (hT : TI kF vF pC rF cF vn dF bF ec) {g : Int32} (hg : vp_in g 40) (hk : kF (ix g) = nI 1) : vF (ix (pC (ix g))) = vF (ix g) ∧ ((∃ v, v < vn ∧ pC (ix g) = rF v) ∨ ∃ k, k < ec ∧ pC (ix g) = dF k) := by
  obtain ⟨-, -, -, -, -, hr, -, hen, hdi, -⟩ := hT
  have hx := nI_ix hg (by decide)
  rcases hdi _ (vp_ix hg) hk with ⟨v, hv, e⟩ | ⟨k, hk2, e⟩
  · rw [← hx] at e
    have r := (hr v hv).2.2
    rw [e] at r
    exact ⟨by rw [r], Or.inl ⟨v, hv, by rw [r, e]⟩⟩
  · rw [← hx] at e
    obtain ⟨k1, k2, k3, k4, k5, k6, k7⟩ := hen k hk2
    rw [e] at k5 k7
    have := (k7 hk).1
    exact ⟨by rw [this]; exact k5.symm, Or.inr ⟨k, hk2, this⟩⟩
theorem CI.rm (hT : TI kF vF pC rF cF vn dF bF ec) (hC : CI kF vF pC rF cF vn ro pr) {J : Nat} (hJ : J < ec) (hno : ∀ j, j < ec → ¬ dF j = bF J) (h1 : ¬ bF J = ro) (h2 : ¬ bF J = pr) : CI (rmK kF bF ec J) vF pC rF cF vn ro pr := by
  obtain ⟨A, B, C, D⟩ := rmK_spec hT hJ
  generalize rmK kF bF ec J = k2 at A B C D ⊢
  have eJ := hT.2.2.2.2.2.2.2.1 J hJ
  have B1 : ∀ x, vp_in x 40 → ¬ x = bF J → k2 (ix x) = kF (ix x) := fun x hx h => B _ (fun e => h (ix_inj hx eJ.2.1 e))
  have hk : ∀ x, OKD kF vF cF vn x → ¬ x = bF J → OKD k2 vF cF vn x ∧ upF pC rF cF vn x = upF pC rF cF vn x ∧ ¬ upF pC rF cF vn x = bF J := by
    intro x hx hne
    refine ⟨⟨⟨hx.1.1, by rw [B1 _ hx.1.1 hne]; exact hx.1.2.1, hx.1.2.2⟩, hx.2⟩, rfl, fun e => ?_⟩
    have g := hT.grdLD 4 x hx.1
    rcases (hT.upvol g.1 g.2.1).2 with ⟨v, hv, e2⟩ | ⟨k, hk, e2⟩
    · exact eJ.2.2.2.2.2.1 v hv (e.symm.trans e2)
    · exact hno k hk (e2.symm.trans e)
  obtain ⟨c1, ⟨n, c2⟩, ⟨m, c3⟩⟩ := hC
  exact ⟨(hk _ c1 (fun e => h1 e.symm)).1, ⟨n, Gr.map2 hk n _ (fun e => h2 e.symm) c2⟩, ⟨m, Gr.map2 hk m _ (fun e => h1 e.symm) c3⟩⟩
theorem live_up {cF : Nat → Int32} {vn v : Nat} {d x : Int32} (hd : ¬ d = -1) (h : live cF vn x) : live (upd cF v d) vn x := by
  rcases h with h | ⟨w, h1, h2, h3, h4⟩
  · exact Or.inl h
  · refine Or.inr ⟨w, h1, h2, h3, ?_⟩
    by_cases e : w = v
    · rw [e, updS]; exact hd
    · rw [updN e]; exact h4
theorem live_not {cF : Nat → Int32} {vn v : Nat} (hv4 : vn ≤ 4) (h1 : 1 ≤ v) (h2 : v < vn) (hc : cF v = -1) {x : Int32} (h : live cF vn x) : ¬ x = nI v := by
  intro e
  rcases h with h | ⟨w, w1, w2, w3, w4⟩
  · have := nI_inj (e.symm.trans h) (by omega) (by omega); omega
  · have := nI_inj (e.symm.trans w3) (by omega) (by omega)
    subst this; exact w4 hc
theorem TI.mt (hT : TI kF vF pC rF cF vn dF bF ec) {v : Nat} {d : Int32} (v1 : 1 ≤ v) (v2 : v < vn) (hcv : cF v = -1) (hd : OKD kF vF cF vn d) (hd0 : ¬ d = nI 0) : TI kF vF pC rF (upd cF v d) vn dF bF ec := by
  have hT2 := hT
  obtain ⟨hvn, hec, hcr, hrr, hpr, hr, hr0, hen, hdi, hvo, hco, hcx, hU, ⟨rk, hrk⟩, nu, hn1, hn2⟩ := hT2
  have dm := ne_m1 hd.1.1
  have hdc := (cov0_iff hvn.1).mp hd.2
  have hdv := live_not hvn.2 v1 v2 hcv hd.1.2.2
  obtain ⟨ud, ud1, ud2⟩ := hvo _ (vp_ix hd.1.1) (by rw [hd.1.2.1]; decide)
  have hudv : ¬ ud = v := fun e => hdv (by rw [ud2, e])
  refine ⟨hvn, hec, fun w hw => ?_, hrr, hpr, hr, hr0, hen, hdi, hvo, fun w h1 h2 h3 => ?_, fun w h1 h2 => ?_, fun x y x1 x2 y1 y2 e1 e2 => ?_, ⟨fun w => if w = v then rk ud + 1 else rk w, fun w u h1 h2 h3 h4 h5 => ?_⟩, fun i => if vF i = nI v then nu i + nu (ix d) + 1 else nu i, fun i hi h1 h2 => ?_, fun w h1 h2 h3 => ?_⟩
  · by_cases e : w = v
    · rw [e, updS]; exact Or.inr hd.1.1
    · rw [updN e]; exact hcr w hw
  · by_cases e : w = v
    · rw [e, updS]; exact ⟨hd.1.2.1, hd0, live_up dm hd.1.2.2⟩
    · rw [updN e] at h3 ⊢
      obtain ⟨c1, c2, c3⟩ := hco w h1 h2 h3
      exact ⟨c1, c2, live_up dm c3⟩
  · rw [updN (by omega)]; exact hcx w h1 h2
  · by_cases ex : x = v
    · by_cases ey : y = v
      · rw [ex, ey]
      · rw [ex, updS, updN ey] at e1
        exact absurd e1.symm (hdc y y1 y2)
    · by_cases ey : y = v
      · rw [ey, updS, updN ex] at e1
        exact absurd e1 (hdc x x1 x2)
      · rw [updN ex, updN ey] at e1
        rw [updN ex] at e2
        exact hU x y x1 x2 y1 y2 e1 e2
  · show (if u = v then rk ud + 1 else rk u) < (if w = v then rk ud + 1 else rk w)
    by_cases e : w = v
    · rw [e, updS, ud2] at h5
      have := nI_inj h5 (by omega) (by omega)
      rw [if_neg (by omega), if_pos e, this]; omega
    · rw [updN e] at h3 h5
      have := live_not hvn.2 v1 v2 hcv (hco w h1 h2 h3).2.2
      rw [if_neg (fun e2 => this (by rw [h5, e2])), if_neg e]; exact hrk w u h1 h2 h3 h4 h5
  · show (if vF (ix (pC i)) = nI v then nu (ix (pC i)) + nu (ix d) + 1 else nu (ix (pC i))) < (if vF i = nI v then nu i + nu (ix d) + 1 else nu i)
    have a := (hT.upvol (g := nI i) (vp_in_nI hi (by decide)) (by rw [ix_nI (by omega)]; exact h1)).1
    rw [ix_nI (by omega)] at a
    have b := hn1 i hi h1 h2
    rw [a]
    split <;> omega
  · show (if vF (ix (upd cF v d w)) = nI v then nu (ix (upd cF v d w)) + nu (ix d) + 1 else nu (ix (upd cF v d w))) < (if vF (ix (rF w)) = nI v then nu (ix (rF w)) + nu (ix d) + 1 else nu (ix (rF w)))
    by_cases e : w = v
    · rw [e, updS, if_neg hdv, if_pos (hr v v2).2.1]; omega
    · rw [updN e] at h3 ⊢
      rw [if_neg (live_not hvn.2 v1 v2 hcv (hco w h1 h2 h3).2.2), if_neg (fun e2 => e (nI_inj ((hr w h2).2.1.symm.trans e2) (by omega) (by omega)))]
      exact hn2 w h1 h2 h3
theorem TI.iazero (hT : TI kF vF pC rF cF vn dF bF ec) : ∀ (n m : Nat) (h : Int32), Gr (upF pC rF cF vn) (OKD kF vF cF vn) (nI 0) n h → n < m → iaC rF cF pC vn m h (nI 0) = nI 0
  | 0, m, h, hg, _ => by rw [iaC_r (Or.inl hg)]; exact hg
  | n + 1, m, h, hg, hm => by
    obtain ⟨m, rfl⟩ : ∃ k, m = k + 1 := ⟨m - 1, by omega⟩
    have hA := iaC_s (rF := rF) (cF := cF) (pF := pC) (vn := vn) (n := m + 1) (k := 0) (h := h) (d := nI 0) (by omega) hg.1 hg.1
    rw [Nat.sub_zero, Nat.zero_add, Nat.add_sub_cancel, abv_top hg.1, topC_fix (Gr.ok hT.zeroOK hg.2.2).2] at hA
    rw [hA]
    exact hT.iazero n m _ hg.2.2 (by omega)
theorem CI.mt (hT : TI kF vF pC rF cF vn dF bF ec) (hC : CI kF vF pC rF cF vn ro pr) {v : Nat} {d : Int32} (v1 : 1 ≤ v) (v2 : v < vn) (hcv : cF v = -1) (hd : OKD kF vF cF vn d) (i1 : ¬ iaC rF cF pC vn 40 ro d = d) (i2 : ¬ iaC rF cF pC vn 40 pr d = d) : CI kF vF pC rF (upd cF v d) vn ro pr := by
  have hM := hT.mi
  have hT2 := hT
  obtain ⟨hvn, hec, hcr, hrr, hpr, hr, hr0, hen, hdi, hvo, hco, -⟩ := hT2
  have dm := ne_m1 hd.1.1
  have hg : ∀ x, LD kF vF cF vn x → grdC rF (upd cF v d) vn 4 x = grdC rF cF vn 4 x := fun x hx => by
    refine grd_cg (P := LD kF vF cF vn) (fun x hx => ?_) 4 x hx
    rcases mwrN_spec (rF := rF) (cF := cF) (d := x) hvn.1 with ⟨h1, h2⟩ | ⟨h1, h2, h3, h4⟩
    · refine Or.inl ⟨h1, mwr_none hvn.1 (fun w w1 w2 w3 => ?_)⟩
      by_cases e : w = v
      · have a := (hr w w2).2.1
        rw [w3.1] at a
        exact live_not hvn.2 v1 v2 hcv hx.2.2 (by rw [a, e])
      · rw [updN e] at w3; exact h2 w w1 w2 w3
    · have hne : ¬ mwrN rF cF x vn = v := fun e => h4 (by rw [e]; exact hcv)
      have e := mwr_some (rF := rF) (cF := upd cF v d) (d := x) (vn := vn) (w := mwrN rF cF x vn) hvn.1 h1 h2 h3 (by rw [updN hne]; exact h4) (fun w w1 w2 w3 _ => hM.2.1 _ _ w2 h2 (w3.trans h3.symm))
      have c := hco _ h1 h2 h4
      exact Or.inr ⟨h2, by rw [e]; exact h2, by rw [e, updN hne], (hcr _ (by omega)).resolve_left h4, c.1, c.2.2⟩
  have hk : ∀ x, (OKD kF vF cF vn x ∧ ¬ x = d) → OKD kF vF (upd cF v d) vn x ∧ upF pC rF (upd cF v d) vn x = upF pC rF cF vn x := by
    intro x hx
    refine ⟨⟨⟨hx.1.1.1, hx.1.1.2.1, live_up dm hx.1.1.2.2⟩, ?_⟩, ?_⟩
    · rw [cov0_iff hvn.1]
      intro w w1 w2 w3
      by_cases e : w = v
      · rw [e, updS] at w3; exact hx.2 w3.symm
      · rw [updN e] at w3; exact (cov0_iff hvn.1).mp hx.1.2 w w1 w2 w3
    · show pC (ix (grdC rF (upd cF v d) vn 4 x)) = _
      rw [hg x hx.1.1]
  obtain ⟨c1, ⟨n, c2⟩, ⟨m, c3⟩⟩ := hC
  have n39 := hT.gr39 c1 c2
  have m39 := hT.gr39 hT.zeroOK c3
  have hrd : ¬ ro = d := fun e => i1 (by rw [iaC_r (Or.inl e)]; exact e)
  exact ⟨(hk _ ⟨c1, hrd⟩).1, ⟨n, Gr.map hk n _ (hT.iaout c1 n 40 _ c2 (by omega) i2)⟩, ⟨m, Gr.map hk m _ (hT.iaout hT.zeroOK m 40 _ c3 (by omega) i1)⟩⟩
theorem CI.d0 (hT : TI kF vF pC rF cF vn dF bF ec) (hC : CI kF vF pC rF cF vn ro pr) {d : Int32} (i1 : ¬ iaC rF cF pC vn 40 ro d = d) : ¬ d = nI 0 := by
  obtain ⟨c1, -, ⟨m, c3⟩⟩ := hC
  intro e
  rw [e] at i1
  exact i1 (hT.iazero m 40 ro c3 (by have := hT.gr39 hT.zeroOK c3; omega))
theorem live_dn {cF : Nat → Int32} {vn w : Nat} {x : Int32} (hx : ¬ x = nI w) (h : live cF vn x) : live (upd cF w (-1)) vn x := by
  rcases h with h | ⟨u, h1, h2, h3, h4⟩
  · exact Or.inl h
  · exact Or.inr ⟨u, h1, h2, h3, by rw [updN (fun e => hx (by rw [h3, e]))]; exact h4⟩
theorem TI.um (hT : TI kF vF pC rF cF vn dF bF ec) {w : Nat} (w2 : w < vn) (hb : ∀ v, 1 ≤ v → v < vn → ¬ cF v = -1 → ¬ vF (ix (cF v)) = nI w) : TI kF vF pC rF (upd cF w (-1)) vn dF bF ec := by
  obtain ⟨hvn, hec, hcr, hrr, hpr, hr, hr0, hen, hdi, hvo, hco, hcx, hU, ⟨rk, hrk⟩, nu, hn1, hn2⟩ := hT
  have nm : ∀ u, ¬ upd cF w (-1) u = -1 → ¬ u = w ∧ upd cF w (-1) u = cF u := fun u h => by
    by_cases e : u = w
    · rw [e, updS] at h; exact absurd rfl h
    · exact ⟨e, updN e⟩
  refine ⟨hvn, hec, fun u hu => ?_, hrr, hpr, hr, hr0, hen, hdi, hvo, fun u h1 h2 h3 => ?_, fun u h1 h2 => ?_, fun x y x1 x2 y1 y2 e1 e2 => ?_, ⟨rk, fun u x h1 h2 h3 h4 h5 => ?_⟩, nu, hn1, fun u h1 h2 h3 => ?_⟩
  · by_cases e : u = w
    · rw [e, updS]; exact Or.inl rfl
    · rw [updN e]; exact hcr u hu
  · obtain ⟨e, e2⟩ := nm u h3
    rw [e2] at h3 ⊢
    obtain ⟨c1, c2, c3⟩ := hco u h1 h2 h3
    exact ⟨c1, c2, live_dn (hb u h1 h2 h3) c3⟩
  · rw [updN (by omega)]; exact hcx u h1 h2
  · have a := nm x e2
    have b := nm y (by rw [← e1]; exact e2)
    rw [a.2, b.2] at e1
    rw [a.2] at e2
    exact hU x y x1 x2 y1 y2 e1 e2
  · obtain ⟨e, e2⟩ := nm u h3
    rw [e2] at h3 h5
    exact hrk u x h1 h2 h3 h4 h5
  · obtain ⟨e, e2⟩ := nm u h3
    rw [e2] at h3 ⊢
    exact hn2 u h1 h2 h3
theorem TI.grdvol (hT : TI kF vF pC rF cF vn dF bF ec) {w : Nat} (hb : ∀ v, 1 ≤ v → v < vn → ¬ cF v = -1 → ¬ vF (ix (cF v)) = nI w) : ∀ (n : Nat) (d : Int32), ¬ vF (ix d) = nI w → ¬ vF (ix (grdC rF cF vn n d)) = nI w
  | 0, d, h => h
  | n + 1, d, h => by
    by_cases hm : mwrN rF cF d vn < vn
    · rw [grdC_go hm]
      have s := mwr_spec (rF := rF) (cF := cF) (o := d) hm hT.1.1
      exact hT.grdvol hb n _ (hb _ s.1 hm s.2.2)
    · rw [grdC_fix (by omega)]; exact h
theorem CI.um (hT : TI kF vF pC rF cF vn dF bF ec) (hC : CI kF vF pC rF cF vn ro pr) {w : Nat} (hb : ∀ v, 1 ≤ v → v < vn → ¬ cF v = -1 → ¬ vF (ix (cF v)) = nI w) (b1 : ¬ vF (ix ro) = nI w) (b2 : ¬ vF (ix pr) = nI w) : CI kF vF pC rF (upd cF w (-1)) vn ro pr := by
  have hM := hT.mi
  have hT2 := hT
  obtain ⟨hvn, hec, hcr, hrr, hpr, hr, hr0, hen, hdi, hvo, hco, -⟩ := hT2
  have nm : ∀ u, ¬ upd cF w (-1) u = -1 → ¬ u = w ∧ upd cF w (-1) u = cF u := fun u h => by
    by_cases e : u = w
    · rw [e, updS] at h; exact absurd rfl h
    · exact ⟨e, updN e⟩
  have hg : ∀ x, ¬ vF (ix x) = nI w → grdC rF (upd cF w (-1)) vn 4 x = grdC rF cF vn 4 x := fun x hx => by
    refine grd_cg (P := fun x => ¬ vF (ix x) = nI w) (fun x hx => ?_) 4 x hx
    rcases mwrN_spec (rF := rF) (cF := cF) (d := x) hvn.1 with ⟨h1, h2⟩ | ⟨h1, h2, h3, h4⟩
    · refine Or.inl ⟨h1, mwr_none hvn.1 (fun u u1 u2 u3 => ?_)⟩
      have a := nm u u3.2
      exact h2 u u1 u2 ⟨u3.1, by rw [← a.2]; exact u3.2⟩
    · have hne : ¬ mwrN rF cF x vn = w := fun e => by
        have a := (hr _ h2).2.1
        rw [h3] at a
        exact hx (by rw [a, e])
      have e := mwr_some (rF := rF) (cF := upd cF w (-1)) (d := x) (vn := vn) (w := mwrN rF cF x vn) hvn.1 h1 h2 h3 (by rw [updN hne]; exact h4) (fun u u1 u2 u3 _ => hM.2.1 _ _ u2 h2 (u3.trans h3.symm))
      exact Or.inr ⟨h2, by rw [e]; exact h2, by rw [e, updN hne], hb _ h1 h2 h4⟩
  have hk : ∀ x, OKD kF vF cF vn x → ¬ vF (ix x) = nI w → OKD kF vF (upd cF w (-1)) vn x ∧ upF pC rF (upd cF w (-1)) vn x = upF pC rF cF vn x ∧ ¬ vF (ix (upF pC rF cF vn x)) = nI w := by
    intro x hx hv
    refine ⟨⟨⟨hx.1.1, hx.1.2.1, live_dn hv hx.1.2.2⟩, ?_⟩, ?_, ?_⟩
    · rw [cov0_iff hvn.1]
      intro u u1 u2 u3
      have a := nm u (by rw [u3]; exact ne_m1 hx.1.1)
      rw [a.2] at u3
      exact (cov0_iff hvn.1).mp hx.2 u u1 u2 u3
    · show pC (ix (grdC rF (upd cF w (-1)) vn 4 x)) = _
      rw [hg x hv]
    · have g := hT.grdLD 4 x hx.1
      rw [(hT.upvol g.1 g.2.1).1]
      exact hT.grdvol hb 4 x hv
  obtain ⟨c1, ⟨n, c2⟩, ⟨m, c3⟩⟩ := hC
  exact ⟨(hk _ c1 b1).1, ⟨n, Gr.map2 hk n _ b2 c2⟩, ⟨m, Gr.map2 hk m _ b1 c3⟩⟩
theorem CI.en (hC : CI kF vF pC rF cF vn ro pr) {d : Int32} (hd : WP kF vF pC rF cF vn ro d) (hk : kF (ix d) = nI 1) : CI kF vF pC rF cF vn ro d := ⟨hC.1, hd.2.2.2.2 hk, hC.2.2⟩
theorem CI.jail (hT : TI kF vF pC rF cF vn dF bF ec) (hC : CI kF vF pC rF cF vn ro pr) {d : Int32} (hd : WP kF vF pC rF cF vn ro d) (hk : kF (ix d) = nI 1) : CI kF vF pC rF cF vn d d := by
  obtain ⟨c1, -, ⟨m, c3⟩⟩ := hC
  obtain ⟨n, hn⟩ := hd.2.2.2.2 hk
  exact ⟨⟨⟨hd.1, hk, hd.2.2.1⟩, hd.2.2.2.1⟩, ⟨0, rfl⟩, Gr.app c3 hT.zeroUp n d hn⟩
theorem WP.okd {d : Int32} (hd : WP kF vF pC rF cF vn ro d) (hk : kF (ix d) = nI 1) : OKD kF vF cF vn d := ⟨⟨hd.1, hk, hd.2.2.1⟩, hd.2.2.2.1⟩
end KP2
