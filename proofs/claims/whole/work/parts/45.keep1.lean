/-! the invariant is kept: volume, make, link -/
theorem updS {f : Nat → Int32} {i : Nat} {x : Int32} : upd f i x i = x := by unfold upd; rw [if_pos rfl]
theorem updN {f : Nat → Int32} {i j : Nat} {x : Int32} (h : ¬ j = i) : upd f i x j = f j := by unfold upd; rw [if_neg h]
theorem updU {f : Nat → Int32} {i : Nat} {x y : Int32} : upd (upd f i x) i y = upd f i y := by funext j; unfold upd; split <;> rfl
theorem Gr.map2 {up up' : Int32 → Int32} {OK OK' P : Int32 → Prop} {t : Int32} (hm : ∀ x, OK x → P x → OK' x ∧ up' x = up x ∧ P (up x)) : ∀ (n : Nat) (d : Int32), P d → Gr up OK t n d → Gr up' OK' t n d
  | 0, d, _, h => h
  | n + 1, d, hp, h => by
    obtain ⟨a, b, c⟩ := hm d h.2.1 hp
    exact ⟨h.1, a, by rw [b]; exact Gr.map2 hm n _ c h.2.2⟩
theorem cov0_iff {cF : Nat → Int32} {d : Int32} {vn : Nat} (hv : 1 ≤ vn) : covN cF d vn = 0 ↔ ∀ v, 1 ≤ v → v < vn → ¬ cF v = d := by
  rcases covN_spec (cF := cF) (d := d) hv with ⟨h1, h2⟩ | ⟨h1, h2, h3⟩
  · exact ⟨fun _ => h2, fun _ => h1⟩
  · exact ⟨fun h => by omega, fun h => absurd h3 (h _ h1 h2)⟩
theorem mwr_none {rF cF : Nat → Int32} {d : Int32} {vn : Nat} (hv : 1 ≤ vn) (h : ∀ v, 1 ≤ v → v < vn → ¬ (rF v = d ∧ ¬ cF v = -1)) : vn ≤ mwrN rF cF d vn := by
  rcases mwrN_spec (rF := rF) (cF := cF) (d := d) hv with ⟨h1, -⟩ | ⟨h1, h2, h3⟩
  · exact h1
  · exact absurd h3 (h _ h1 h2)
theorem mwr_some {rF cF : Nat → Int32} {d : Int32} {vn w : Nat} (hv : 1 ≤ vn) (h1 : 1 ≤ w) (h2 : w < vn) (h3 : rF w = d) (h4 : ¬ cF w = -1) (hu : ∀ v, 1 ≤ v → v < vn → rF v = d → ¬ cF v = -1 → v = w) : mwrN rF cF d vn = w := by
  rcases mwrN_spec (rF := rF) (cF := cF) (d := d) hv with ⟨-, h⟩ | ⟨a, b, c, e⟩
  · exact absurd ⟨h3, h4⟩ (h w h1 h2)
  · exact hu _ a b c e
theorem grd_cg {rF cF rF' cF' : Nat → Int32} {vn vn' : Nat} {P : Int32 → Prop} (h : ∀ d, P d → (vn ≤ mwrN rF cF d vn ∧ vn' ≤ mwrN rF' cF' d vn') ∨ (mwrN rF cF d vn < vn ∧ mwrN rF' cF' d vn' < vn' ∧ cF' (mwrN rF' cF' d vn') = cF (mwrN rF cF d vn) ∧ P (cF (mwrN rF cF d vn)))) : ∀ (n : Nat) (d : Int32), P d → grdC rF' cF' vn' n d = grdC rF cF vn n d
  | 0, d, _ => rfl
  | n + 1, d, hd => by
    rcases h d hd with ⟨a, b⟩ | ⟨a, b, c, e⟩
    · rw [grdC_fix a, grdC_fix b]
    · rw [grdC_go a, grdC_go b, c]; exact grd_cg h n _ e
section KP1
variable {kF vF pC rF cF : Nat → Int32} {vn : Nat} {dF bF : Nat → Int32} {ec : Nat} {ro pr : Int32}
theorem nI_inj {a b : Nat} (h : nI a = nI b) (ha : a < 2 ^ 31) (hb : b < 2 ^ 31) : a = b := (nI_eq ha hb).1 h
theorem ix_ne {x : Int32} {i : Nat} (h : vp_in x 40) (hn : ¬ ix x = i) (hi : i < 40 := by assumption) : ¬ x = nI i := by
  intro e
  exact hn (by rw [e]; exact ix_nI (by omega))
/-- a new volume -/
theorem TI.vol (hT : TI kF vF pC rF cF vn dF bF ec) {i : Nat} (hi : i < 40) (h0 : kF i = nI 0) (hv4 : vn < 4) : TI (upd kF i (nI 1)) (upd vF i (nI vn)) (upd pC i (nI i)) (upd rF vn (nI i)) cF (vn + 1) dF bF ec := by
  have hT2 := hT
  obtain ⟨hvn, hec, hcr, hrr, hpr, hr, hr0, hen, hdi, hvo, hco, hcx, hU, ⟨rk, hrk⟩, nu, hn1, hn2⟩ := hT2
  have ne : ∀ j, ¬ kF j = nI 0 → ¬ j = i := fun j hj e => hj (by rw [e]; exact h0)
  have n1 : ∀ j, kF j = nI 1 → ¬ j = i := fun j hj => ne j (by rw [hj]; decide)
  have hcv : cF vn = -1 := hcx vn (Nat.le_refl _) hv4
  have mt : ∀ w, w < vn + 1 → ¬ cF w = -1 → w < vn := fun w hw hc => by
    rcases Nat.lt_succ_iff_lt_or_eq.mp hw with h | h
    · exact h
    · rw [h] at hc; exact absurd hcv hc
  have rne : ∀ v, v < vn → ¬ v = vn := fun v h => by omega
  refine ⟨by omega, hec, hcr, fun v hv => ?_, fun j hj => ?_, fun v hv => ?_, ?_, fun k hk => ?_, fun j hj h => ?_, fun j hj h => ?_, fun w h1 h2 h3 => ?_, fun v h1 h2 => hcx v (by omega) h2, fun v w v1 v2 w1 w2 e1 e2 => ?_, ⟨rk, fun w u h1 h2 h3 h4 h5 => ?_⟩, nu, fun j hj h1 h2 => ?_, fun w h1 h2 h3 => ?_⟩
  · by_cases e : v = vn
    · rw [e, updS]; exact vp_in_nI hi (by decide)
    · rw [updN e]; exact hrr v hv
  · by_cases e : j = i
    · rw [e, updS]; exact vp_in_nI hi (by decide)
    · rw [updN e]; exact hpr j hj
  · by_cases e : v = vn
    · rw [e, updS, ix_nI (by omega), updS, updS, updS]; exact ⟨rfl, rfl, rfl⟩
    · have r := hr v (by omega)
      have a := n1 _ r.1
      rw [updN e, updN a, updN a, updN a]; exact r
  · rw [updN (by omega)]; exact hr0
  · obtain ⟨k1, k2, k3, k4, k5, k6, k7⟩ := hen k hk
    have a := n1 _ k3
    have b := ne _ k4
    rw [updN a, updN b, updN a, updN b, updN b]
    refine ⟨k1, k2, k3, k4, k5, fun v hv => ?_, k7⟩
    by_cases e : v = vn
    · rw [e, updS]; exact ix_ne k2 b
    · rw [updN e]; exact k6 v (by omega)
  · by_cases e : j = i
    · exact Or.inl ⟨vn, by omega, by rw [updS, e]⟩
    · rw [updN e] at h
      rcases hdi j hj h with ⟨v, hv, e2⟩ | h2
      · exact Or.inl ⟨v, by omega, by rw [updN (by omega)]; exact e2⟩
      · exact Or.inr h2
  · by_cases e : j = i
    · exact ⟨vn, by omega, by rw [e, updS]⟩
    · rw [updN e] at h ⊢
      obtain ⟨u, hu, e2⟩ := hvo j hj h
      exact ⟨u, by omega, e2⟩
  · obtain ⟨c1, c2, c3⟩ := hco w h1 (mt w h2 h3) h3
    have a := n1 _ c1
    rw [updN a, updN a]
    refine ⟨c1, c2, c3.imp id ?_⟩
    rintro ⟨x, x1, x2, x3⟩
    exact ⟨x, x1, by omega, x3⟩
  · exact hU v w v1 (mt v v2 e2) w1 (mt w w2 (by rw [← e1]; exact e2)) e1 e2
  · have h2' := mt w h2 h3
    have c1 := (hco w h1 h2' h3).1
    rw [updN (n1 _ c1)] at h5
    have hin := (hcr w (by omega)).resolve_left h3
    obtain ⟨u', hu', e⟩ := hvo _ (vp_ix hin) (by rw [c1]; decide)
    rw [e] at h5
    have := nI_inj h5 (by omega) (by omega)
    exact hrk w u h1 h2' h3 (by omega) (by rw [e, this])
  · have e : ¬ j = i := fun e => h2 vn (by omega) (by rw [updS, e])
    rw [updN e] at h1 ⊢
    exact hn1 j hj h1 (fun v hv => by have := h2 v (by omega); rw [updN (by omega)] at this; exact this)
  · have h2' := mt w h2 h3
    rw [updN (rne w h2')]; exact hn2 w h1 h2' h3
theorem CI.vol (hT : TI kF vF pC rF cF vn dF bF ec) (hC : CI kF vF pC rF cF vn ro pr) {i : Nat} (hi : i < 40) (h0 : kF i = nI 0) (hv4 : vn < 4) : CI (upd kF i (nI 1)) (upd vF i (nI vn)) (upd pC i (nI i)) (upd rF vn (nI i)) cF (vn + 1) ro pr := by
  have hM := hT.mi
  have hT2 := hT
  obtain ⟨hvn, hec, hcr, hrr, hpr, hr, hr0, hen, hdi, hvo, hco, hcx, hU, -⟩ := hT2
  have hcv : cF vn = -1 := hcx vn (Nat.le_refl _) hv4
  have n1 : ∀ j, kF j = nI 1 → ¬ j = i := fun j hj e => by rw [e, h0] at hj; exact absurd hj (by decide)
  have hg : ∀ d, grdC (upd rF vn (nI i)) cF (vn + 1) 4 d = grdC rF cF vn 4 d := fun d => by
    refine grd_cg (P := fun _ => True) (fun d _ => ?_) 4 d trivial
    rcases mwrN_spec (rF := rF) (cF := cF) (d := d) hvn.1 with ⟨h1, h2⟩ | ⟨h1, h2, h3, h4⟩
    · refine Or.inl ⟨h1, mwr_none (by omega) (fun v v1 v2 v3 => ?_)⟩
      by_cases e : v = vn
      · rw [e] at v3; exact v3.2 hcv
      · rw [updN e] at v3; exact h2 v v1 (by omega) v3
    · have e := mwr_some (rF := upd rF vn (nI i)) (cF := cF) (d := d) (vn := vn + 1) (w := mwrN rF cF d vn) (by omega) h1 (by omega) (by rw [updN (by omega)]; exact h3) h4 (fun v v1 v2 v3 v4 => by
        by_cases e : v = vn
        · rw [e] at v4; exact absurd hcv v4
        · rw [updN e] at v3; exact hM.2.1 _ _ (by omega) h2 (v3.trans h3.symm))
      exact Or.inr ⟨h2, by rw [e]; omega, by rw [e], trivial⟩
  have hk : ∀ x, OKD kF vF cF vn x → OKD (upd kF i (nI 1)) (upd vF i (nI vn)) cF (vn + 1) x ∧ upF (upd pC i (nI i)) (upd rF vn (nI i)) cF (vn + 1) x = upF pC rF cF vn x := by
    intro x hx
    have a := n1 _ hx.1.2.1
    refine ⟨⟨⟨hx.1.1, by rw [updN a]; exact hx.1.2.1, ?_⟩, ?_⟩, ?_⟩
    · rw [updN a]
      refine hx.1.2.2.imp id ?_
      rintro ⟨y, x1, x2, x3⟩
      exact ⟨y, x1, by omega, x3⟩
    · rw [cov0_iff (by omega)]
      intro v v1 v2 v3
      by_cases e : v = vn
      · rw [e, hcv] at v3; exact ne_m1 hx.1.1 v3.symm
      · exact (cov0_iff hvn.1).mp hx.2 v v1 (by omega) v3
    · show upd pC i (nI i) (ix (grdC (upd rF vn (nI i)) cF (vn + 1) 4 x)) = _
      rw [hg, updN (n1 _ (hT.grdLD 4 x hx.1).2.1)]
  obtain ⟨c1, ⟨n, c2⟩, ⟨m, c3⟩⟩ := hC
  exact ⟨(hk _ c1).1, ⟨n, Gr.map hk n _ c2⟩, ⟨m, Gr.map hk m _ c3⟩⟩
/-- a new object under a name -/
theorem TI.mk (hT : TI kF vF pC rF cF vn dF bF ec) {i : Nat} (hi : i < 40) (h0 : kF i = nI 0) (hec8 : ec < 80) {d kd : Int32} (hd : LD kF vF cF vn d) (hkd : ¬ kd = nI 0) : TI (upd kF i kd) (upd vF i (vF (ix d))) (upd pC i (if kd = nI 1 then d else nI i)) rF cF vn (upd dF ec d) (upd bF ec (nI i)) (ec + 1) := by
  have hT2 := hT
  obtain ⟨hvn, hec, hcr, hrr, hpr, hr, hr0, hen, hdi, hvo, hco, hcx, hU, ⟨rk, hrk⟩, nu, hn1, hn2⟩ := hT2
  have ne : ∀ j, ¬ kF j = nI 0 → ¬ j = i := fun j hj e => hj (by rw [e]; exact h0)
  have n1 : ∀ j, kF j = nI 1 → ¬ j = i := fun j hj => ne j (by rw [hj]; decide)
  have hdn := n1 _ hd.2.1
  have hiv : vp_in (nI i) 40 := vp_in_nI hi (by decide)
  refine ⟨hvn, by omega, hcr, hrr, fun j hj => ?_, fun v hv => ?_, hr0, fun k hk => ?_, fun j hj h => ?_, fun j hj h => ?_, fun w h1 h2 h3 => ?_, hcx, hU, ⟨rk, fun w u h1 h2 h3 h4 h5 => ?_⟩, fun j => if j = i then nu (ix d) + 1 else nu j, fun j hj h1 h2 => ?_, fun w h1 h2 h3 => ?_⟩
  · by_cases e : j = i
    · rw [e, updS]; split
      · exact hd.1
      · exact hiv
    · rw [updN e]; exact hpr j hj
  · have r := hr v hv
    have a := n1 _ r.1
    rw [updN a, updN a, updN a]; exact r
  · by_cases e : k = ec
    · rw [e, updS, updS, ix_nI (by omega), updN hdn, updS, updS, updN hdn, updS]
      refine ⟨hd.1, hiv, hd.2.1, hkd, rfl, fun v hv e2 => ?_, fun h1 => ⟨if_pos h1, fun j hj e2 => ?_⟩⟩
      · have r := hr v hv
        rw [← e2, ix_nI (by omega), h0] at r
        exact absurd r.1 (by decide)
      · by_cases e3 : j = ec
        · exact e3
        · rw [updN e3] at e2
          have b := (hen j (by omega)).2.2.2.1
          rw [e2, ix_nI (by omega), h0] at b
          exact absurd rfl b
    · obtain ⟨k1, k2, k3, k4, k5, k6, k7⟩ := hen k (by omega)
      have a := n1 _ k3
      have b := ne _ k4
      rw [updN e, updN e, updN a, updN b, updN a, updN b, updN b]
      refine ⟨k1, k2, k3, k4, k5, k6, fun h => ⟨(k7 h).1, fun j hj e2 => ?_⟩⟩
      by_cases e3 : j = ec
      · rw [e3, updS] at e2; exact absurd e2.symm (ix_ne k2 b)
      · rw [updN e3] at e2; exact (k7 h).2 j (by omega) e2
  · by_cases e : j = i
    · exact Or.inr ⟨ec, by omega, by rw [updS, e]⟩
    · rw [updN e] at h
      rcases hdi j hj h with h2 | ⟨k, hk, e2⟩
      · exact Or.inl h2
      · exact Or.inr ⟨k, by omega, by rw [updN (by omega)]; exact e2⟩
  · by_cases e : j = i
    · obtain ⟨u, hu, e2⟩ := hvo _ (vp_ix hd.1) (by rw [hd.2.1]; decide)
      exact ⟨u, hu, by rw [e, updS]; exact e2⟩
    · rw [updN e] at h ⊢
      exact hvo j hj h
  · obtain ⟨c1, c2, c3⟩ := hco w h1 h2 h3
    have a := n1 _ c1
    rw [updN a, updN a]; exact ⟨c1, c2, c3⟩
  · rw [updN (n1 _ (hco w h1 h2 h3).1)] at h5
    exact hrk w u h1 h2 h3 h4 h5
  · show (if ix (upd pC i (if kd = nI 1 then d else nI i) j) = i then nu (ix d) + 1 else nu _) < (if j = i then nu (ix d) + 1 else nu j)
    by_cases e : j = i
    · rw [e, updS] at h1
      rw [e, updS, if_pos h1, if_pos rfl, if_neg hdn]; omega
    · rw [updN e] at h1 ⊢
      have hp : ¬ ix (pC j) = i := by
        rcases hdi j hj h1 with ⟨v, hv, e2⟩ | ⟨k, hk, e2⟩
        · exact absurd e2 (h2 v hv)
        · obtain ⟨k1, k2, k3, k4, k5, k6, k7⟩ := hen k hk
          rw [e2, ix_nI (by omega)] at k7
          rw [(k7 h1).1]; exact n1 _ k3
      rw [if_neg e, if_neg hp]; exact hn1 j hj h1 h2
  · show (if ix (cF w) = i then nu (ix d) + 1 else nu _) < (if ix (rF w) = i then nu (ix d) + 1 else nu _)
    rw [if_neg (n1 _ (hco w h1 h2 h3).1), if_neg (n1 _ (hr w h2).1)]; exact hn2 w h1 h2 h3
theorem CI.mk (hT : TI kF vF pC rF cF vn dF bF ec) (hC : CI kF vF pC rF cF vn ro pr) {i : Nat} (h0 : kF i = nI 0) {kd x y : Int32} : CI (upd kF i kd) (upd vF i x) (upd pC i y) rF cF vn ro pr := by
  have n1 : ∀ j, kF j = nI 1 → ¬ j = i := fun j hj e => by rw [e, h0] at hj; exact absurd hj (by decide)
  have hk : ∀ z, OKD kF vF cF vn z → OKD (upd kF i kd) (upd vF i x) cF vn z ∧ upF (upd pC i y) rF cF vn z = upF pC rF cF vn z := by
    intro z hz
    have a := n1 _ hz.1.2.1
    refine ⟨⟨⟨hz.1.1, by rw [updN a]; exact hz.1.2.1, by rw [updN a]; exact hz.1.2.2⟩, hz.2⟩, ?_⟩
    show upd pC i y (ix (grdC rF cF vn 4 z)) = _
    rw [updN (n1 _ (hT.grdLD 4 z hz.1).2.1)]
  obtain ⟨c1, ⟨n, c2⟩, ⟨m, c3⟩⟩ := hC
  exact ⟨(hk _ c1).1, ⟨n, Gr.map hk n _ c2⟩, ⟨m, Gr.map hk m _ c3⟩⟩
/-- another entry for what is no directory -/
theorem TI.lk (hT : TI kF vF pC rF cF vn dF bF ec) (hec8 : ec < 80) {d o : Int32} (hd : LD kF vF cF vn d) (ho : vp_in o 40) (ho0 : ¬ kF (ix o) = nI 0) (ho1 : ¬ kF (ix o) = nI 1) (hv : vF (ix d) = vF (ix o)) : TI kF vF pC rF cF vn (upd dF ec d) (upd bF ec o) (ec + 1) := by
  have hT2 := hT
  obtain ⟨hvn, hec, hcr, hrr, hpr, hr, hr0, hen, hdi, hrest⟩ := hT2
  refine ⟨hvn, by omega, hcr, hrr, hpr, hr, hr0, fun k hk => ?_, fun j hj h => ?_, hrest⟩
  · by_cases e : k = ec
    · rw [e, updS, updS]
      exact ⟨hd.1, ho, hd.2.1, ho0, hv.symm, fun v hv e2 => ho1 (by rw [e2]; exact (hr v hv).1), fun h => absurd h ho1⟩
    · obtain ⟨k1, k2, k3, k4, k5, k6, k7⟩ := hen k (by omega)
      rw [updN e, updN e]
      refine ⟨k1, k2, k3, k4, k5, k6, fun h => ⟨(k7 h).1, fun j hj e2 => ?_⟩⟩
      by_cases e3 : j = ec
      · rw [e3, updS] at e2; exact absurd (by rw [e2]; exact h) ho1
      · rw [updN e3] at e2; exact (k7 h).2 j (by omega) e2
  · rcases hdi j hj h with h2 | ⟨k, hk, e2⟩
    · exact Or.inl h2
    · exact Or.inr ⟨k, by omega, by rw [updN (by omega)]; exact e2⟩
end KP1
