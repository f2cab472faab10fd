/-! make of the class in pure words -/
noncomputable def mkC (kF mF oF pF rF cF : Nat → Int32) (vn : Nat) (dF : Nat → Int32) (nF : Nat → Int64) (bF : Nat → Int32) (ec : Nat) (LN : Nat → Nat) (LF : Nat → Nat → Int32) (us ro : Int32) (vF : Nat → Int32) (pr : Int32) (f : Nat → Int32) (n : Nat) (fl : Nat → Int32) (yn : Nat) (kd mo : Int32) : Int32 × (Nat → Int32) × (Nat → Int32) × (Nat → Int32) × (Nat → Int32) × (Nat → Int32) × Nat × (Nat → Int32) × (Nat → Int64) × (Nat → Int32) := pI (mbP yn kd mo) (if cnC kF mF oF pF rF cF vn dF nF bF ec LN LF us ro pr f n fl (if kd = nI 1 then nI 1 else nI 0) = nI 0 then (if lfN kF < 40 ∧ ec < 80 then (nI (lfN kF), upd kF (ix (nI (lfN kF))) kd, upd mF (ix (nI (lfN kF))) (if kd = nI 3 then nI 15 else mo), upd oF (ix (nI (lfN kF))) us, upd vF (ix (nI (lfN kF))) (vF (ix (tlnT kF mF oF pF rF cF vn dF nF bF ec LN LF us ro pr f n fl).2.1)), (if kd = nI 1 then upd (upd pF (ix (nI (lfN kF))) (nI (lfN kF))) (ix (nI (lfN kF))) (tlnT kF mF oF pF rF cF vn dF nF bF ec LN LF us ro pr f n fl).2.1 else upd pF (ix (nI (lfN kF))) (nI (lfN kF))), ec + 1, upd dF ec (tlnT kF mF oF pF rF cF vn dF nF bF ec LN LF us ro pr f n fl).2.1, vp_updL nF ec (tlnT kF mF oF pF rF cF vn dF nF bF ec LN LF us ro pr f n fl).2.2.1, upd bF ec (nI (lfN kF))) else (-10, kF, mF, oF, vF, pF, ec, dF, nF, bF)) else (cnC kF mF oF pF rF cF vn dF nF bF ec LN LF us ro pr f n fl (if kd = nI 1 then nI 1 else nI 0), kF, mF, oF, vF, pF, ec, dF, nF, bF)) (-11, kF, mF, oF, vF, pF, ec, dF, nF, bF)
/-- what make does to the links' texts -/
def mkP (kF : Nat → Int32) (LN : Nat → Nat) (LF : Nat → Nat → Int32) (tF : Nat → Option Nat) (yn : Nat) (yf : Nat → Int32) (kd r0 : Int32) (t2 : Nat → Option Nat) (N2 : Nat → Nat) (F2 : Nat → Nat → Int32) : Prop := (kd = nI 3 ∧ ¬ r0 < 0 → N2 = va_up LN (ix (nI (lfN kF))) yn ∧ (∀ a, a ≠ (ix (nI (lfN kF))) → F2 a = LF a) ∧ (∀ j, j < yn → F2 (ix (nI (lfN kF))) j = yf j) ∧ ∃ y, t2 = va_up tF (ix (nI (lfN kF))) (some y)) ∧ (¬ (kd = nI 3 ∧ ¬ r0 < 0) → N2 = LN ∧ F2 = LF ∧ t2 = tF)
theorem mkP_no {kF : Nat → Int32} {LN : Nat → Nat} {LF : Nat → Nat → Int32} {tF : Nat → Option Nat} {yn : Nat} {yf : Nat → Int32} {kd r0 : Int32} (h : ¬ (kd = nI 3 ∧ ¬ r0 < 0)) : mkP kF LN LF tF yn yf kd r0 tF LN LF := ⟨fun h2 => absurd h2 h, fun _ => ⟨rfl, rfl, rfl⟩⟩
theorem mkP_ye {kF : Nat → Int32} {LN : Nat → Nat} {LF : Nat → Nat → Int32} {tF t2 : Nat → Option Nat} {yn y : Nat} {yf g : Nat → Int32} {kd r0 : Int32} (h3 : kd = nI 3) (h0 : ¬ r0 < 0) (ht : t2 = va_up tF (ix (nI (lfN kF))) (some y)) : mkP kF LN LF tF yn yf kd r0 t2 (va_up LN (ix (nI (lfN kF))) yn) (va_up LF (ix (nI (lfN kF))) (va_cpy yf g 0 0 yn)) := ⟨fun _ => ⟨rfl, fun a ha => va_up_ne _ _ ha, fun j hj => by rw [va_up_self]; unfold va_cpy; rw [if_pos (by omega), Nat.sub_zero, Nat.zero_add], y, ht⟩, fun h => absurd ⟨h3, h0⟩ h⟩
theorem va_up_id {α : Type} {f : Nat → α} {k : Nat} {v : α} (h : f k = v) : f = va_up f k v := by funext j; unfold va_up; split; (rename_i e; rw [e]; exact h); rfl
theorem cnC_neg {kF mF oF pF rF cF : Nat → Int32} {vn : Nat} {dF : Nat → Int32} {nF : Nat → Int64} {bF : Nat → Int32} {ec : Nat} {LN : Nat → Nat} {LF : Nat → Nat → Int32} {us ro pr : Int32} {f : Nat → Int32} {n : Nat} {fl : Nat → Int32} {ms r : Int32} (hr : r = cnC kF mF oF pF rF cF vn dF nF bF ec LN LF us ro pr f n fl ms) (h : ¬ r = nI 0) : r < 0 := by
  have ht : ∀ (m st : Nat) (g : Nat → Int32) (wa : Int32) (hp : Nat), ¬ (tlnR kF mF oF pF rF cF vn dF nF bF ec LN LF us ro m st g wa hp).1 = nI 0 → (tlnR kF mF oF pF rF cF vn dF nF bF ec LN LF us ro m st g wa hp).1 < 0 := by
    intro m
    induction m with
    | zero => intro st g wa hp _; exact (by decide : (-1 : Int32) < 0)
    | succ m ih =>
      intro st g wa hp h
      unfold tlnR at h ⊢
      by_cases h1 : sk g st < 60
      · rw [if_pos h1] at h ⊢
        by_cases h2 : tkR kF mF oF us wa (eN g (sk g st) - sk g st) = nI 0
        · rw [if_pos h2] at h ⊢
          by_cases h3 : laA g (eN g (sk g st))
          · rw [pI_t h3] at h; exact absurd rfl h
          · rw [pI_f h3] at h ⊢
            by_cases h4 : (stQ kF pF rF cF vn dF nF bF ec LN LF ro (nI 1) g (sk g st) wa hp).1 = nI 0
            · rw [if_pos h4] at h ⊢; exact ih _ _ _ _ h
            · rw [if_neg h4] at h ⊢
              exact pnC_neg (r0 := (stQ kF pF rF cF vn dF nF bF ec LN LF ro (nI 1) g (sk g st) wa hp).1) (s2 := (stQ kF pF rF cF vn dF nF bF ec LN LF ro (nI 1) g (sk g st) wa hp).2.1) (f2 := (stQ kF pF rF cF vn dF nF bF ec LN LF ro (nI 1) g (sk g st) wa hp).2.2.1) (a2 := (stQ kF pF rF cF vn dF nF bF ec LN LF ro (nI 1) g (sk g st) wa hp).2.2.2.1) (h2 := (stQ kF pF rF cF vn dF nF bF ec LN LF ro (nI 1) g (sk g st) wa hp).2.2.2.2) rfl h4
        · rw [if_neg h2] at h ⊢; exact tkR_neg h2
      · rw [if_neg h1]; exact (by decide : (-1 : Int32) < 0)
  subst hr
  unfold cnC at h ⊢
  by_cases h1 : n = 0
  · rw [if_pos h1]; decide
  · rw [if_neg h1] at h ⊢
    by_cases h2 : scan (isS fl) n 0 = n
    · rw [if_pos h2]; decide
    · rw [if_neg h2] at h ⊢
      by_cases h3 : (tlnT kF mF oF pF rF cF vn dF nF bF ec LN LF us ro pr f n fl).1 = nI 0
      · rw [if_pos h3] at h ⊢
        by_cases h4 : ((tlnT kF mF oF pF rF cF vn dF nF bF ec LN LF us ro pr f n fl).2.2.1 = lN 46 ∨ (tlnT kF mF oF pF rF cF vn dF nF bF ec LN LF us ro pr f n fl).2.2.1 = lN 11822) ∨ fndE dF nF (tlnT kF mF oF pF rF cF vn dF nF bF ec LN LF us ro pr f n fl).2.1 (tlnT kF mF oF pF rF cF vn dF nF bF ec LN LF us ro pr f n fl).2.2.1 ec < ec
        · rw [pI_t h4]; decide
        · rw [pI_f h4] at h ⊢
          by_cases h5 : (tlnT kF mF oF pF rF cF vn dF nF bF ec LN LF us ro pr f n fl).2.2.2 ∧ ms = 0
          · rw [pI_t h5]; decide
          · rw [pI_f h5] at h ⊢
            by_cases h6 : mayP us (mF (ix (tlnT kF mF oF pF rF cF vn dF nF bF ec LN LF us ro pr f n fl).2.1)) (oF (ix (tlnT kF mF oF pF rF cF vn dF nF bF ec LN LF us ro pr f n fl).2.1)) (nI 2)
            · rw [pI_t h6] at h; exact absurd rfl h
            · rw [pI_f h6]; decide
      · rw [if_neg h3]; exact ht _ _ _ _ _ h3
