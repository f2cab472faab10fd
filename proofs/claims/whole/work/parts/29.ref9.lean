set_option maxHeartbeats 4000000 in
set_option maxRecDepth 100000 in
theorem c_X8_nameOf (l : Launch) (G : GG) (sz : Nat) (x : Nat) (ak : Nat) (am : Nat) (ao : Nat) (av : Nat) (ap : Nat) (ax : Nat) (ay : Nat) (ad : Nat) (an : Nat) (ab : Nat) (ar : Nat) (ac : Nat) (at_ : Nat) (as_ : Nat) (aq : Nat) (ec : Nat) (vn : Nat) (tn : Nat) (sn : Nat) (qn : Nat) (hp : Nat) (ns : Nat) (us : Int32) (ro : Int32) (pr : Int32) (wa : Int32) (nm : Int64) (la : Prop) (sl : Prop) (pF : Nat → Int32) (dF : Nat → Int32) (nF : Nat → Int64) (bF : Nat → Int32) (d : Int32) (hec : ec ≤ 80) (hd : vp_in d 40) : CtL l G yX8_nameOf wsX8_nameOf 0 0 0 0 sz [.ref x, .int d] [oC x 8 [.ref ak, .ref am, .ref ao, .ref av, .ref ap, .ref ax, .ref ay, .int (nI ec), .ref ad, .ref an, .ref ab, .int (nI vn), .ref ar, .ref ac, .int us, .int ro, .int pr, .ref at_, .int (nI tn), .ref as_, .int (nI sn), .ref aq, .int (nI qn), .int wa, .int (nI hp), .long nm, .int (nI ns), .int (zI la), .int (zI sl)], aI G ap 40 pF, aI G ad 80 dF, aJ G an 80 nF, aI G ab 80 bF] (fun r (_ : Unit) => r = rL (scan (fun j => !(decide (bF j = d) && decide (dF j = pF (ix d)))) ec 0) ec nF) (fun (_ : Unit) => [oC x 8 [.ref ak, .ref am, .ref ao, .ref av, .ref ap, .ref ax, .ref ay, .int (nI ec), .ref ad, .ref an, .ref ab, .int (nI vn), .ref ar, .ref ac, .int us, .int ro, .int pr, .ref at_, .int (nI tn), .ref as_, .int (nI sn), .ref aq, .int (nI qn), .int wa, .int (nI hp), .long nm, .int (nI ns), .int (zI la), .int (zI sl)], aI G ap 40 pF, aI G ad 80 dF, aJ G an 80 nF, aI G ab 80 bF]) := by
  refine kMet (Qc := fun A => va_Ql _ (Bw G A _) A) (cc := cX8_nameOf) (nL := 3) (ret := some (.long)) (by decide) rfl (Nat.le_of_ble_eq_true rfl) ?_
  intro p e s m args below meth c A Q hF hr hlk hnme hK hP hD hA hS hQ hsz ls hl
  have hl : lv_has ls 3 [(0, .ref x), (1, .int d)] := hl
  refine lv_iconst (v := (nI 0)) hF.1 hF.2.1 dX8_nameOf_0 (by decide) ?_
  refine lv_istore_n (lv' := [(2, .int (nI 0)), (0, .ref x), (1, .int d)]) hF.1 hF.2.1 dX8_nameOf_1 rfl hl (by decide) rfl (fun ls hl => ?_)
  have loop_2 : ∀ (n_2 : Nat) (k : Nat), ec - k < n_2 → (0 ≤ k ∧ k ≤ ec) → (scan (fun j => !(decide (bF j = d) && decide (dF j = pF (ix d)))) (ec - k) k = scan (fun j => !(decide (bF j = d) && decide (dF j = pF (ix d)))) (ec - 0) 0) → ∀ (H : Heap) (locs : List Loc) (ls : Array Slot), PG G [oC x 8 [.ref ak, .ref am, .ref ao, .ref av, .ref ap, .ref ax, .ref ay, .int (nI ec), .ref ad, .ref an, .ref ab, .int (nI vn), .ref ar, .ref ac, .int us, .int ro, .int pr, .ref at_, .int (nI tn), .ref as_, .int (nI sn), .ref aq, .int (nI qn), .int wa, .int (nI hp), .long nm, .int (nI ns), .int (zI la), .int (zI sl)], aI G ap 40 pF, aI G ad 80 dF, aJ G an 80 nF, aI G ab 80 bF] H → va_D A [oC x 8 [.ref ak, .ref am, .ref ao, .ref av, .ref ap, .ref ax, .ref ay, .int (nI ec), .ref ad, .ref an, .ref ab, .int (nI vn), .ref ar, .ref ac, .int us, .int ro, .int pr, .ref at_, .int (nI tn), .ref as_, .int (nI sn), .ref aq, .int (nI qn), .int wa, .int (nI hp), .long nm, .int (nI ns), .int (zI la), .int (zI sl)], aI G ap 40 pF, aI G ad 80 dF, aJ G an 80 nF, aI G ab 80 bF] → va_S A s.heap H locs → lv_has ls 3 [(2, .int (nI k)), (0, .ref x), (1, .int d)] → W p l e (Rm 0 0 0 0) s m args below meth c H locs 0 0 Q (F0 m 2 ls []) := by
    intro n_2
    induction n_2 with
    | zero => intro k hm; exact absurd hm (Nat.not_lt_zero _)
    | succ n_2 ih_2 =>
      intro k hm_2 hk hR H locs ls hP hD hS hl
      refine lv_iload_n hF.1 hF.2.1 dX8_nameOf_2 rfl (lv_at hl 0 rfl) ?_
      refine lv_aload_n hF.1 hF.2.1 dX8_nameOf_3 rfl (lv_at hl 1 rfl) ?_
      refine kGet (C := RX8) (T := TX8) (N := 29) (index := 82) hF hK hP (inT inBX8) 0 rfl rfl 7 (by decide) rfl (List.mem_cons_of_mem _ mF_X8_82) rfl dX8_nameOf_4 ?_
      refine kGeN (tgt := 48) hF dX8_nameOf_7 (by decide) (by omega) (by omega) (fun c_1 => ?_) (fun c_1 => ?_)
      · refine lv_lconst (v := lN 0) hF.1 hF.2.1 dX8_nameOf_48 (by decide) ?_
        refine kRetL (v := lN 0) hF hr hlk hK hP hD hS hQ () [0, 1, 2, 3, 4] (by decide) rfl (by omega) (by omega) dX8_nameOf_49 ?_
        rw [show scan (fun j => !(decide (bF j = d) && decide (dF j = pF (ix d)))) ec 0 = _ from hR.symm, scan_e (by omega), rL_f (by omega)]
      · refine lv_aload_n hF.1 hF.2.1 dX8_nameOf_10 rfl (lv_at hl 1 rfl) ?_
        refine kGet (C := RX8) (T := TX8) (N := 29) (index := 38) hF hK hP (inT inBX8) 0 rfl rfl 10 (by decide) rfl (List.mem_cons_of_mem _ mF_X8_38) rfl dX8_nameOf_11 ?_
        refine lv_iload_n hF.1 hF.2.1 dX8_nameOf_14 rfl (lv_at hl 0 rfl) ?_
        refine kIaldN hF hK hP 4 rfl (by omega) (by decide) dX8_nameOf_15 ?_
        refine lv_iload_n hF.1 hF.2.1 dX8_nameOf_16 rfl (lv_at hl 2 rfl) ?_
        refine lv_icmp_ne (tgt := 42) hF.1 hF.2.1 dX8_nameOf_17 (by decide) (fun c_2 => ?_) (fun c_2 => ?_)
        · refine lv_iinc (v := (nI (k + 1))) (lv' := [(2, .int (nI (k + 1))), (0, .ref x), (1, .int d)]) hF.1 hF.2.1 dX8_nameOf_42 hl (k := 0) rfl (nI_inc1 _) (by decide) rfl (fun ls hl => ?_)
          refine lv_goto (tgt := 2) hF.1 hF.2.1 dX8_nameOf_45 (by decide) ?_
          exact ih_2 (k + 1) (by omega) (by omega) (by rw [← hR]; exact (scan_t (by omega) (by simp [*])).symm) H locs ls hP hD hS (lv_sub hl [0, 1, 2] rfl)
        · refine lv_aload_n hF.1 hF.2.1 dX8_nameOf_20 rfl (lv_at hl 1 rfl) ?_
          refine kGet (C := RX8) (T := TX8) (N := 29) (index := 31) hF hK hP (inT inBX8) 0 rfl rfl 8 (by decide) rfl (List.mem_cons_of_mem _ mF_X8_31) rfl dX8_nameOf_21 ?_
          refine lv_iload_n hF.1 hF.2.1 dX8_nameOf_24 rfl (lv_at hl 0 rfl) ?_
          refine kIaldN hF hK hP 2 rfl (by omega) (by decide) dX8_nameOf_25 ?_
          refine lv_aload_n hF.1 hF.2.1 dX8_nameOf_26 rfl (lv_at hl 1 rfl) ?_
          refine kGet (C := RX8) (T := TX8) (N := 29) (index := 22) hF hK hP (inT inBX8) 0 rfl rfl 4 (by decide) rfl (List.mem_cons_of_mem _ mF_X8_22) rfl dX8_nameOf_27 ?_
          refine lv_iload_n hF.1 hF.2.1 dX8_nameOf_30 rfl (lv_at hl 2 rfl) ?_
          refine kIald hF hK hP 1 rfl (hd) dX8_nameOf_31 ?_
          refine lv_icmp_ne (tgt := 42) hF.1 hF.2.1 dX8_nameOf_32 (by decide) (fun c_3 => ?_) (fun c_3 => ?_)
          · refine lv_iinc (v := (nI (k + 1))) (lv' := [(2, .int (nI (k + 1))), (0, .ref x), (1, .int d)]) hF.1 hF.2.1 dX8_nameOf_42 hl (k := 0) rfl (nI_inc1 _) (by decide) rfl (fun ls hl => ?_)
            refine lv_goto (tgt := 2) hF.1 hF.2.1 dX8_nameOf_45 (by decide) ?_
            exact ih_2 (k + 1) (by omega) (by omega) (by rw [← hR]; exact (scan_t (by omega) (by simp [*])).symm) H locs ls hP hD hS (lv_sub hl [0, 1, 2] rfl)
          · refine lv_aload_n hF.1 hF.2.1 dX8_nameOf_35 rfl (lv_at hl 1 rfl) ?_
            refine kGet (C := RX8) (T := TX8) (N := 29) (index := 34) hF hK hP (inT inBX8) 0 rfl rfl 9 (by decide) rfl (List.mem_cons_of_mem _ mF_X8_34) rfl dX8_nameOf_36 ?_
            refine lv_iload_n hF.1 hF.2.1 dX8_nameOf_39 rfl (lv_at hl 0 rfl) ?_
            refine kLaldN hF hK hP 3 rfl (by omega) (by decide) dX8_nameOf_40 ?_
            refine kRetL (v := nF k) hF hr hlk hK hP hD hS hQ () [0, 1, 2, 3, 4] (by decide) rfl (by omega) (by omega) dX8_nameOf_41 ?_
            rw [show scan (fun j => !(decide (bF j = d) && decide (dF j = pF (ix d)))) ec 0 = _ from hR.symm, scan_f (by omega) (by simp [*]), rL_t (by omega)]
  exact loop_2 _ 0 (Nat.lt_succ_self _) (by omega) (rfl) _ _ _ hP hD hS (lv_sub hl [0, 1, 2] rfl)
set_option maxHeartbeats 4000000 in
set_option maxRecDepth 100000 in
theorem c_X8_characters (l : Launch) (G : GG) (sz : Nat) (v : Nat) (hv : v < 128 ^ 6) : CtI l G yX8_characters wsX8_characters 0 0 0 0 sz [.long (lN v)] [] (fun r (_ : Unit) => r = (nI (chN 6 v))) (fun (_ : Unit) => []) := by
  refine kMet (Qc := fun A => va_Qi _ (Bw G A _) A) (cc := cX8_characters) (nL := 5) (ret := some (.int)) (by decide) rfl (Nat.le_of_ble_eq_true rfl) ?_
  intro p e s m args below meth c A Q hF hr hlk hnme hK hP hD hA hS hQ hsz ls hl
  have hl : lv_has ls 5 [(0, .long (lN v))] := hl
  refine lv_iconst (v := (nI 0)) hF.1 hF.2.1 dX8_characters_0 (by decide) ?_
  refine lv_istore_n (lv' := [(2, .int (nI 0)), (0, .long (lN v))]) hF.1 hF.2.1 dX8_characters_1 rfl hl (by decide) rfl (fun ls hl => ?_)
  refine lv_lload_n hF.1 hF.2.1 dX8_characters_2 rfl (lv_at hl 1 rfl) ?_
  refine lv_lstore_n (lv' := [(3, .long (lN v)), (2, .int (nI 0)), (0, .long (lN v))]) hF.1 hF.2.1 dX8_characters_3 rfl hl (by decide) rfl (fun ls hl => ?_)
  have loop_4 : ∀ (n_4 : Nat) (k w1 : Nat), 6 - k < n_4 → (k ≤ 6 ∧ w1 < 128 ^ (6 - k)) → (k + chN (6 - k) w1 = chN 6 v) → ∀ (H : Heap) (locs : List Loc) (ls : Array Slot), PG G [] H → va_D A [] → va_S A s.heap H locs → lv_has ls 5 [(3, .long (lN w1)), (2, .int (nI k)), (0, .long (lN v))] → W p l e (Rm 0 0 0 0) s m args below meth c H locs 0 0 Q (F0 m 4 ls []) := by
    intro n_4
    induction n_4 with
    | zero => intro k w1 hm; exact absurd hm (Nat.not_lt_zero _)
    | succ n_4 ih_4 =>
      intro k w1 hm_4 hb hR H locs ls hP hD hS hl
      refine lv_lload_n hF.1 hF.2.1 dX8_characters_4 rfl (lv_at hl 0 rfl) ?_
      refine lv_lconst (v := lN 0) hF.1 hF.2.1 dX8_characters_5 (by decide) ?_
      refine W.lcmp hF.1 hF.2.1 dX8_characters_6 ?_
      refine kIfLeC (tgt := 21) hF dX8_characters_7 (by decide) (fun c_1 => ?_) (fun c_1 => ?_)
      · have c_1 := (lN_le0 (lt128 hb.2)).1 c_1
        refine lv_iload_n hF.1 hF.2.1 dX8_characters_21 rfl (lv_at hl 1 rfl) ?_
        refine kRetI (v := (nI k)) hF hr hlk hK hP hD hS hQ rfl () [] (by decide) rfl (Nat.le_of_ble_eq_true rfl) (Nat.le_of_ble_eq_true rfl) dX8_characters_22 ?_
        rw [← hR, show w1 = 0 by omega, chN_0, Nat.add_zero]
      · have c_1 : 0 < w1 := Nat.pos_of_ne_zero (fun h => c_1 ((lN_le0 (lt128 hb.2)).2 h))
        have hdv := dv128 hb.1 hb.2 c_1
        refine lv_lload_n hF.1 hF.2.1 dX8_characters_10 rfl (lv_at hl 0 rfl) ?_
        refine lv_bipush (v := (nI 7)) hF.1 hF.2.1 dX8_characters_11 (by decide) ?_
        refine lv_lshr hF.1 hF.2.1 dX8_characters_13 rfl ?_
        refine kTopL (y := lN (w1 / 128)) (lshr7 (lt128 hb.2)) ?_
        refine lv_lstore_n (lv' := [(3, .long (lN (w1 / 128))), (2, .int (nI k)), (0, .long (lN v))]) hF.1 hF.2.1 dX8_characters_14 rfl hl (by decide) rfl (fun ls hl => ?_)
        refine lv_iinc (v := (nI (k + 1))) (lv' := [(2, .int (nI (k + 1))), (3, .long (lN (w1 / 128))), (0, .long (lN v))]) hF.1 hF.2.1 dX8_characters_15 hl (k := 1) rfl (nI_inc1 _) (by decide) rfl (fun ls hl => ?_)
        refine lv_goto (tgt := 4) hF.1 hF.2.1 dX8_characters_18 (by decide) ?_
        exact ih_4 (k + 1) (w1 / 128) (by omega) (⟨by omega, hdv.2⟩) (by rw [← hR, chN_s hdv.1 (by omega)]; omega) H locs ls hP hD hS (lv_sub hl [1, 0, 2] rfl)
  exact loop_4 _ 0 v (Nat.lt_succ_self _) (⟨by omega, hv⟩) (Nat.zero_add _) _ _ _ hP hD hS (lv_sub hl [0, 1, 2] rfl)
set_option maxHeartbeats 4000000 in
set_option maxRecDepth 100000 in
theorem c_X8_path (l : Launch) (G : GG) (sz : Nat) (x : Nat) (ak : Nat) (am : Nat) (ao : Nat) (av : Nat) (ap : Nat) (ax : Nat) (ay : Nat) (ad : Nat) (an : Nat) (ab : Nat) (ar : Nat) (ac : Nat) (at_ : Nat) (as_ : Nat) (aq : Nat) (ec : Nat) (vn : Nat) (tn : Nat) (sn : Nat) (qn : Nat) (hp : Nat) (ns : Nat) (us : Int32) (ro : Int32) (pr : Int32) (wa : Int32) (nm : Int64) (la : Prop) (sl : Prop) (pF : Nat → Int32) (dF : Nat → Int32) (nF : Nat → Int64) (bF : Nat → Int32) (rF : Nat → Int32) (cF : Nat → Int32) (tF : Nat → Int32) (X : Nat → Int32) (nn : Nat) (NV : Nat → Nat) (hvn : 1 ≤ vn ∧ vn ≤ 4) (hcr : ∀ v, v < 4 → cF v = -1 ∨ vp_in (cF v) 40) (htn : tn ≤ 40) (hec : ec ≤ 80) (hX0 : X 0 = pr) (hXs : ∀ k, k < nn → X (k + 1) = abvR rF cF pF vn (X k) ro) (hXn : X nn = ro) (hXr : ∀ k, k < nn → ¬ X k = ro) (hnn : nn ≤ 40) (hXi : ∀ k, k ≤ nn → vp_in (X k) 40) (hNV : ∀ k, k < ec → nF k = lN (NV k) ∧ NV k < 128 ^ 6) : CtI l G yX8_path wsX8_path 3 68 0 0 sz [.ref x] [oC x 8 [.ref ak, .ref am, .ref ao, .ref av, .ref ap, .ref ax, .ref ay, .int (nI ec), .ref ad, .ref an, .ref ab, .int (nI vn), .ref ar, .ref ac, .int us, .int ro, .int pr, .ref at_, .int (nI tn), .ref as_, .int (nI sn), .ref aq, .int (nI qn), .int wa, .int (nI hp), .long nm, .int (nI ns), .int (zI la), .int (zI sl)], aI G ap 40 pF, aI G ad 80 dF, aJ G an 80 nF, aI G ab 80 bF, aI G ar 4 rF, aI G ac 4 cF, aI G at_ 40 tF] (fun r (u : Int32 × Nat × (Nat → Int32)) => match u with | (r0, n2, f2) => r = r0 ∧ (r0, n2, f2) = ptR (fun k => nvD bF dF pF ec NV (grdR rF cF vn 5 (X k))) nn tn tF) (fun (u : Int32 × Nat × (Nat → Int32)) => match u with | (r0, n2, f2) => [oC x 8 [.ref ak, .ref am, .ref ao, .ref av, .ref ap, .ref ax, .ref ay, .int (nI ec), .ref ad, .ref an, .ref ab, .int (nI vn), .ref ar, .ref ac, .int us, .int ro, .int pr, .ref at_, .int (nI n2), .ref as_, .int (nI sn), .ref aq, .int (nI qn), .int wa, .int (nI hp), .long nm, .int (nI ns), .int (zI la), .int (zI sl)], aI G ap 40 pF, aI G ad 80 dF, aJ G an 80 nF, aI G ab 80 bF, aI G ar 4 rF, aI G ac 4 cF, aI G at_ 40 f2]) := by
  refine kMet (Qc := fun A => va_Qi _ (Bw G A _) A) (cc := cX8_path) (nL := 6) (ret := some (.int)) (by decide) rfl (Nat.le_of_ble_eq_true rfl) ?_
  intro p e s m args below meth c A Q hF hr hlk hnme hK hP hD hA hS hQ hsz ls hl
  have hl : lv_has ls 6 [(0, .ref x)] := hl
  have hsp := sP_le (ch := chV (fun k => nvD bF dF pF ec NV (grdR rF cF vn 5 (X k)))) (fun k => chN_le 6 _)
  have hspn := hsp nn
  refine lv_aload_n hF.1 hF.2.1 dX8_path_0 rfl (lv_at hl 0 rfl) ?_
  refine kGet (C := RX8) (T := TX8) (N := 29) (index := 111) hF hK hP (inT inBX8) 0 rfl rfl 16 (by decide) rfl (List.mem_cons_of_mem _ mF_X8_111) rfl dX8_path_1 ?_
  refine lv_aload_n hF.1 hF.2.1 dX8_path_4 rfl (lv_at hl 0 rfl) ?_
  refine kGet (C := RX8) (T := TX8) (N := 29) (index := 108) hF hK hP (inT inBX8) 0 rfl rfl 15 (by decide) rfl (List.mem_cons_of_mem _ mF_X8_108) rfl dX8_path_5 ?_
  refine lv_icmp_ne (tgt := 26) hF.1 hF.2.1 dX8_path_8 (by decide) (fun c_1 => ?_) (fun c_1 => ?_)
  · have hn0 : ¬ nn = 0 := fun h => c_1 (by rw [← hX0, ← hXn, h])
    refine lv_iconst (v := (nI 0)) hF.1 hF.2.1 dX8_path_26 (by decide) ?_
    refine lv_istore_n (lv' := [(1, .int (nI 0)), (0, .ref x)]) hF.1 hF.2.1 dX8_path_27 rfl hl (by decide) rfl (fun ls hl => ?_)
    refine lv_aload_n hF.1 hF.2.1 dX8_path_28 rfl (lv_at hl 1 rfl) ?_
    refine kGet (C := RX8) (T := TX8) (N := 29) (index := 111) hF hK hP (inT inBX8) 0 rfl rfl 16 (by decide) rfl (List.mem_cons_of_mem _ mF_X8_111) rfl dX8_path_29 ?_
    refine kTop (y := X 0) hX0.symm ?_
    refine lv_istore_n (lv' := [(2, .int (X 0)), (1, .int (nI 0)), (0, .ref x)]) hF.1 hF.2.1 dX8_path_32 rfl hl (by decide) rfl (fun ls hl => ?_)
    have loop_33 : ∀ (n_33 : Nat) (k al : Nat), nn - k < n_33 → (k ≤ nn) → (al = sP (chV (fun k => nvD bF dF pF ec NV (grdR rF cF vn 5 (X k)))) k) → ∀ (H : Heap) (locs : List Loc) (ls : Array Slot), PG G [oC x 8 [.ref ak, .ref am, .ref ao, .ref av, .ref ap, .ref ax, .ref ay, .int (nI ec), .ref ad, .ref an, .ref ab, .int (nI vn), .ref ar, .ref ac, .int us, .int ro, .int pr, .ref at_, .int (nI tn), .ref as_, .int (nI sn), .ref aq, .int (nI qn), .int wa, .int (nI hp), .long nm, .int (nI ns), .int (zI la), .int (zI sl)], aI G ap 40 pF, aI G ad 80 dF, aJ G an 80 nF, aI G ab 80 bF, aI G ar 4 rF, aI G ac 4 cF, aI G at_ 40 tF] H → va_D A [oC x 8 [.ref ak, .ref am, .ref ao, .ref av, .ref ap, .ref ax, .ref ay, .int (nI ec), .ref ad, .ref an, .ref ab, .int (nI vn), .ref ar, .ref ac, .int us, .int ro, .int pr, .ref at_, .int (nI tn), .ref as_, .int (nI sn), .ref aq, .int (nI qn), .int wa, .int (nI hp), .long nm, .int (nI ns), .int (zI la), .int (zI sl)], aI G ap 40 pF, aI G ad 80 dF, aJ G an 80 nF, aI G ab 80 bF, aI G ar 4 rF, aI G ac 4 cF, aI G at_ 40 tF] → va_S A s.heap H locs → lv_has ls 6 [(2, .int (X k)), (1, .int (nI al)), (0, .ref x)] → W p l e (Rm 3 0 0 68) s m args below meth c H locs 0 0 Q (F0 m 33 ls []) := by
      intro n_33
      induction n_33 with
      | zero => intro k al hm; exact absurd hm (Nat.not_lt_zero _)
      | succ n_33 ih_33 =>
        intro k al hm_33 hk hal H locs ls hP hD hS hl
        have hspk := hsp k
        refine lv_iload_n hF.1 hF.2.1 dX8_path_33 rfl (lv_at hl 0 rfl) ?_
        refine lv_aload_n hF.1 hF.2.1 dX8_path_34 rfl (lv_at hl 2 rfl) ?_
        refine kGet (C := RX8) (T := TX8) (N := 29) (index := 108) hF hK hP (inT inBX8) 0 rfl rfl 15 (by decide) rfl (List.mem_cons_of_mem _ mF_X8_108) rfl dX8_path_35 ?_
        refine lv_icmp_eq (tgt := 78) hF.1 hF.2.1 dX8_path_38 (by decide) (fun c_2 => ?_) (fun c_2 => ?_)
        · have hkn : k = nn := Nat.le_antisymm hk (Nat.le_of_not_lt fun h => hXr k h c_2)
          have hal2 : al = sP (chV (fun k => nvD bF dF pF ec NV (grdR rF cF vn 5 (X k)))) nn := by rw [hal, hkn]
          refine lv_iload_n hF.1 hF.2.1 dX8_path_78 rfl (lv_at hl 1 rfl) ?_
          refine lv_bipush (v := (nI 40)) hF.1 hF.2.1 dX8_path_79 (by decide) ?_
          refine kLeN (tgt := 87) hF dX8_path_81 (by decide) (by omega) (by omega) (fun c_3 => ?_) (fun c_3 => ?_)
          · refine lv_iload_n hF.1 hF.2.1 dX8_path_87 rfl (lv_at hl 1 rfl) ?_
            refine lv_istore_n (lv' := [(2, .int (nI al)), (1, .int (nI al)), (0, .ref x)]) hF.1 hF.2.1 dX8_path_88 rfl hl (by decide) rfl (fun ls hl => ?_)
            refine lv_aload_n hF.1 hF.2.1 dX8_path_89 rfl (lv_at hl 2 rfl) ?_
            refine kGet (C := RX8) (T := TX8) (N := 29) (index := 111) hF hK hP (inT inBX8) 0 rfl rfl 16 (by decide) rfl (List.mem_cons_of_mem _ mF_X8_111) rfl dX8_path_90 ?_
            refine kTop (y := X 0) hX0.symm ?_
            refine lv_istore_n (lv' := [(3, .int (X 0)), (2, .int (nI al)), (1, .int (nI al)), (0, .ref x)]) hF.1 hF.2.1 dX8_path_93 rfl hl (by decide) rfl (fun ls hl => ?_)
            have loop_94 : ∀ (n_94 : Nat) (k2 p1 : Nat) (f1 : Nat → Int32), nn - k2 < n_94 → (k2 ≤ nn) → ((p1, f1) = pwR (fun k => nvD bF dF pF ec NV (grdR rF cF vn 5 (X k))) al tF k2) → (p1 + sP (chV (fun k => nvD bF dF pF ec NV (grdR rF cF vn 5 (X k)))) k2 = al) → ∀ (H : Heap) (locs : List Loc) (ls : Array Slot), PG G [oC x 8 [.ref ak, .ref am, .ref ao, .ref av, .ref ap, .ref ax, .ref ay, .int (nI ec), .ref ad, .ref an, .ref ab, .int (nI vn), .ref ar, .ref ac, .int us, .int ro, .int pr, .ref at_, .int (nI tn), .ref as_, .int (nI sn), .ref aq, .int (nI qn), .int wa, .int (nI hp), .long nm, .int (nI ns), .int (zI la), .int (zI sl)], aI G ap 40 pF, aI G ad 80 dF, aJ G an 80 nF, aI G ab 80 bF, aI G ar 4 rF, aI G ac 4 cF, aI G at_ 40 f1] H → va_D A [oC x 8 [.ref ak, .ref am, .ref ao, .ref av, .ref ap, .ref ax, .ref ay, .int (nI ec), .ref ad, .ref an, .ref ab, .int (nI vn), .ref ar, .ref ac, .int us, .int ro, .int pr, .ref at_, .int (nI tn), .ref as_, .int (nI sn), .ref aq, .int (nI qn), .int wa, .int (nI hp), .long nm, .int (nI ns), .int (zI la), .int (zI sl)], aI G ap 40 pF, aI G ad 80 dF, aJ G an 80 nF, aI G ab 80 bF, aI G ar 4 rF, aI G ac 4 cF, aI G at_ 40 f1] → va_S A s.heap H locs → lv_has ls 6 [(3, .int (X k2)), (2, .int (nI p1)), (1, .int (nI al)), (0, .ref x)] → W p l e (Rm 3 0 0 68) s m args below meth c H locs 0 0 Q (F0 m 94 ls []) := by
              intro n_94
              induction n_94 with
              | zero => intro k2 p1 f1 hm; exact absurd hm (Nat.not_lt_zero _)
              | succ n_94 ih_94 =>
                intro k2 p1 f1 hm_94 hk2 hpf hp1 H locs ls hP hD hS hl
                refine lv_iload_n hF.1 hF.2.1 dX8_path_94 rfl (lv_at hl 0 rfl) ?_
                refine lv_aload_n hF.1 hF.2.1 dX8_path_95 rfl (lv_at hl 3 rfl) ?_
                refine kGet (C := RX8) (T := TX8) (N := 29) (index := 108) hF hK hP (inT inBX8) 0 rfl rfl 15 (by decide) rfl (List.mem_cons_of_mem _ mF_X8_108) rfl dX8_path_96 ?_
                refine lv_icmp_eq (tgt := 172) hF.1 hF.2.1 dX8_path_99 (by decide) (fun c_4 => ?_) (fun c_4 => ?_)
                · have hkn2 : k2 = nn := Nat.le_antisymm hk2 (Nat.le_of_not_lt fun h => hXr k2 h c_4)
                  refine lv_aload_n hF.1 hF.2.1 dX8_path_172 rfl (lv_at hl 3 rfl) ?_
                  refine lv_iload_n hF.1 hF.2.1 dX8_path_173 rfl (lv_at hl 2 rfl) ?_
                  refine kPut (C := RX8) (T := TX8) (N := 29) (index := 60) (v := .int (nI al)) hF hK hP hD hS (inT inBX8) tyX8_ok nmX8 0 rfl rfl 18 (by decide) rfl (List.mem_cons_of_mem _ mF_X8_60) rfl rfl rfl (Nat.le_of_ble_eq_true rfl) dX8_path_174 (fun H locs hP hD hS => ?_)
                  have hP : PG G [oC x 8 [.ref ak, .ref am, .ref ao, .ref av, .ref ap, .ref ax, .ref ay, .int (nI ec), .ref ad, .ref an, .ref ab, .int (nI vn), .ref ar, .ref ac, .int us, .int ro, .int pr, .ref at_, .int (nI al), .ref as_, .int (nI sn), .ref aq, .int (nI qn), .int wa, .int (nI hp), .long nm, .int (nI ns), .int (zI la), .int (zI sl)], aI G ap 40 pF, aI G ad 80 dF, aJ G an 80 nF, aI G ab 80 bF, aI G ar 4 rF, aI G ac 4 cF, aI G at_ 40 f1] H := hP
                  have hD : va_D A [oC x 8 [.ref ak, .ref am, .ref ao, .ref av, .ref ap, .ref ax, .ref ay, .int (nI ec), .ref ad, .ref an, .ref ab, .int (nI vn), .ref ar, .ref ac, .int us, .int ro, .int pr, .ref at_, .int (nI al), .ref as_, .int (nI sn), .ref aq, .int (nI qn), .int wa, .int (nI hp), .long nm, .int (nI ns), .int (zI la), .int (zI sl)], aI G ap 40 pF, aI G ad 80 dF, aJ G an 80 nF, aI G ab 80 bF, aI G ar 4 rF, aI G ac 4 cF, aI G at_ 40 f1] := hD
                  refine lv_aload_n hF.1 hF.2.1 dX8_path_177 rfl (lv_at hl 3 rfl) ?_
                  refine kGet (C := RX8) (T := TX8) (N := 29) (index := 60) hF hK hP (inT inBX8) 0 rfl rfl 18 (by decide) rfl (List.mem_cons_of_mem _ mF_X8_60) rfl dX8_path_178 ?_
                  refine kRetI (v := (nI al)) hF hr hlk hK hP hD hS hQ rfl ((nI al), al, f1) [0, 1, 2, 3, 4, 5, 6, 7] (by decide) rfl (Nat.le_of_ble_eq_true rfl) (Nat.le_of_ble_eq_true rfl) dX8_path_181 ?_
                  refine ⟨rfl, ?_⟩
                  rw [hkn] at hal
                  rw [ptR, if_neg hn0, if_neg (by rw [← hal]; omega), ← hal, ← hkn2, ← hpf]
                · have hkn2 : k2 < nn := Nat.lt_of_le_of_ne hk2 (fun h => c_4 (by rw [h]; exact hXn))
                  have hs2 := sP_mono (ch := chV (fun k => nvD bF dF pF ec NV (grdR rF cF vn 5 (X k)))) (show k2 + 1 ≤ nn by omega)
                  have e2 : sP (chV (fun k => nvD bF dF pF ec NV (grdR rF cF vn 5 (X k)))) (k2 + 1) = sP (chV (fun k => nvD bF dF pF ec NV (grdR rF cF vn 5 (X k)))) k2 + 1 + chN 6 (nvD bF dF pF ec NV (grdR rF cF vn 5 (X k2))) := rfl
                  refine lv_aload_n hF.1 hF.2.1 dX8_path_102 rfl (lv_at hl 3 rfl) ?_
                  refine lv_aload_n hF.1 hF.2.1 dX8_path_103 rfl (lv_at hl 3 rfl) ?_
                  refine lv_iload_n hF.1 hF.2.1 dX8_path_104 rfl (lv_at hl 0 rfl) ?_
                  refine kCallI (wr := [aI G ap 40 pF, aI G ad 80 dF, aJ G an 80 nF, aI G ab 80 bF, aI G at_ 40 f1]) (va_runV (As := [.int (X k2)]) (rest := [.ref x]) hF (c_X8_seat l G _ x ak am ao av ap ax ay ad an ab ar ac at_ as_ aq ec vn tn sn qn hp ns us ro pr wa nm la sl rF cF (X k2) (by first | assumption | omega)) (cwVB 1 hF rfl mL_X8_76 mI_X8_seat mS_X8_seat mN_X8 mC_X8_seat rfl hd_X8_seat rfl rfl ⟨Nat.le_of_ble_eq_true rfl, Nat.le_of_ble_eq_true rfl⟩) (kPre hK hP hD [0, 5, 6] (by decide) rfl (q0 := 0) (ci := 8) rfl rfl rfl) rfl rfl hl.1 rfl (lv_room (Nat.le_of_ble_eq_true rfl)) dX8_path_105 ⟨Nat.le_of_ble_eq_true rfl, Nat.le_of_ble_eq_true rfl⟩) hP hD hS hA [0, 5, 6] [1, 2, 3, 4, 7] rfl rfl (by decide) (by decide) (fun r u H locs hw_5 hP hD hS => ?_)
                  have hw_5 := hw_5.symm
                  subst hw_5
                  have hP : PG G [oC x 8 [.ref ak, .ref am, .ref ao, .ref av, .ref ap, .ref ax, .ref ay, .int (nI ec), .ref ad, .ref an, .ref ab, .int (nI vn), .ref ar, .ref ac, .int us, .int ro, .int pr, .ref at_, .int (nI tn), .ref as_, .int (nI sn), .ref aq, .int (nI qn), .int wa, .int (nI hp), .long nm, .int (nI ns), .int (zI la), .int (zI sl)], aI G ap 40 pF, aI G ad 80 dF, aJ G an 80 nF, aI G ab 80 bF, aI G ar 4 rF, aI G ac 4 cF, aI G at_ 40 f1] H := va_P.sub hP [5, 0, 1, 2, 3, 6, 7, 4] rfl
                  have hD : va_D A [oC x 8 [.ref ak, .ref am, .ref ao, .ref av, .ref ap, .ref ax, .ref ay, .int (nI ec), .ref ad, .ref an, .ref ab, .int (nI vn), .ref ar, .ref ac, .int us, .int ro, .int pr, .ref at_, .int (nI tn), .ref as_, .int (nI sn), .ref aq, .int (nI qn), .int wa, .int (nI hp), .long nm, .int (nI ns), .int (zI la), .int (zI sl)], aI G ap 40 pF, aI G ad 80 dF, aJ G an 80 nF, aI G ab 80 bF, aI G ar 4 rF, aI G ac 4 cF, aI G at_ 40 f1] := va_D.sub hD [5, 0, 1, 2, 3, 6, 7, 4] (by decide) rfl
                  refine kCallL (wr := [aI G ar 4 rF, aI G ac 4 cF, aI G at_ 40 f1]) (va_runV (As := [.int (grdR rF cF vn 5 (X k2))]) (rest := []) hF (c_X8_nameOf l G H.size x ak am ao av ap ax ay ad an ab ar ac at_ as_ aq ec vn tn sn qn hp ns us ro pr wa nm la sl pF dF nF bF (grdR rF cF vn 5 (X k2)) (by first | assumption | omega) (grdR_in hvn hcr 5 _ (hXi _ (by omega)))) (cwVB 1 hF rfl mL_X8_189 mI_X8_nameOf mS_X8_nameOf mN_X8 mC_X8_nameOf rfl hd_X8_nameOf rfl rfl ⟨Nat.le_of_ble_eq_true rfl, Nat.le_of_ble_eq_true rfl⟩) (kPre hK hP hD [0, 1, 2, 3, 4] (by decide) rfl (q0 := 0) (ci := 8) rfl rfl rfl) rfl rfl hl.1 rfl (lv_room (Nat.le_of_ble_eq_true rfl)) dX8_path_108 ⟨Nat.le_of_ble_eq_true rfl, Nat.le_of_ble_eq_true rfl⟩) hP hD hS hA [0, 1, 2, 3, 4] [5, 6, 7] rfl rfl (by decide) (by decide) (fun r u H locs hw_6 hP hD hS => ?_)
                  have hw_6 := hw_6.symm
                  subst hw_6
                  have hP : PG G [oC x 8 [.ref ak, .ref am, .ref ao, .ref av, .ref ap, .ref ax, .ref ay, .int (nI ec), .ref ad, .ref an, .ref ab, .int (nI vn), .ref ar, .ref ac, .int us, .int ro, .int pr, .ref at_, .int (nI tn), .ref as_, .int (nI sn), .ref aq, .int (nI qn), .int wa, .int (nI hp), .long nm, .int (nI ns), .int (zI la), .int (zI sl)], aI G ap 40 pF, aI G ad 80 dF, aJ G an 80 nF, aI G ab 80 bF, aI G ar 4 rF, aI G ac 4 cF, aI G at_ 40 f1] H := va_P.sub hP [3, 4, 5, 6, 7, 0, 1, 2] rfl
                  have hD : va_D A [oC x 8 [.ref ak, .ref am, .ref ao, .ref av, .ref ap, .ref ax, .ref ay, .int (nI ec), .ref ad, .ref an, .ref ab, .int (nI vn), .ref ar, .ref ac, .int us, .int ro, .int pr, .ref at_, .int (nI tn), .ref as_, .int (nI sn), .ref aq, .int (nI qn), .int wa, .int (nI hp), .long nm, .int (nI ns), .int (zI la), .int (zI sl)], aI G ap 40 pF, aI G ad 80 dF, aJ G an 80 nF, aI G ab 80 bF, aI G ar 4 rF, aI G ac 4 cF, aI G at_ 40 f1] := va_D.sub hD [3, 4, 5, 6, 7, 0, 1, 2] (by decide) rfl
                  refine kTopL (y := lN (nvD bF dF pF ec NV (grdR rF cF vn 5 (X k2)))) (nvD_eq hNV).1 ?_
                  refine lv_lstore (lv' := [(4, .long (lN (nvD bF dF pF ec NV (grdR rF cF vn 5 (X k2))))), (3, .int (X k2)), (2, .int (nI p1)), (1, .int (nI al)), (0, .ref x)]) hF.1 hF.2.1 dX8_path_111 hl (by decide) rfl (fun ls hl => ?_)
                  have loop_113 : ∀ (n_113 : Nat) (j p2 w1 : Nat) (g1 : Nat → Int32), 6 - j < n_113 → (j ≤ 6 ∧ w1 < 128 ^ (6 - j)) → (chN (6 - j) w1 + 1 ≤ p2 ∧ p2 ≤ 40) → (wrN (6 - j) p2 w1 g1 = wrN 6 p1 (nvD bF dF pF ec NV (grdR rF cF vn 5 (X k2))) f1) → (p2 = chN (6 - j) w1 + (p1 - chN 6 (nvD bF dF pF ec NV (grdR rF cF vn 5 (X k2))))) → ∀ (H : Heap) (locs : List Loc) (ls : Array Slot), PG G [oC x 8 [.ref ak, .ref am, .ref ao, .ref av, .ref ap, .ref ax, .ref ay, .int (nI ec), .ref ad, .ref an, .ref ab, .int (nI vn), .ref ar, .ref ac, .int us, .int ro, .int pr, .ref at_, .int (nI tn), .ref as_, .int (nI sn), .ref aq, .int (nI qn), .int wa, .int (nI hp), .long nm, .int (nI ns), .int (zI la), .int (zI sl)], aI G ap 40 pF, aI G ad 80 dF, aJ G an 80 nF, aI G ab 80 bF, aI G ar 4 rF, aI G ac 4 cF, aI G at_ 40 g1] H → va_D A [oC x 8 [.ref ak, .ref am, .ref ao, .ref av, .ref ap, .ref ax, .ref ay, .int (nI ec), .ref ad, .ref an, .ref ab, .int (nI vn), .ref ar, .ref ac, .int us, .int ro, .int pr, .ref at_, .int (nI tn), .ref as_, .int (nI sn), .ref aq, .int (nI qn), .int wa, .int (nI hp), .long nm, .int (nI ns), .int (zI la), .int (zI sl)], aI G ap 40 pF, aI G ad 80 dF, aJ G an 80 nF, aI G ab 80 bF, aI G ar 4 rF, aI G ac 4 cF, aI G at_ 40 g1] → va_S A s.heap H locs → lv_has ls 6 [(4, .long (lN w1)), (3, .int (X k2)), (2, .int (nI p2)), (1, .int (nI al)), (0, .ref x)] → W p l e (Rm 3 0 0 68) s m args below meth c H locs 0 0 Q (F0 m 113 ls []) := by
                    intro n_113
                    induction n_113 with
                    | zero => intro j p2 w1 g1 hm; exact absurd hm (Nat.not_lt_zero _)
                    | succ n_113 ih_113 =>
                      intro j p2 w1 g1 hm_113 hb hp2 hwr hpj H locs ls hP hD hS hl
                      refine lv_lload hF.1 hF.2.1 dX8_path_113 (lv_at hl 0 rfl) ?_
                      refine lv_lconst (v := lN 0) hF.1 hF.2.1 dX8_path_115 (by decide) ?_
                      refine W.lcmp hF.1 hF.2.1 dX8_path_116 ?_
                      refine kIfLeC (tgt := 147) hF dX8_path_117 (by decide) (fun c_7 => ?_) (fun c_7 => ?_)
                      · have c_7 := (lN_le0 (lt128 hb.2)).1 c_7
                        have hw3 : (p2, g1) = wrN 6 p1 (nvD bF dF pF ec NV (grdR rF cF vn 5 (X k2))) f1 := by rw [← hwr, c_7, wrN_0]
                        have hc0 : chN (6 - j) w1 = 0 := by rw [c_7, chN_0]
                        refine lv_iload_n hF.1 hF.2.1 dX8_path_147 rfl (lv_at hl 2 rfl) ?_
                        refine lv_iconst (v := (nI 1)) hF.1 hF.2.1 dX8_path_148 (by decide) ?_
                        refine lv_isub hF.1 hF.2.1 dX8_path_149 ?_
                        refine kTop (y := (nI (p2 - 1))) (pk_sub (by omega)) ?_
                        refine lv_istore_n (lv' := [(2, .int (nI (p2 - 1))), (4, .long (lN w1)), (3, .int (X k2)), (1, .int (nI al)), (0, .ref x)]) hF.1 hF.2.1 dX8_path_150 rfl hl (by decide) rfl (fun ls hl => ?_)
                        refine lv_aload_n hF.1 hF.2.1 dX8_path_151 rfl (lv_at hl 4 rfl) ?_
                        refine kGet (C := RX8) (T := TX8) (N := 29) (index := 51) hF hK hP (inT inBX8) 0 rfl rfl 17 (by decide) rfl (List.mem_cons_of_mem _ mF_X8_51) rfl dX8_path_152 ?_
                        refine lv_iload_n hF.1 hF.2.1 dX8_path_155 rfl (lv_at hl 0 rfl) ?_
                        refine lv_bipush (v := (nI 47)) hF.1 hF.2.1 dX8_path_156 (by decide) ?_
                        refine kIastN hF hK hP hD hS 7 rfl (by omega) (by decide) dX8_path_158 (fun H locs hP hD hS => ?_)
                        have hP : PG G [oC x 8 [.ref ak, .ref am, .ref ao, .ref av, .ref ap, .ref ax, .ref ay, .int (nI ec), .ref ad, .ref an, .ref ab, .int (nI vn), .ref ar, .ref ac, .int us, .int ro, .int pr, .ref at_, .int (nI tn), .ref as_, .int (nI sn), .ref aq, .int (nI qn), .int wa, .int (nI hp), .long nm, .int (nI ns), .int (zI la), .int (zI sl)], aI G ap 40 pF, aI G ad 80 dF, aJ G an 80 nF, aI G ab 80 bF, aI G ar 4 rF, aI G ac 4 cF, aI G at_ 40 (upd g1 (p2 - 1) (nI 47))] H := hP
                        have hD : va_D A [oC x 8 [.ref ak, .ref am, .ref ao, .ref av, .ref ap, .ref ax, .ref ay, .int (nI ec), .ref ad, .ref an, .ref ab, .int (nI vn), .ref ar, .ref ac, .int us, .int ro, .int pr, .ref at_, .int (nI tn), .ref as_, .int (nI sn), .ref aq, .int (nI qn), .int wa, .int (nI hp), .long nm, .int (nI ns), .int (zI la), .int (zI sl)], aI G ap 40 pF, aI G ad 80 dF, aJ G an 80 nF, aI G ab 80 bF, aI G ar 4 rF, aI G ac 4 cF, aI G at_ 40 (upd g1 (p2 - 1) (nI 47))] := hD
                        refine lv_aload_n hF.1 hF.2.1 dX8_path_159 rfl (lv_at hl 4 rfl) ?_
                        refine lv_iload_n hF.1 hF.2.1 dX8_path_160 rfl (lv_at hl 2 rfl) ?_
                        refine lv_aload_n hF.1 hF.2.1 dX8_path_161 rfl (lv_at hl 4 rfl) ?_
                        refine kGet (C := RX8) (T := TX8) (N := 29) (index := 108) hF hK hP (inT inBX8) 0 rfl rfl 15 (by decide) rfl (List.mem_cons_of_mem _ mF_X8_108) rfl dX8_path_162 ?_
                        refine kCallI (wr := [aI G ad 80 dF, aJ G an 80 nF, aI G ab 80 bF, aI G at_ 40 (upd g1 (p2 - 1) (nI 47))]) (va_runV (As := [.int (X k2), .int ro]) (rest := []) hF (c_X8_above l G H.size x ak am ao av ap ax ay ad an ab ar ac at_ as_ aq ec vn tn sn qn hp ns us ro pr wa nm la sl pF rF cF (X k2) ro (by first | assumption | omega) (by first | assumption | omega) (hXi _ (by omega))) (cwVB 2 hF rfl mL_X8_126 mI_X8_above mS_X8_above mN_X8 mC_X8_above rfl hd_X8_above rfl rfl ⟨Nat.le_of_ble_eq_true rfl, Nat.le_of_ble_eq_true rfl⟩) (kPre hK hP hD [0, 1, 5, 6] (by decide) rfl (q0 := 0) (ci := 8) rfl rfl rfl) rfl rfl hl.1 rfl (lv_room (Nat.le_of_ble_eq_true rfl)) dX8_path_165 ⟨Nat.le_of_ble_eq_true rfl, Nat.le_of_ble_eq_true rfl⟩) hP hD hS hA [0, 1, 5, 6] [2, 3, 4, 7] rfl rfl (by decide) (by decide) (fun r u H locs hw_8 hP hD hS => ?_)
                        have hw_8 := hw_8.symm
                        subst hw_8
                        have hP : PG G [oC x 8 [.ref ak, .ref am, .ref ao, .ref av, .ref ap, .ref ax, .ref ay, .int (nI ec), .ref ad, .ref an, .ref ab, .int (nI vn), .ref ar, .ref ac, .int us, .int ro, .int pr, .ref at_, .int (nI tn), .ref as_, .int (nI sn), .ref aq, .int (nI qn), .int wa, .int (nI hp), .long nm, .int (nI ns), .int (zI la), .int (zI sl)], aI G ap 40 pF, aI G ad 80 dF, aJ G an 80 nF, aI G ab 80 bF, aI G ar 4 rF, aI G ac 4 cF, aI G at_ 40 (upd g1 (p2 - 1) (nI 47))] H := va_P.sub hP [4, 5, 0, 1, 2, 6, 7, 3] rfl
                        have hD : va_D A [oC x 8 [.ref ak, .ref am, .ref ao, .ref av, .ref ap, .ref ax, .ref ay, .int (nI ec), .ref ad, .ref an, .ref ab, .int (nI vn), .ref ar, .ref ac, .int us, .int ro, .int pr, .ref at_, .int (nI tn), .ref as_, .int (nI sn), .ref aq, .int (nI qn), .int wa, .int (nI hp), .long nm, .int (nI ns), .int (zI la), .int (zI sl)], aI G ap 40 pF, aI G ad 80 dF, aJ G an 80 nF, aI G ab 80 bF, aI G ar 4 rF, aI G ac 4 cF, aI G at_ 40 (upd g1 (p2 - 1) (nI 47))] := va_D.sub hD [4, 5, 0, 1, 2, 6, 7, 3] (by decide) rfl
                        refine kTop (y := X (k2 + 1)) (hXs k2 (by omega)).symm ?_
                        refine lv_istore_n (lv' := [(3, .int (X (k2 + 1))), (2, .int (nI (p2 - 1))), (4, .long (lN w1)), (1, .int (nI al)), (0, .ref x)]) hF.1 hF.2.1 dX8_path_168 rfl hl (by decide) rfl (fun ls hl => ?_)
                        refine lv_goto (tgt := 94) hF.1 hF.2.1 dX8_path_169 (by decide) ?_
                        exact ih_94 (k2 + 1) (p2 - 1) (upd g1 (p2 - 1) (nI 47)) (by omega) (by omega) (by show _ = ((wrN 6 (pwR (fun k => nvD bF dF pF ec NV (grdR rF cF vn 5 (X k))) al tF k2).1 _ (pwR (fun k => nvD bF dF pF ec NV (grdR rF cF vn 5 (X k))) al tF k2).2).1 - 1, _); rw [← hpf]; dsimp only; rw [← hw3]) (by have e1 : sP (chV (fun k => nvD bF dF pF ec NV (grdR rF cF vn 5 (X k)))) (k2 + 1) = sP (chV (fun k => nvD bF dF pF ec NV (grdR rF cF vn 5 (X k)))) k2 + 1 + chN 6 (nvD bF dF pF ec NV (grdR rF cF vn 5 (X k2))) := rfl; omega) H locs ls hP hD hS (lv_sub hl [0, 1, 3, 4] rfl)
                      · have c_7 : 0 < w1 := Nat.pos_of_ne_zero (fun h => c_7 ((lN_le0 (lt128 hb.2)).2 h))
                        have hdv := dv128 hb.1 hb.2 c_7
                        refine lv_iload_n hF.1 hF.2.1 dX8_path_120 rfl (lv_at hl 2 rfl) ?_
                        refine lv_iconst (v := (nI 1)) hF.1 hF.2.1 dX8_path_121 (by decide) ?_
                        refine lv_isub hF.1 hF.2.1 dX8_path_122 ?_
                        refine kTop (y := (nI (p2 - 1))) (pk_sub (by omega)) ?_
                        refine lv_istore_n (lv' := [(2, .int (nI (p2 - 1))), (4, .long (lN w1)), (3, .int (X k2)), (1, .int (nI al)), (0, .ref x)]) hF.1 hF.2.1 dX8_path_123 rfl hl (by decide) rfl (fun ls hl => ?_)
                        refine lv_aload_n hF.1 hF.2.1 dX8_path_124 rfl (lv_at hl 4 rfl) ?_
                        refine kGet (C := RX8) (T := TX8) (N := 29) (index := 51) hF hK hP (inT inBX8) 0 rfl rfl 17 (by decide) rfl (List.mem_cons_of_mem _ mF_X8_51) rfl dX8_path_125 ?_
                        refine lv_iload_n hF.1 hF.2.1 dX8_path_128 rfl (lv_at hl 0 rfl) ?_
                        refine lv_lload hF.1 hF.2.1 dX8_path_129 (lv_at hl 1 rfl) ?_
                        refine lv_ldc2 (v := lN 127) hF.1 hF.2.1 hF.2.2.2.1 (hF.2.2.2.2 _ (List.mem_cons_of_mem _ mG_X8_197)) dX8_path_131 ?_
                        refine lv_land hF.1 hF.2.1 dX8_path_134 ?_
                        refine lv_l2i hF.1 hF.2.1 dX8_path_135 rfl ?_
                        refine kTop (y := nI (w1 % 128)) (land127 (lt128 hb.2)) ?_
                        refine kIastN hF hK hP hD hS 7 rfl (by omega) (by decide) dX8_path_136 (fun H locs hP hD hS => ?_)
                        have hP : PG G [oC x 8 [.ref ak, .ref am, .ref ao, .ref av, .ref ap, .ref ax, .ref ay, .int (nI ec), .ref ad, .ref an, .ref ab, .int (nI vn), .ref ar, .ref ac, .int us, .int ro, .int pr, .ref at_, .int (nI tn), .ref as_, .int (nI sn), .ref aq, .int (nI qn), .int wa, .int (nI hp), .long nm, .int (nI ns), .int (zI la), .int (zI sl)], aI G ap 40 pF, aI G ad 80 dF, aJ G an 80 nF, aI G ab 80 bF, aI G ar 4 rF, aI G ac 4 cF, aI G at_ 40 (upd g1 (p2 - 1) (nI (w1 % 128)))] H := hP
                        have hD : va_D A [oC x 8 [.ref ak, .ref am, .ref ao, .ref av, .ref ap, .ref ax, .ref ay, .int (nI ec), .ref ad, .ref an, .ref ab, .int (nI vn), .ref ar, .ref ac, .int us, .int ro, .int pr, .ref at_, .int (nI tn), .ref as_, .int (nI sn), .ref aq, .int (nI qn), .int wa, .int (nI hp), .long nm, .int (nI ns), .int (zI la), .int (zI sl)], aI G ap 40 pF, aI G ad 80 dF, aJ G an 80 nF, aI G ab 80 bF, aI G ar 4 rF, aI G ac 4 cF, aI G at_ 40 (upd g1 (p2 - 1) (nI (w1 % 128)))] := hD
                        refine lv_lload hF.1 hF.2.1 dX8_path_137 (lv_at hl 1 rfl) ?_
                        refine lv_bipush (v := (nI 7)) hF.1 hF.2.1 dX8_path_139 (by decide) ?_
                        refine lv_lshr hF.1 hF.2.1 dX8_path_141 rfl ?_
                        refine kTopL (y := lN (w1 / 128)) (lshr7 (lt128 hb.2)) ?_
                        refine lv_lstore (lv' := [(4, .long (lN (w1 / 128))), (2, .int (nI (p2 - 1))), (3, .int (X k2)), (1, .int (nI al)), (0, .ref x)]) hF.1 hF.2.1 dX8_path_142 hl (by decide) rfl (fun ls hl => ?_)
                        refine lv_goto (tgt := 113) hF.1 hF.2.1 dX8_path_144 (by decide) ?_
                        exact ih_113 (j + 1) (p2 - 1) (w1 / 128) (upd g1 (p2 - 1) (nI (w1 % 128))) (by omega) (⟨by omega, hdv.2⟩) (by have := chN_s hdv.1 (show 0 < w1 by omega); omega) (by rw [← hwr]; exact (wrN_s hdv.1 (by omega)).symm) (by have := chN_s hdv.1 (show 0 < w1 by omega); omega) H locs ls hP hD hS (lv_sub hl [0, 2, 1, 3, 4] rfl)
                  exact loop_113 _ 0 p1 (nvD bF dF pF ec NV (grdR rF cF vn 5 (X k2))) f1 (Nat.lt_succ_self _) (⟨by omega, (nvD_eq hNV).2⟩) (by rw [Nat.sub_zero]; omega) (rfl) (by rw [Nat.sub_zero]; omega) _ _ _ hP hD hS (lv_sub hl [0, 1, 2, 3, 4] rfl)
            exact loop_94 _ 0 al tF (Nat.lt_succ_self _) (by omega) (rfl) (rfl) _ _ _ hP hD hS (lv_sub hl [0, 1, 2, 3] rfl)
          · refine lv_bipush (v := (-5)) hF.1 hF.2.1 dX8_path_84 (by decide) ?_
            refine kRetI (v := (-5)) hF hr hlk hK hP hD hS hQ rfl ((-5), tn, tF) [0, 1, 2, 3, 4, 5, 6, 7] (by decide) rfl (Nat.le_of_ble_eq_true rfl) (Nat.le_of_ble_eq_true rfl) dX8_path_86 ?_
            refine ⟨rfl, ?_⟩
            rw [ptR, if_neg hn0, if_pos (by rw [← hkn, ← hal]; omega)]
        · have hkn : k < nn := Nat.lt_of_le_of_ne hk (fun h => c_2 (by rw [h]; exact hXn))
          have hsk1 : sP (chV (fun k => nvD bF dF pF ec NV (grdR rF cF vn 5 (X k)))) (k + 1) = sP (chV (fun k => nvD bF dF pF ec NV (grdR rF cF vn 5 (X k)))) k + 1 + chN 6 (nvD bF dF pF ec NV (grdR rF cF vn 5 (X k))) := rfl
          refine lv_iload_n hF.1 hF.2.1 dX8_path_41 rfl (lv_at hl 1 rfl) ?_
          refine lv_sipush (v := (nI 1000)) hF.1 hF.2.1 dX8_path_42 (by decide) ?_
          refine kGeN (tgt := 78) hF dX8_path_45 (by decide) (by omega) (by omega) (fun c_9 => ?_) (fun c_9 => ?_)
          · exfalso; omega
          · refine lv_iload_n hF.1 hF.2.1 dX8_path_48 rfl (lv_at hl 1 rfl) ?_
            refine lv_iconst (v := (nI 1)) hF.1 hF.2.1 dX8_path_49 (by decide) ?_
            refine lv_iadd hF.1 hF.2.1 dX8_path_50 ?_
            refine kTop (y := (nI (al + 1))) (nI_add _ _) ?_
            refine lv_aload_n hF.1 hF.2.1 dX8_path_51 rfl (lv_at hl 2 rfl) ?_
            refine lv_aload_n hF.1 hF.2.1 dX8_path_52 rfl (lv_at hl 2 rfl) ?_
            refine lv_iload_n hF.1 hF.2.1 dX8_path_53 rfl (lv_at hl 0 rfl) ?_
            refine kCallI (wr := [aI G ap 40 pF, aI G ad 80 dF, aJ G an 80 nF, aI G ab 80 bF, aI G at_ 40 tF]) (va_runV (As := [.int (X k)]) (rest := [.ref x, .int (nI (al + 1))]) hF (c_X8_seat l G _ x ak am ao av ap ax ay ad an ab ar ac at_ as_ aq ec vn tn sn qn hp ns us ro pr wa nm la sl rF cF (X k) (by first | assumption | omega)) (cwVB 1 hF rfl mL_X8_76 mI_X8_seat mS_X8_seat mN_X8 mC_X8_seat rfl hd_X8_seat rfl rfl ⟨Nat.le_of_ble_eq_true rfl, Nat.le_of_ble_eq_true rfl⟩) (kPre hK hP hD [0, 5, 6] (by decide) rfl (q0 := 0) (ci := 8) rfl rfl rfl) rfl rfl hl.1 rfl (lv_room (Nat.le_of_ble_eq_true rfl)) dX8_path_54 ⟨Nat.le_of_ble_eq_true rfl, Nat.le_of_ble_eq_true rfl⟩) hP hD hS hA [0, 5, 6] [1, 2, 3, 4, 7] rfl rfl (by decide) (by decide) (fun r u H locs hw_10 hP hD hS => ?_)
            have hw_10 := hw_10.symm
            subst hw_10
            have hP : PG G [oC x 8 [.ref ak, .ref am, .ref ao, .ref av, .ref ap, .ref ax, .ref ay, .int (nI ec), .ref ad, .ref an, .ref ab, .int (nI vn), .ref ar, .ref ac, .int us, .int ro, .int pr, .ref at_, .int (nI tn), .ref as_, .int (nI sn), .ref aq, .int (nI qn), .int wa, .int (nI hp), .long nm, .int (nI ns), .int (zI la), .int (zI sl)], aI G ap 40 pF, aI G ad 80 dF, aJ G an 80 nF, aI G ab 80 bF, aI G ar 4 rF, aI G ac 4 cF, aI G at_ 40 tF] H := va_P.sub hP [5, 0, 1, 2, 3, 6, 7, 4] rfl
            have hD : va_D A [oC x 8 [.ref ak, .ref am, .ref ao, .ref av, .ref ap, .ref ax, .ref ay, .int (nI ec), .ref ad, .ref an, .ref ab, .int (nI vn), .ref ar, .ref ac, .int us, .int ro, .int pr, .ref at_, .int (nI tn), .ref as_, .int (nI sn), .ref aq, .int (nI qn), .int wa, .int (nI hp), .long nm, .int (nI ns), .int (zI la), .int (zI sl)], aI G ap 40 pF, aI G ad 80 dF, aJ G an 80 nF, aI G ab 80 bF, aI G ar 4 rF, aI G ac 4 cF, aI G at_ 40 tF] := va_D.sub hD [5, 0, 1, 2, 3, 6, 7, 4] (by decide) rfl
            refine kCallL (wr := [aI G ar 4 rF, aI G ac 4 cF, aI G at_ 40 tF]) (va_runV (As := [.int (grdR rF cF vn 5 (X k))]) (rest := [.int (nI (al + 1))]) hF (c_X8_nameOf l G H.size x ak am ao av ap ax ay ad an ab ar ac at_ as_ aq ec vn tn sn qn hp ns us ro pr wa nm la sl pF dF nF bF (grdR rF cF vn 5 (X k)) (by first | assumption | omega) (grdR_in hvn hcr 5 _ (hXi _ (by omega)))) (cwVB 1 hF rfl mL_X8_189 mI_X8_nameOf mS_X8_nameOf mN_X8 mC_X8_nameOf rfl hd_X8_nameOf rfl rfl ⟨Nat.le_of_ble_eq_true rfl, Nat.le_of_ble_eq_true rfl⟩) (kPre hK hP hD [0, 1, 2, 3, 4] (by decide) rfl (q0 := 0) (ci := 8) rfl rfl rfl) rfl rfl hl.1 rfl (lv_room (Nat.le_of_ble_eq_true rfl)) dX8_path_57 ⟨Nat.le_of_ble_eq_true rfl, Nat.le_of_ble_eq_true rfl⟩) hP hD hS hA [0, 1, 2, 3, 4] [5, 6, 7] rfl rfl (by decide) (by decide) (fun r u H locs hw_11 hP hD hS => ?_)
            have hw_11 := hw_11.symm
            subst hw_11
            have hP : PG G [oC x 8 [.ref ak, .ref am, .ref ao, .ref av, .ref ap, .ref ax, .ref ay, .int (nI ec), .ref ad, .ref an, .ref ab, .int (nI vn), .ref ar, .ref ac, .int us, .int ro, .int pr, .ref at_, .int (nI tn), .ref as_, .int (nI sn), .ref aq, .int (nI qn), .int wa, .int (nI hp), .long nm, .int (nI ns), .int (zI la), .int (zI sl)], aI G ap 40 pF, aI G ad 80 dF, aJ G an 80 nF, aI G ab 80 bF, aI G ar 4 rF, aI G ac 4 cF, aI G at_ 40 tF] H := va_P.sub hP [3, 4, 5, 6, 7, 0, 1, 2] rfl
            have hD : va_D A [oC x 8 [.ref ak, .ref am, .ref ao, .ref av, .ref ap, .ref ax, .ref ay, .int (nI ec), .ref ad, .ref an, .ref ab, .int (nI vn), .ref ar, .ref ac, .int us, .int ro, .int pr, .ref at_, .int (nI tn), .ref as_, .int (nI sn), .ref aq, .int (nI qn), .int wa, .int (nI hp), .long nm, .int (nI ns), .int (zI la), .int (zI sl)], aI G ap 40 pF, aI G ad 80 dF, aJ G an 80 nF, aI G ab 80 bF, aI G ar 4 rF, aI G ac 4 cF, aI G at_ 40 tF] := va_D.sub hD [3, 4, 5, 6, 7, 0, 1, 2] (by decide) rfl
            refine kTopL (y := lN (nvD bF dF pF ec NV (grdR rF cF vn 5 (X k)))) (nvD_eq hNV).1 ?_
            refine kCallI (wr := [oC x 8 [.ref ak, .ref am, .ref ao, .ref av, .ref ap, .ref ax, .ref ay, .int (nI ec), .ref ad, .ref an, .ref ab, .int (nI vn), .ref ar, .ref ac, .int us, .int ro, .int pr, .ref at_, .int (nI tn), .ref as_, .int (nI sn), .ref aq, .int (nI qn), .int wa, .int (nI hp), .long nm, .int (nI ns), .int (zI la), .int (zI sl)], aI G ap 40 pF, aI G ad 80 dF, aJ G an 80 nF, aI G ab 80 bF, aI G ar 4 rF, aI G ac 4 cF, aI G at_ 40 tF]) (va_runS (As := [.long (lN (nvD bF dF pF ec NV (grdR rF cF vn 5 (X k))))]) (rest := [.int (nI (al + 1))]) hF (c_X8_characters l G H.size (nvD bF dF pF ec NV (grdR rF cF vn 5 (X k))) ((nvD_eq hNV).2)) (cwSB 1 hF rfl mL_X8_193 mT_X8_characters mN_X8 mC_X8_characters hd_X8_characters rfl rfl ⟨Nat.le_of_ble_eq_true rfl, Nat.le_of_ble_eq_true rfl⟩) (kPreS hK hP hD [] (by decide) rfl) rfl rfl hl.1 rfl (lv_room (Nat.le_of_ble_eq_true rfl)) dX8_path_60 ⟨Nat.le_of_ble_eq_true rfl, Nat.le_of_ble_eq_true rfl⟩) hP hD hS hA [] [0, 1, 2, 3, 4, 5, 6, 7] rfl rfl (by decide) (by decide) (fun r u H locs hw_12 hP hD hS => ?_)
            have hw_12 := hw_12.symm
            subst hw_12
            have hP : PG G [oC x 8 [.ref ak, .ref am, .ref ao, .ref av, .ref ap, .ref ax, .ref ay, .int (nI ec), .ref ad, .ref an, .ref ab, .int (nI vn), .ref ar, .ref ac, .int us, .int ro, .int pr, .ref at_, .int (nI tn), .ref as_, .int (nI sn), .ref aq, .int (nI qn), .int wa, .int (nI hp), .long nm, .int (nI ns), .int (zI la), .int (zI sl)], aI G ap 40 pF, aI G ad 80 dF, aJ G an 80 nF, aI G ab 80 bF, aI G ar 4 rF, aI G ac 4 cF, aI G at_ 40 tF] H := hP
            have hD : va_D A [oC x 8 [.ref ak, .ref am, .ref ao, .ref av, .ref ap, .ref ax, .ref ay, .int (nI ec), .ref ad, .ref an, .ref ab, .int (nI vn), .ref ar, .ref ac, .int us, .int ro, .int pr, .ref at_, .int (nI tn), .ref as_, .int (nI sn), .ref aq, .int (nI qn), .int wa, .int (nI hp), .long nm, .int (nI ns), .int (zI la), .int (zI sl)], aI G ap 40 pF, aI G ad 80 dF, aJ G an 80 nF, aI G ab 80 bF, aI G ar 4 rF, aI G ac 4 cF, aI G at_ 40 tF] := hD
            have hfc_13 := chN_le 6 (nvD bF dF pF ec NV (grdR rF cF vn 5 (X k)))
            refine lv_iadd hF.1 hF.2.1 dX8_path_63 ?_
            refine kTop (y := (nI ((al + 1) + (chN 6 (nvD bF dF pF ec NV (grdR rF cF vn 5 (X k))))))) (nI_add _ _) ?_
            refine lv_istore_n (lv' := [(1, .int (nI ((al + 1) + (chN 6 (nvD bF dF pF ec NV (grdR rF cF vn 5 (X k))))))), (2, .int (X k)), (0, .ref x)]) hF.1 hF.2.1 dX8_path_64 rfl hl (by decide) rfl (fun ls hl => ?_)
            refine lv_aload_n hF.1 hF.2.1 dX8_path_65 rfl (lv_at hl 2 rfl) ?_
            refine lv_iload_n hF.1 hF.2.1 dX8_path_66 rfl (lv_at hl 1 rfl) ?_
            refine lv_aload_n hF.1 hF.2.1 dX8_path_67 rfl (lv_at hl 2 rfl) ?_
            refine kGet (C := RX8) (T := TX8) (N := 29) (index := 108) hF hK hP (inT inBX8) 0 rfl rfl 15 (by decide) rfl (List.mem_cons_of_mem _ mF_X8_108) rfl dX8_path_68 ?_
            refine kCallI (wr := [aI G ad 80 dF, aJ G an 80 nF, aI G ab 80 bF, aI G at_ 40 tF]) (va_runV (As := [.int (X k), .int ro]) (rest := []) hF (c_X8_above l G H.size x ak am ao av ap ax ay ad an ab ar ac at_ as_ aq ec vn tn sn qn hp ns us ro pr wa nm la sl pF rF cF (X k) ro (by first | assumption | omega) (by first | assumption | omega) (hXi _ (by omega))) (cwVB 2 hF rfl mL_X8_126 mI_X8_above mS_X8_above mN_X8 mC_X8_above rfl hd_X8_above rfl rfl ⟨Nat.le_of_ble_eq_true rfl, Nat.le_of_ble_eq_true rfl⟩) (kPre hK hP hD [0, 1, 5, 6] (by decide) rfl (q0 := 0) (ci := 8) rfl rfl rfl) rfl rfl hl.1 rfl (lv_room (Nat.le_of_ble_eq_true rfl)) dX8_path_71 ⟨Nat.le_of_ble_eq_true rfl, Nat.le_of_ble_eq_true rfl⟩) hP hD hS hA [0, 1, 5, 6] [2, 3, 4, 7] rfl rfl (by decide) (by decide) (fun r u H locs hw_14 hP hD hS => ?_)
            have hw_14 := hw_14.symm
            subst hw_14
            have hP : PG G [oC x 8 [.ref ak, .ref am, .ref ao, .ref av, .ref ap, .ref ax, .ref ay, .int (nI ec), .ref ad, .ref an, .ref ab, .int (nI vn), .ref ar, .ref ac, .int us, .int ro, .int pr, .ref at_, .int (nI tn), .ref as_, .int (nI sn), .ref aq, .int (nI qn), .int wa, .int (nI hp), .long nm, .int (nI ns), .int (zI la), .int (zI sl)], aI G ap 40 pF, aI G ad 80 dF, aJ G an 80 nF, aI G ab 80 bF, aI G ar 4 rF, aI G ac 4 cF, aI G at_ 40 tF] H := va_P.sub hP [4, 5, 0, 1, 2, 6, 7, 3] rfl
            have hD : va_D A [oC x 8 [.ref ak, .ref am, .ref ao, .ref av, .ref ap, .ref ax, .ref ay, .int (nI ec), .ref ad, .ref an, .ref ab, .int (nI vn), .ref ar, .ref ac, .int us, .int ro, .int pr, .ref at_, .int (nI tn), .ref as_, .int (nI sn), .ref aq, .int (nI qn), .int wa, .int (nI hp), .long nm, .int (nI ns), .int (zI la), .int (zI sl)], aI G ap 40 pF, aI G ad 80 dF, aJ G an 80 nF, aI G ab 80 bF, aI G ar 4 rF, aI G ac 4 cF, aI G at_ 40 tF] := va_D.sub hD [4, 5, 0, 1, 2, 6, 7, 3] (by decide) rfl
            refine kTop (y := X (k + 1)) (hXs k (by omega)).symm ?_
            refine lv_istore_n (lv' := [(2, .int (X (k + 1))), (1, .int (nI ((al + 1) + (chN 6 (nvD bF dF pF ec NV (grdR rF cF vn 5 (X k))))))), (0, .ref x)]) hF.1 hF.2.1 dX8_path_74 rfl hl (by decide) rfl (fun ls hl => ?_)
            refine lv_goto (tgt := 33) hF.1 hF.2.1 dX8_path_75 (by decide) ?_
            exact ih_33 (k + 1) ((al + 1) + (chN 6 (nvD bF dF pF ec NV (grdR rF cF vn 5 (X k))))) (by omega) (by omega) (by rw [hal]; rfl) H locs ls hP hD hS (lv_sub hl [0, 1, 2] rfl)
    exact loop_33 _ 0 0 (Nat.lt_succ_self _) (by omega) (rfl) _ _ _ hP hD hS (lv_sub hl [0, 1, 2] rfl)
  · have hn0 : nn = 0 := Nat.eq_zero_of_not_pos (fun h => hXr 0 h (by rw [hX0]; exact c_1))
    refine lv_aload_n hF.1 hF.2.1 dX8_path_11 rfl (lv_at hl 0 rfl) ?_
    refine kGet (C := RX8) (T := TX8) (N := 29) (index := 51) hF hK hP (inT inBX8) 0 rfl rfl 17 (by decide) rfl (List.mem_cons_of_mem _ mF_X8_51) rfl dX8_path_12 ?_
    refine lv_iconst (v := (nI 0)) hF.1 hF.2.1 dX8_path_15 (by decide) ?_
    refine lv_bipush (v := (nI 47)) hF.1 hF.2.1 dX8_path_16 (by decide) ?_
    refine kIastN hF hK hP hD hS 7 rfl (by omega) (by decide) dX8_path_18 (fun H locs hP hD hS => ?_)
    have hP : PG G [oC x 8 [.ref ak, .ref am, .ref ao, .ref av, .ref ap, .ref ax, .ref ay, .int (nI ec), .ref ad, .ref an, .ref ab, .int (nI vn), .ref ar, .ref ac, .int us, .int ro, .int pr, .ref at_, .int (nI tn), .ref as_, .int (nI sn), .ref aq, .int (nI qn), .int wa, .int (nI hp), .long nm, .int (nI ns), .int (zI la), .int (zI sl)], aI G ap 40 pF, aI G ad 80 dF, aJ G an 80 nF, aI G ab 80 bF, aI G ar 4 rF, aI G ac 4 cF, aI G at_ 40 (upd tF 0 (nI 47))] H := hP
    have hD : va_D A [oC x 8 [.ref ak, .ref am, .ref ao, .ref av, .ref ap, .ref ax, .ref ay, .int (nI ec), .ref ad, .ref an, .ref ab, .int (nI vn), .ref ar, .ref ac, .int us, .int ro, .int pr, .ref at_, .int (nI tn), .ref as_, .int (nI sn), .ref aq, .int (nI qn), .int wa, .int (nI hp), .long nm, .int (nI ns), .int (zI la), .int (zI sl)], aI G ap 40 pF, aI G ad 80 dF, aJ G an 80 nF, aI G ab 80 bF, aI G ar 4 rF, aI G ac 4 cF, aI G at_ 40 (upd tF 0 (nI 47))] := hD
    refine lv_aload_n hF.1 hF.2.1 dX8_path_19 rfl (lv_at hl 0 rfl) ?_
    refine lv_iconst (v := (nI 1)) hF.1 hF.2.1 dX8_path_20 (by decide) ?_
    refine kPut (C := RX8) (T := TX8) (N := 29) (index := 60) (v := .int (nI 1)) hF hK hP hD hS (inT inBX8) tyX8_ok nmX8 0 rfl rfl 18 (by decide) rfl (List.mem_cons_of_mem _ mF_X8_60) rfl rfl rfl (Nat.le_of_ble_eq_true rfl) dX8_path_21 (fun H locs hP hD hS => ?_)
    have hP : PG G [oC x 8 [.ref ak, .ref am, .ref ao, .ref av, .ref ap, .ref ax, .ref ay, .int (nI ec), .ref ad, .ref an, .ref ab, .int (nI vn), .ref ar, .ref ac, .int us, .int ro, .int pr, .ref at_, .int (nI 1), .ref as_, .int (nI sn), .ref aq, .int (nI qn), .int wa, .int (nI hp), .long nm, .int (nI ns), .int (zI la), .int (zI sl)], aI G ap 40 pF, aI G ad 80 dF, aJ G an 80 nF, aI G ab 80 bF, aI G ar 4 rF, aI G ac 4 cF, aI G at_ 40 (upd tF 0 (nI 47))] H := hP
    have hD : va_D A [oC x 8 [.ref ak, .ref am, .ref ao, .ref av, .ref ap, .ref ax, .ref ay, .int (nI ec), .ref ad, .ref an, .ref ab, .int (nI vn), .ref ar, .ref ac, .int us, .int ro, .int pr, .ref at_, .int (nI 1), .ref as_, .int (nI sn), .ref aq, .int (nI qn), .int wa, .int (nI hp), .long nm, .int (nI ns), .int (zI la), .int (zI sl)], aI G ap 40 pF, aI G ad 80 dF, aJ G an 80 nF, aI G ab 80 bF, aI G ar 4 rF, aI G ac 4 cF, aI G at_ 40 (upd tF 0 (nI 47))] := hD
    refine lv_iconst (v := (nI 1)) hF.1 hF.2.1 dX8_path_24 (by decide) ?_
    refine kRetI (v := (nI 1)) hF hr hlk hK hP hD hS hQ rfl ((nI 1), 1, upd tF 0 (nI 47)) [0, 1, 2, 3, 4, 5, 6, 7] (by decide) rfl (Nat.le_of_ble_eq_true rfl) (Nat.le_of_ble_eq_true rfl) dX8_path_25 ?_
    exact ⟨rfl, (if_pos hn0).symm⟩
