set_option maxHeartbeats 4000000 in
set_option maxRecDepth 100000 in
theorem c_X8_wipe (l : Launch) (G : GG) (sz : Nat) (x : Nat) (ak : Nat) (am : Nat) (ao : Nat) (av : Nat) (ap : Nat) (ax : Nat) (ay : Nat) (ad : Nat) (an : Nat) (ab : Nat) (ar : Nat) (ac : Nat) (at_ : Nat) (as_ : Nat) (aq : Nat) (ec : Nat) (vn : Nat) (tn : Nat) (sn : Nat) (qn : Nat) (hp : Nat) (ns : Nat) (us : Int32) (ro : Int32) (pr : Int32) (wa : Int32) (nm : Int64) (la : Prop) (sl : Prop) : CtV l G yX8_wipe wsX8_wipe 0 0 0 0 sz [.ref x] [oC x 8 [.ref ak, .ref am, .ref ao, .ref av, .ref ap, .ref ax, .ref ay, .int (nI ec), .ref ad, .ref an, .ref ab, .int (nI vn), .ref ar, .ref ac, .int us, .int ro, .int pr, .ref at_, .int (nI tn), .ref as_, .int (nI sn), .ref aq, .int (nI qn), .int wa, .int (nI hp), .long nm, .int (nI ns), .int (zI la), .int (zI sl)]] (fun (_ : Unit) => True) (fun (_ : Unit) => [oC x 8 [.ref ak, .ref am, .ref ao, .ref av, .ref ap, .ref ax, .ref ay, .int (nI ec), .ref ad, .ref an, .ref ab, .int (nI vn), .ref ar, .ref ac, .int us, .int ro, .int pr, .ref at_, .int (nI 0), .ref as_, .int (nI sn), .ref aq, .int (nI qn), .int wa, .int (nI hp), .long nm, .int (nI ns), .int (zI la), .int (zI sl)]]) := by
  refine kMet (Qc := fun A => va_Qv _ (Bw G A _) A) (cc := cX8_wipe) (nL := 1) (ret := none) (by decide) rfl (Nat.le_of_ble_eq_true rfl) ?_
  intro p e s m args below meth c A Q hF hr hlk hnme hK hP hD hA hS hQ hsz ls hl
  have hl : lv_has ls 1 [(0, .ref x)] := hl
  refine lv_aload_n hF.1 hF.2.1 dX8_wipe_0 rfl (lv_at hl 0 rfl) ?_
  refine lv_iconst (v := (nI 0)) hF.1 hF.2.1 dX8_wipe_1 (by decide) ?_
  refine kPut (C := RX8) (T := TX8) (N := 29) (index := 60) (v := .int (nI 0)) hF hK hP hD hS (inT inBX8) tyX8_ok nmX8 0 rfl rfl 18 (by decide) rfl (List.mem_cons_of_mem _ mF_X8_60) rfl rfl rfl (Nat.le_of_ble_eq_true rfl) dX8_wipe_2 (fun H locs hP hD hS => ?_)
  have hP : PG G [oC x 8 [.ref ak, .ref am, .ref ao, .ref av, .ref ap, .ref ax, .ref ay, .int (nI ec), .ref ad, .ref an, .ref ab, .int (nI vn), .ref ar, .ref ac, .int us, .int ro, .int pr, .ref at_, .int (nI 0), .ref as_, .int (nI sn), .ref aq, .int (nI qn), .int wa, .int (nI hp), .long nm, .int (nI ns), .int (zI la), .int (zI sl)]] H := hP
  have hD : va_D A [oC x 8 [.ref ak, .ref am, .ref ao, .ref av, .ref ap, .ref ax, .ref ay, .int (nI ec), .ref ad, .ref an, .ref ab, .int (nI vn), .ref ar, .ref ac, .int us, .int ro, .int pr, .ref at_, .int (nI 0), .ref as_, .int (nI sn), .ref aq, .int (nI qn), .int wa, .int (nI hp), .long nm, .int (nI ns), .int (zI la), .int (zI sl)]] := hD
  refine kRetV hF hr hlk hK hP hD hS hQ () [0] (by decide) rfl (Nat.le_of_ble_eq_true rfl) (Nat.le_of_ble_eq_true rfl) dX8_wipe_5 ?_
  exact (by first | rfl | trivial | exact zI_1 (by first | assumption | omega) | exact zI_0 (by first | assumption | omega) | (simp_all; done))
set_option maxHeartbeats 4000000 in
set_option maxRecDepth 100000 in
theorem c_X8_length (l : Launch) (G : GG) (sz : Nat) (x : Nat) (ak : Nat) (am : Nat) (ao : Nat) (av : Nat) (ap : Nat) (ax : Nat) (ay : Nat) (ad : Nat) (an : Nat) (ab : Nat) (ar : Nat) (ac : Nat) (at_ : Nat) (as_ : Nat) (aq : Nat) (ec : Nat) (vn : Nat) (tn : Nat) (sn : Nat) (qn : Nat) (hp : Nat) (ns : Nat) (us : Int32) (ro : Int32) (pr : Int32) (wa : Int32) (nm : Int64) (la : Prop) (sl : Prop) : CtI l G yX8_length wsX8_length 0 0 0 0 sz [.ref x] [oC x 8 [.ref ak, .ref am, .ref ao, .ref av, .ref ap, .ref ax, .ref ay, .int (nI ec), .ref ad, .ref an, .ref ab, .int (nI vn), .ref ar, .ref ac, .int us, .int ro, .int pr, .ref at_, .int (nI tn), .ref as_, .int (nI sn), .ref aq, .int (nI qn), .int wa, .int (nI hp), .long nm, .int (nI ns), .int (zI la), .int (zI sl)]] (fun r (_ : Unit) => r = (nI tn)) (fun (_ : Unit) => [oC x 8 [.ref ak, .ref am, .ref ao, .ref av, .ref ap, .ref ax, .ref ay, .int (nI ec), .ref ad, .ref an, .ref ab, .int (nI vn), .ref ar, .ref ac, .int us, .int ro, .int pr, .ref at_, .int (nI tn), .ref as_, .int (nI sn), .ref aq, .int (nI qn), .int wa, .int (nI hp), .long nm, .int (nI ns), .int (zI la), .int (zI sl)]]) := by
  refine kMet (Qc := fun A => va_Qi _ (Bw G A _) A) (cc := cX8_length) (nL := 1) (ret := some (.int)) (by decide) rfl (Nat.le_of_ble_eq_true rfl) ?_
  intro p e s m args below meth c A Q hF hr hlk hnme hK hP hD hA hS hQ hsz ls hl
  have hl : lv_has ls 1 [(0, .ref x)] := hl
  refine lv_aload_n hF.1 hF.2.1 dX8_length_0 rfl (lv_at hl 0 rfl) ?_
  refine kGet (C := RX8) (T := TX8) (N := 29) (index := 60) hF hK hP (inT inBX8) 0 rfl rfl 18 (by decide) rfl (List.mem_cons_of_mem _ mF_X8_60) rfl dX8_length_1 ?_
  refine kRetI (v := (nI tn)) hF hr hlk hK hP hD hS hQ rfl () [0] (by decide) rfl (Nat.le_of_ble_eq_true rfl) (Nat.le_of_ble_eq_true rfl) dX8_length_4 ?_
  exact (by first | rfl | trivial | exact zI_1 (by first | assumption | omega) | exact zI_0 (by first | assumption | omega) | (simp_all; done))
set_option maxHeartbeats 4000000 in
set_option maxRecDepth 100000 in
theorem c_X8_keep (l : Launch) (G : GG) (sz : Nat) (x : Nat) (ak : Nat) (am : Nat) (ao : Nat) (av : Nat) (ap : Nat) (ax : Nat) (ay : Nat) (ad : Nat) (an : Nat) (ab : Nat) (ar : Nat) (ac : Nat) (at_ : Nat) (as_ : Nat) (aq : Nat) (ec : Nat) (vn : Nat) (tn : Nat) (sn : Nat) (qn : Nat) (hp : Nat) (ns : Nat) (us : Int32) (ro : Int32) (pr : Int32) (wa : Int32) (nm : Int64) (la : Prop) (sl : Prop) (tF : Nat → Int32) (sF : Nat → Int32) (htn : tn ≤ 40) : CtV l G yX8_keep wsX8_keep 0 0 0 0 sz [.ref x] [oC x 8 [.ref ak, .ref am, .ref ao, .ref av, .ref ap, .ref ax, .ref ay, .int (nI ec), .ref ad, .ref an, .ref ab, .int (nI vn), .ref ar, .ref ac, .int us, .int ro, .int pr, .ref at_, .int (nI tn), .ref as_, .int (nI sn), .ref aq, .int (nI qn), .int wa, .int (nI hp), .long nm, .int (nI ns), .int (zI la), .int (zI sl)], aI G at_ 40 tF, aI G as_ 40 sF] (fun (_ : Unit) => True) (fun (_ : Unit) => [oC x 8 [.ref ak, .ref am, .ref ao, .ref av, .ref ap, .ref ax, .ref ay, .int (nI ec), .ref ad, .ref an, .ref ab, .int (nI vn), .ref ar, .ref ac, .int us, .int ro, .int pr, .ref at_, .int (nI tn), .ref as_, .int (nI tn), .ref aq, .int (nI qn), .int wa, .int (nI hp), .long nm, .int (nI ns), .int (zI la), .int (zI sl)], aI G at_ 40 tF, aI G as_ 40 (va_cpy tF sF 0 0 tn)]) := by
  refine kMet (Qc := fun A => va_Qv _ (Bw G A _) A) (cc := cX8_keep) (nL := 2) (ret := none) (by decide) rfl (Nat.le_of_ble_eq_true rfl) ?_
  intro p e s m args below meth c A Q hF hr hlk hnme hK hP hD hA hS hQ hsz ls hl
  have hl : lv_has ls 2 [(0, .ref x)] := hl
  refine lv_aload_n hF.1 hF.2.1 dX8_keep_0 rfl (lv_at hl 0 rfl) ?_
  refine lv_aload_n hF.1 hF.2.1 dX8_keep_1 rfl (lv_at hl 0 rfl) ?_
  refine kGet (C := RX8) (T := TX8) (N := 29) (index := 60) hF hK hP (inT inBX8) 0 rfl rfl 18 (by decide) rfl (List.mem_cons_of_mem _ mF_X8_60) rfl dX8_keep_2 ?_
  refine kPut (C := RX8) (T := TX8) (N := 29) (index := 63) (v := .int (nI tn)) hF hK hP hD hS (inT inBX8) tyX8_ok nmX8 0 rfl rfl 20 (by decide) rfl (List.mem_cons_of_mem _ mF_X8_63) rfl rfl rfl (Nat.le_of_ble_eq_true rfl) dX8_keep_5 (fun H locs hP hD hS => ?_)
  have hP : PG G [oC x 8 [.ref ak, .ref am, .ref ao, .ref av, .ref ap, .ref ax, .ref ay, .int (nI ec), .ref ad, .ref an, .ref ab, .int (nI vn), .ref ar, .ref ac, .int us, .int ro, .int pr, .ref at_, .int (nI tn), .ref as_, .int (nI tn), .ref aq, .int (nI qn), .int wa, .int (nI hp), .long nm, .int (nI ns), .int (zI la), .int (zI sl)], aI G at_ 40 tF, aI G as_ 40 sF] H := hP
  have hD : va_D A [oC x 8 [.ref ak, .ref am, .ref ao, .ref av, .ref ap, .ref ax, .ref ay, .int (nI ec), .ref ad, .ref an, .ref ab, .int (nI vn), .ref ar, .ref ac, .int us, .int ro, .int pr, .ref at_, .int (nI tn), .ref as_, .int (nI tn), .ref aq, .int (nI qn), .int wa, .int (nI hp), .long nm, .int (nI ns), .int (zI la), .int (zI sl)], aI G at_ 40 tF, aI G as_ 40 sF] := hD
  refine lv_iconst (v := (nI 0)) hF.1 hF.2.1 dX8_keep_8 (by decide) ?_
  refine lv_istore_n (lv' := [(1, .int (nI 0)), (0, .ref x)]) hF.1 hF.2.1 dX8_keep_9 rfl hl (by decide) rfl (fun ls hl => ?_)
  have loop_10 : ∀ (n_10 : Nat) (k : Nat) (s1 : Nat → Int32), tn - k < n_10 → (k ≤ tn) → (s1 = va_cpy tF sF 0 0 k) → ∀ (H : Heap) (locs : List Loc) (ls : Array Slot), PG G [oC x 8 [.ref ak, .ref am, .ref ao, .ref av, .ref ap, .ref ax, .ref ay, .int (nI ec), .ref ad, .ref an, .ref ab, .int (nI vn), .ref ar, .ref ac, .int us, .int ro, .int pr, .ref at_, .int (nI tn), .ref as_, .int (nI tn), .ref aq, .int (nI qn), .int wa, .int (nI hp), .long nm, .int (nI ns), .int (zI la), .int (zI sl)], aI G at_ 40 tF, aI G as_ 40 s1] H → va_D A [oC x 8 [.ref ak, .ref am, .ref ao, .ref av, .ref ap, .ref ax, .ref ay, .int (nI ec), .ref ad, .ref an, .ref ab, .int (nI vn), .ref ar, .ref ac, .int us, .int ro, .int pr, .ref at_, .int (nI tn), .ref as_, .int (nI tn), .ref aq, .int (nI qn), .int wa, .int (nI hp), .long nm, .int (nI ns), .int (zI la), .int (zI sl)], aI G at_ 40 tF, aI G as_ 40 s1] → va_S A s.heap H locs → lv_has ls 2 [(1, .int (nI k)), (0, .ref x)] → W p l e (Rm 0 0 0 0) s m args below meth c H locs 0 0 Q (F0 m 10 ls []) := by
    intro n_10
    induction n_10 with
    | zero => intro k s1 hm; exact absurd hm (Nat.not_lt_zero _)
    | succ n_10 ih_10 =>
      intro k s1 hm_10 hk hs1 H locs ls hP hD hS hl
      refine lv_iload_n hF.1 hF.2.1 dX8_keep_10 rfl (lv_at hl 0 rfl) ?_
      refine lv_aload_n hF.1 hF.2.1 dX8_keep_11 rfl (lv_at hl 1 rfl) ?_
      refine kGet (C := RX8) (T := TX8) (N := 29) (index := 60) hF hK hP (inT inBX8) 0 rfl rfl 18 (by decide) rfl (List.mem_cons_of_mem _ mF_X8_60) rfl dX8_keep_12 ?_
      refine kGeN (tgt := 36) hF dX8_keep_15 (by decide) (by omega) (by omega) (fun c_1 => ?_) (fun c_1 => ?_)
      · rw [hs1, show k = tn by omega] at hP hD
        refine kRetV hF hr hlk hK hP hD hS hQ () [0, 1, 2] (by decide) rfl (Nat.le_of_ble_eq_true rfl) (Nat.le_of_ble_eq_true rfl) dX8_keep_36 ?_
        trivial
      · refine lv_aload_n hF.1 hF.2.1 dX8_keep_18 rfl (lv_at hl 1 rfl) ?_
        refine kGet (C := RX8) (T := TX8) (N := 29) (index := 54) hF hK hP (inT inBX8) 0 rfl rfl 19 (by decide) rfl (List.mem_cons_of_mem _ mF_X8_54) rfl dX8_keep_19 ?_
        refine lv_iload_n hF.1 hF.2.1 dX8_keep_22 rfl (lv_at hl 0 rfl) ?_
        refine lv_aload_n hF.1 hF.2.1 dX8_keep_23 rfl (lv_at hl 1 rfl) ?_
        refine kGet (C := RX8) (T := TX8) (N := 29) (index := 51) hF hK hP (inT inBX8) 0 rfl rfl 17 (by decide) rfl (List.mem_cons_of_mem _ mF_X8_51) rfl dX8_keep_24 ?_
        refine lv_iload_n hF.1 hF.2.1 dX8_keep_27 rfl (lv_at hl 0 rfl) ?_
        refine kIaldN hF hK hP 1 rfl (by omega) (by decide) dX8_keep_28 ?_
        refine kIastN hF hK hP hD hS 2 rfl (by omega) (by decide) dX8_keep_29 (fun H locs hP hD hS => ?_)
        have hP : PG G [oC x 8 [.ref ak, .ref am, .ref ao, .ref av, .ref ap, .ref ax, .ref ay, .int (nI ec), .ref ad, .ref an, .ref ab, .int (nI vn), .ref ar, .ref ac, .int us, .int ro, .int pr, .ref at_, .int (nI tn), .ref as_, .int (nI tn), .ref aq, .int (nI qn), .int wa, .int (nI hp), .long nm, .int (nI ns), .int (zI la), .int (zI sl)], aI G at_ 40 tF, aI G as_ 40 (upd s1 k (tF k))] H := hP
        have hD : va_D A [oC x 8 [.ref ak, .ref am, .ref ao, .ref av, .ref ap, .ref ax, .ref ay, .int (nI ec), .ref ad, .ref an, .ref ab, .int (nI vn), .ref ar, .ref ac, .int us, .int ro, .int pr, .ref at_, .int (nI tn), .ref as_, .int (nI tn), .ref aq, .int (nI qn), .int wa, .int (nI hp), .long nm, .int (nI ns), .int (zI la), .int (zI sl)], aI G at_ 40 tF, aI G as_ 40 (upd s1 k (tF k))] := hD
        refine lv_iinc (v := (nI (k + 1))) (lv' := [(1, .int (nI (k + 1))), (0, .ref x)]) hF.1 hF.2.1 dX8_keep_30 hl (k := 0) rfl (nI_inc1 _) (by decide) rfl (fun ls hl => ?_)
        refine lv_goto (tgt := 10) hF.1 hF.2.1 dX8_keep_33 (by decide) ?_
        exact ih_10 (k + 1) (upd s1 k (tF k)) (by omega) (by omega) (by rw [hs1]; exact cpy_k) H locs ls hP hD hS (lv_sub hl [0, 1] rfl)
  exact loop_10 _ 0 sF (Nat.lt_succ_self _) (by omega) (cpy_n.symm) _ _ _ hP hD hS (lv_sub hl [0, 1] rfl)
set_option maxHeartbeats 4000000 in
set_option maxRecDepth 100000 in
theorem c_X8_at (l : Launch) (G : GG) (sz : Nat) (x : Nat) (ak : Nat) (am : Nat) (ao : Nat) (av : Nat) (ap : Nat) (ax : Nat) (ay : Nat) (ad : Nat) (an : Nat) (ab : Nat) (ar : Nat) (ac : Nat) (at_ : Nat) (as_ : Nat) (aq : Nat) (ec : Nat) (vn : Nat) (tn : Nat) (sn : Nat) (qn : Nat) (hp : Nat) (ns : Nat) (us : Int32) (ro : Int32) (pr : Int32) (wa : Int32) (nm : Int64) (la : Prop) (sl : Prop) (tF : Nat → Int32) (k0 : Int32) (htn : tn ≤ 40) : CtI l G yX8_at wsX8_at 0 0 0 0 sz [.ref x, .int k0] [oC x 8 [.ref ak, .ref am, .ref ao, .ref av, .ref ap, .ref ax, .ref ay, .int (nI ec), .ref ad, .ref an, .ref ab, .int (nI vn), .ref ar, .ref ac, .int us, .int ro, .int pr, .ref at_, .int (nI tn), .ref as_, .int (nI sn), .ref aq, .int (nI qn), .int wa, .int (nI hp), .long nm, .int (nI ns), .int (zI la), .int (zI sl)], aI G at_ 40 tF] (fun r (_ : Unit) => r = (atC tF tn k0)) (fun (_ : Unit) => [oC x 8 [.ref ak, .ref am, .ref ao, .ref av, .ref ap, .ref ax, .ref ay, .int (nI ec), .ref ad, .ref an, .ref ab, .int (nI vn), .ref ar, .ref ac, .int us, .int ro, .int pr, .ref at_, .int (nI tn), .ref as_, .int (nI sn), .ref aq, .int (nI qn), .int wa, .int (nI hp), .long nm, .int (nI ns), .int (zI la), .int (zI sl)], aI G at_ 40 tF]) := by
  refine kMet (Qc := fun A => va_Qi _ (Bw G A _) A) (cc := cX8_at) (nL := 2) (ret := some (.int)) (by decide) rfl (Nat.le_of_ble_eq_true rfl) ?_
  intro p e s m args below meth c A Q hF hr hlk hnme hK hP hD hA hS hQ hsz ls hl
  have hl : lv_has ls 2 [(0, .ref x), (1, .int k0)] := hl
  refine lv_iload_n hF.1 hF.2.1 dX8_at_0 rfl (lv_at hl 1 rfl) ?_
  refine lv_if_lt (tgt := 12) hF.1 hF.2.1 dX8_at_1 (by decide) (fun c_1 => ?_) (fun c_1 => ?_)
  · refine lv_bipush (v := (-11)) hF.1 hF.2.1 dX8_at_12 (by decide) ?_
    refine lv_goto (tgt := 23) hF.1 hF.2.1 dX8_at_14 (by decide) ?_
    refine kRetI (v := (-11)) hF hr hlk hK hP hD hS hQ rfl () [0, 1] (by decide) rfl (Nat.le_of_ble_eq_true rfl) (Nat.le_of_ble_eq_true rfl) dX8_at_23 ?_
    exact (if_neg (fun h => by first | exact absurd (by assumption) h.1 | exact absurd (Int32.not_le.mp h.2) (by assumption))).symm
  · refine lv_iload_n hF.1 hF.2.1 dX8_at_4 rfl (lv_at hl 1 rfl) ?_
    refine lv_aload_n hF.1 hF.2.1 dX8_at_5 rfl (lv_at hl 0 rfl) ?_
    refine kGet (C := RX8) (T := TX8) (N := 29) (index := 60) hF hK hP (inT inBX8) 0 rfl rfl 18 (by decide) rfl (List.mem_cons_of_mem _ mF_X8_60) rfl dX8_at_6 ?_
    refine lv_icmp_lt (tgt := 17) hF.1 hF.2.1 dX8_at_9 (by decide) (fun c_2 => ?_) (fun c_2 => ?_)
    · obtain ⟨j, hj, rfl⟩ := ix_of (n := tn) (by assumption) (Int32.not_le.mpr c_2) (by omega)
      skip
      refine lv_aload_n hF.1 hF.2.1 dX8_at_17 rfl (lv_at hl 0 rfl) ?_
      refine kGet (C := RX8) (T := TX8) (N := 29) (index := 51) hF hK hP (inT inBX8) 0 rfl rfl 17 (by decide) rfl (List.mem_cons_of_mem _ mF_X8_51) rfl dX8_at_18 ?_
      refine lv_iload_n hF.1 hF.2.1 dX8_at_21 rfl (lv_at hl 1 rfl) ?_
      refine kIaldN hF hK hP 1 rfl (by omega) (by decide) dX8_at_22 ?_
      refine kRetI (v := (tF j)) hF hr hlk hK hP hD hS hQ rfl () [0, 1] (by decide) rfl (Nat.le_of_ble_eq_true rfl) (Nat.le_of_ble_eq_true rfl) dX8_at_23 ?_
      rw [atC, if_pos ⟨by assumption, Int32.not_le.mpr (by assumption)⟩, ix_nI (by omega)]
    · refine lv_bipush (v := (-11)) hF.1 hF.2.1 dX8_at_12 (by decide) ?_
      refine lv_goto (tgt := 23) hF.1 hF.2.1 dX8_at_14 (by decide) ?_
      refine kRetI (v := (-11)) hF hr hlk hK hP hD hS hQ rfl () [0, 1] (by decide) rfl (Nat.le_of_ble_eq_true rfl) (Nat.le_of_ble_eq_true rfl) dX8_at_23 ?_
      exact (if_neg (fun h => by first | exact absurd (by assumption) h.1 | exact absurd (Int32.not_le.mp h.2) (by assumption))).symm
set_option maxHeartbeats 4000000 in
set_option maxRecDepth 100000 in
theorem c_X8_slashesAlone (l : Launch) (G : GG) (sz : Nat) (x : Nat) (ak : Nat) (am : Nat) (ao : Nat) (av : Nat) (ap : Nat) (ax : Nat) (ay : Nat) (ad : Nat) (an : Nat) (ab : Nat) (ar : Nat) (ac : Nat) (at_ : Nat) (as_ : Nat) (aq : Nat) (ec : Nat) (vn : Nat) (tn : Nat) (sn : Nat) (qn : Nat) (hp : Nat) (ns : Nat) (us : Int32) (ro : Int32) (pr : Int32) (wa : Int32) (nm : Int64) (la : Prop) (sl : Prop) (tF : Nat → Int32) (htn : tn ≤ 40) : CtI l G yX8_slashesAlone wsX8_slashesAlone 0 0 0 0 sz [.ref x] [oC x 8 [.ref ak, .ref am, .ref ao, .ref av, .ref ap, .ref ax, .ref ay, .int (nI ec), .ref ad, .ref an, .ref ab, .int (nI vn), .ref ar, .ref ac, .int us, .int ro, .int pr, .ref at_, .int (nI tn), .ref as_, .int (nI sn), .ref aq, .int (nI qn), .int wa, .int (nI hp), .long nm, .int (nI ns), .int (zI la), .int (zI sl)], aI G at_ 40 tF] (fun r (_ : Unit) => r = (zI (0 < tn ∧ ∀ j, j < tn → tF j = nI 47))) (fun (_ : Unit) => [oC x 8 [.ref ak, .ref am, .ref ao, .ref av, .ref ap, .ref ax, .ref ay, .int (nI ec), .ref ad, .ref an, .ref ab, .int (nI vn), .ref ar, .ref ac, .int us, .int ro, .int pr, .ref at_, .int (nI tn), .ref as_, .int (nI sn), .ref aq, .int (nI qn), .int wa, .int (nI hp), .long nm, .int (nI ns), .int (zI la), .int (zI sl)], aI G at_ 40 tF]) := by
  refine kMet (Qc := fun A => va_Qi _ (Bw G A _) A) (cc := cX8_slashesAlone) (nL := 3) (ret := some (.boolean)) (by decide) rfl (Nat.le_of_ble_eq_true rfl) ?_
  intro p e s m args below meth c A Q hF hr hlk hnme hK hP hD hA hS hQ hsz ls hl
  have hl : lv_has ls 3 [(0, .ref x)] := hl
  refine lv_aload_n hF.1 hF.2.1 dX8_slashesAlone_0 rfl (lv_at hl 0 rfl) ?_
  refine kGet (C := RX8) (T := TX8) (N := 29) (index := 60) hF hK hP (inT inBX8) 0 rfl rfl 18 (by decide) rfl (List.mem_cons_of_mem _ mF_X8_60) rfl dX8_slashesAlone_1 ?_
  refine kIfLeN (tgt := 11) hF dX8_slashesAlone_4 (by decide) (by omega) (fun c_1 => ?_) (fun c_1 => ?_)
  · refine lv_iconst (v := (nI 0)) hF.1 hF.2.1 dX8_slashesAlone_11 (by decide) ?_
    refine kTop (y := zI (0 < tn)) (first_z (by first | exact Or.inl ⟨rfl, by first | omega | exact ⟨by assumption, by assumption⟩⟩ | exact Or.inr ⟨rfl, by first | omega | exact fun h => absurd h.1 (by assumption) | exact fun h => absurd h.2 (by assumption)⟩)) ?_
    refine lv_istore_n (lv' := [(1, .int (zI (0 < tn))), (0, .ref x)]) hF.1 hF.2.1 dX8_slashesAlone_12 rfl hl (by decide) rfl (fun ls hl => ?_)
    refine lv_iconst (v := (nI 0)) hF.1 hF.2.1 dX8_slashesAlone_13 (by decide) ?_
    refine lv_istore_n (lv' := [(2, .int (nI 0)), (1, .int (zI (0 < tn))), (0, .ref x)]) hF.1 hF.2.1 dX8_slashesAlone_14 rfl hl (by decide) rfl (fun ls hl => ?_)
    have loop_15 : ∀ (n_15 : Nat) (k : Nat) (P : Prop), tn - k < n_15 → (k ≤ tn) → (P ↔ (0 < tn ∧ ∀ j, j < k → tF j = nI 47)) → ∀ (H : Heap) (locs : List Loc) (ls : Array Slot), PG G [oC x 8 [.ref ak, .ref am, .ref ao, .ref av, .ref ap, .ref ax, .ref ay, .int (nI ec), .ref ad, .ref an, .ref ab, .int (nI vn), .ref ar, .ref ac, .int us, .int ro, .int pr, .ref at_, .int (nI tn), .ref as_, .int (nI sn), .ref aq, .int (nI qn), .int wa, .int (nI hp), .long nm, .int (nI ns), .int (zI la), .int (zI sl)], aI G at_ 40 tF] H → va_D A [oC x 8 [.ref ak, .ref am, .ref ao, .ref av, .ref ap, .ref ax, .ref ay, .int (nI ec), .ref ad, .ref an, .ref ab, .int (nI vn), .ref ar, .ref ac, .int us, .int ro, .int pr, .ref at_, .int (nI tn), .ref as_, .int (nI sn), .ref aq, .int (nI qn), .int wa, .int (nI hp), .long nm, .int (nI ns), .int (zI la), .int (zI sl)], aI G at_ 40 tF] → va_S A s.heap H locs → lv_has ls 3 [(2, .int (nI k)), (1, .int (zI P)), (0, .ref x)] → W p l e (Rm 0 0 0 0) s m args below meth c H locs 0 0 Q (F0 m 15 ls []) := by
      intro n_15
      induction n_15 with
      | zero => intro k P hm; exact absurd hm (Nat.not_lt_zero _)
      | succ n_15 ih_15 =>
        intro k P hm_15 hk hp H locs ls hP hD hS hl
        refine lv_iload_n hF.1 hF.2.1 dX8_slashesAlone_15 rfl (lv_at hl 0 rfl) ?_
        refine lv_aload_n hF.1 hF.2.1 dX8_slashesAlone_16 rfl (lv_at hl 2 rfl) ?_
        refine kGet (C := RX8) (T := TX8) (N := 29) (index := 60) hF hK hP (inT inBX8) 0 rfl rfl 18 (by decide) rfl (List.mem_cons_of_mem _ mF_X8_60) rfl dX8_slashesAlone_17 ?_
        refine kGeN (tgt := 50) hF dX8_slashesAlone_20 (by decide) (by omega) (by omega) (fun c_2 => ?_) (fun c_2 => ?_)
        · refine lv_iload_n hF.1 hF.2.1 dX8_slashesAlone_50 rfl (lv_at hl 1 rfl) ?_
          refine kRetI (v := (zI P)) hF hr hlk hK hP hD hS hQ (zI_nar _) () [0, 1] (by decide) rfl (Nat.le_of_ble_eq_true rfl) (Nat.le_of_ble_eq_true rfl) dX8_slashesAlone_51 ?_
          exact zI_cg (by rw [hp, show k = tn by omega])
        · refine lv_iload_n hF.1 hF.2.1 dX8_slashesAlone_23 rfl (lv_at hl 1 rfl) ?_
          refine kIfEqZ (tgt := 42) hF dX8_slashesAlone_24 (by decide) (fun c_3 => ?_) (fun c_3 => ?_)
          · refine lv_iconst (v := (nI 0)) hF.1 hF.2.1 dX8_slashesAlone_42 (by decide) ?_
            refine kTop (y := zI (P ∧ tF k = nI 47)) (first_z (by first | exact Or.inl ⟨rfl, by first | omega | exact ⟨by assumption, by assumption⟩⟩ | exact Or.inr ⟨rfl, by first | omega | exact fun h => absurd h.1 (by assumption) | exact fun h => absurd h.2 (by assumption)⟩)) ?_
            refine lv_istore_n (lv' := [(1, .int (zI (P ∧ tF k = nI 47))), (2, .int (nI k)), (0, .ref x)]) hF.1 hF.2.1 dX8_slashesAlone_43 rfl hl (by decide) rfl (fun ls hl => ?_)
            refine lv_iinc (v := (nI (k + 1))) (lv' := [(2, .int (nI (k + 1))), (1, .int (zI (P ∧ tF k = nI 47))), (0, .ref x)]) hF.1 hF.2.1 dX8_slashesAlone_44 hl (k := 1) rfl (nI_inc1 _) (by decide) rfl (fun ls hl => ?_)
            refine lv_goto (tgt := 15) hF.1 hF.2.1 dX8_slashesAlone_47 (by decide) ?_
            exact ih_15 (k + 1) (P ∧ tF k = nI 47) (by omega) (by omega) (by rw [hp]; exact all47) H locs ls hP hD hS (lv_sub hl [0, 1, 2] rfl)
          · refine lv_aload_n hF.1 hF.2.1 dX8_slashesAlone_27 rfl (lv_at hl 2 rfl) ?_
            refine kGet (C := RX8) (T := TX8) (N := 29) (index := 51) hF hK hP (inT inBX8) 0 rfl rfl 17 (by decide) rfl (List.mem_cons_of_mem _ mF_X8_51) rfl dX8_slashesAlone_28 ?_
            refine lv_iload_n hF.1 hF.2.1 dX8_slashesAlone_31 rfl (lv_at hl 0 rfl) ?_
            refine kIaldN hF hK hP 1 rfl (by omega) (by decide) dX8_slashesAlone_32 ?_
            refine lv_bipush (v := (nI 47)) hF.1 hF.2.1 dX8_slashesAlone_33 (by decide) ?_
            refine lv_icmp_ne (tgt := 42) hF.1 hF.2.1 dX8_slashesAlone_35 (by decide) (fun c_4 => ?_) (fun c_4 => ?_)
            · refine lv_iconst (v := (nI 0)) hF.1 hF.2.1 dX8_slashesAlone_42 (by decide) ?_
              refine kTop (y := zI (P ∧ tF k = nI 47)) (first_z (by first | exact Or.inl ⟨rfl, by first | omega | exact ⟨by assumption, by assumption⟩⟩ | exact Or.inr ⟨rfl, by first | omega | exact fun h => absurd h.1 (by assumption) | exact fun h => absurd h.2 (by assumption)⟩)) ?_
              refine lv_istore_n (lv' := [(1, .int (zI (P ∧ tF k = nI 47))), (2, .int (nI k)), (0, .ref x)]) hF.1 hF.2.1 dX8_slashesAlone_43 rfl hl (by decide) rfl (fun ls hl => ?_)
              refine lv_iinc (v := (nI (k + 1))) (lv' := [(2, .int (nI (k + 1))), (1, .int (zI (P ∧ tF k = nI 47))), (0, .ref x)]) hF.1 hF.2.1 dX8_slashesAlone_44 hl (k := 1) rfl (nI_inc1 _) (by decide) rfl (fun ls hl => ?_)
              refine lv_goto (tgt := 15) hF.1 hF.2.1 dX8_slashesAlone_47 (by decide) ?_
              exact ih_15 (k + 1) (P ∧ tF k = nI 47) (by omega) (by omega) (by rw [hp]; exact all47) H locs ls hP hD hS (lv_sub hl [0, 1, 2] rfl)
            · refine lv_iconst (v := (nI 1)) hF.1 hF.2.1 dX8_slashesAlone_38 (by decide) ?_
              refine lv_goto (tgt := 43) hF.1 hF.2.1 dX8_slashesAlone_39 (by decide) ?_
              refine kTop (y := zI (P ∧ tF k = nI 47)) (first_z (by first | exact Or.inl ⟨rfl, by first | omega | exact ⟨by assumption, by assumption⟩⟩ | exact Or.inr ⟨rfl, by first | omega | exact fun h => absurd h.1 (by assumption) | exact fun h => absurd h.2 (by assumption)⟩)) ?_
              refine lv_istore_n (lv' := [(1, .int (zI (P ∧ tF k = nI 47))), (2, .int (nI k)), (0, .ref x)]) hF.1 hF.2.1 dX8_slashesAlone_43 rfl hl (by decide) rfl (fun ls hl => ?_)
              refine lv_iinc (v := (nI (k + 1))) (lv' := [(2, .int (nI (k + 1))), (1, .int (zI (P ∧ tF k = nI 47))), (0, .ref x)]) hF.1 hF.2.1 dX8_slashesAlone_44 hl (k := 1) rfl (nI_inc1 _) (by decide) rfl (fun ls hl => ?_)
              refine lv_goto (tgt := 15) hF.1 hF.2.1 dX8_slashesAlone_47 (by decide) ?_
              exact ih_15 (k + 1) (P ∧ tF k = nI 47) (by omega) (by omega) (by rw [hp]; exact all47) H locs ls hP hD hS (lv_sub hl [0, 1, 2] rfl)
    exact loop_15 _ 0 (0 < tn) (Nat.lt_succ_self _) (by omega) (⟨fun h => ⟨h, fun j hj => by omega⟩, fun h => h.1⟩) _ _ _ hP hD hS (lv_sub hl [0, 1, 2] rfl)
  · refine lv_iconst (v := (nI 1)) hF.1 hF.2.1 dX8_slashesAlone_7 (by decide) ?_
    refine lv_goto (tgt := 12) hF.1 hF.2.1 dX8_slashesAlone_8 (by decide) ?_
    refine kTop (y := zI (0 < tn)) (first_z (by first | exact Or.inl ⟨rfl, by first | omega | exact ⟨by assumption, by assumption⟩⟩ | exact Or.inr ⟨rfl, by first | omega | exact fun h => absurd h.1 (by assumption) | exact fun h => absurd h.2 (by assumption)⟩)) ?_
    refine lv_istore_n (lv' := [(1, .int (zI (0 < tn))), (0, .ref x)]) hF.1 hF.2.1 dX8_slashesAlone_12 rfl hl (by decide) rfl (fun ls hl => ?_)
    refine lv_iconst (v := (nI 0)) hF.1 hF.2.1 dX8_slashesAlone_13 (by decide) ?_
    refine lv_istore_n (lv' := [(2, .int (nI 0)), (1, .int (zI (0 < tn))), (0, .ref x)]) hF.1 hF.2.1 dX8_slashesAlone_14 rfl hl (by decide) rfl (fun ls hl => ?_)
    have loop_15 : ∀ (n_15 : Nat) (k : Nat) (P : Prop), tn - k < n_15 → (k ≤ tn) → (P ↔ (0 < tn ∧ ∀ j, j < k → tF j = nI 47)) → ∀ (H : Heap) (locs : List Loc) (ls : Array Slot), PG G [oC x 8 [.ref ak, .ref am, .ref ao, .ref av, .ref ap, .ref ax, .ref ay, .int (nI ec), .ref ad, .ref an, .ref ab, .int (nI vn), .ref ar, .ref ac, .int us, .int ro, .int pr, .ref at_, .int (nI tn), .ref as_, .int (nI sn), .ref aq, .int (nI qn), .int wa, .int (nI hp), .long nm, .int (nI ns), .int (zI la), .int (zI sl)], aI G at_ 40 tF] H → va_D A [oC x 8 [.ref ak, .ref am, .ref ao, .ref av, .ref ap, .ref ax, .ref ay, .int (nI ec), .ref ad, .ref an, .ref ab, .int (nI vn), .ref ar, .ref ac, .int us, .int ro, .int pr, .ref at_, .int (nI tn), .ref as_, .int (nI sn), .ref aq, .int (nI qn), .int wa, .int (nI hp), .long nm, .int (nI ns), .int (zI la), .int (zI sl)], aI G at_ 40 tF] → va_S A s.heap H locs → lv_has ls 3 [(2, .int (nI k)), (1, .int (zI P)), (0, .ref x)] → W p l e (Rm 0 0 0 0) s m args below meth c H locs 0 0 Q (F0 m 15 ls []) := by
      intro n_15
      induction n_15 with
      | zero => intro k P hm; exact absurd hm (Nat.not_lt_zero _)
      | succ n_15 ih_15 =>
        intro k P hm_15 hk hp H locs ls hP hD hS hl
        refine lv_iload_n hF.1 hF.2.1 dX8_slashesAlone_15 rfl (lv_at hl 0 rfl) ?_
        refine lv_aload_n hF.1 hF.2.1 dX8_slashesAlone_16 rfl (lv_at hl 2 rfl) ?_
        refine kGet (C := RX8) (T := TX8) (N := 29) (index := 60) hF hK hP (inT inBX8) 0 rfl rfl 18 (by decide) rfl (List.mem_cons_of_mem _ mF_X8_60) rfl dX8_slashesAlone_17 ?_
        refine kGeN (tgt := 50) hF dX8_slashesAlone_20 (by decide) (by omega) (by omega) (fun c_5 => ?_) (fun c_5 => ?_)
        · refine lv_iload_n hF.1 hF.2.1 dX8_slashesAlone_50 rfl (lv_at hl 1 rfl) ?_
          refine kRetI (v := (zI P)) hF hr hlk hK hP hD hS hQ (zI_nar _) () [0, 1] (by decide) rfl (Nat.le_of_ble_eq_true rfl) (Nat.le_of_ble_eq_true rfl) dX8_slashesAlone_51 ?_
          exact zI_cg (by rw [hp, show k = tn by omega])
        · refine lv_iload_n hF.1 hF.2.1 dX8_slashesAlone_23 rfl (lv_at hl 1 rfl) ?_
          refine kIfEqZ (tgt := 42) hF dX8_slashesAlone_24 (by decide) (fun c_6 => ?_) (fun c_6 => ?_)
          · refine lv_iconst (v := (nI 0)) hF.1 hF.2.1 dX8_slashesAlone_42 (by decide) ?_
            refine kTop (y := zI (P ∧ tF k = nI 47)) (first_z (by first | exact Or.inl ⟨rfl, by first | omega | exact ⟨by assumption, by assumption⟩⟩ | exact Or.inr ⟨rfl, by first | omega | exact fun h => absurd h.1 (by assumption) | exact fun h => absurd h.2 (by assumption)⟩)) ?_
            refine lv_istore_n (lv' := [(1, .int (zI (P ∧ tF k = nI 47))), (2, .int (nI k)), (0, .ref x)]) hF.1 hF.2.1 dX8_slashesAlone_43 rfl hl (by decide) rfl (fun ls hl => ?_)
            refine lv_iinc (v := (nI (k + 1))) (lv' := [(2, .int (nI (k + 1))), (1, .int (zI (P ∧ tF k = nI 47))), (0, .ref x)]) hF.1 hF.2.1 dX8_slashesAlone_44 hl (k := 1) rfl (nI_inc1 _) (by decide) rfl (fun ls hl => ?_)
            refine lv_goto (tgt := 15) hF.1 hF.2.1 dX8_slashesAlone_47 (by decide) ?_
            exact ih_15 (k + 1) (P ∧ tF k = nI 47) (by omega) (by omega) (by rw [hp]; exact all47) H locs ls hP hD hS (lv_sub hl [0, 1, 2] rfl)
          · refine lv_aload_n hF.1 hF.2.1 dX8_slashesAlone_27 rfl (lv_at hl 2 rfl) ?_
            refine kGet (C := RX8) (T := TX8) (N := 29) (index := 51) hF hK hP (inT inBX8) 0 rfl rfl 17 (by decide) rfl (List.mem_cons_of_mem _ mF_X8_51) rfl dX8_slashesAlone_28 ?_
            refine lv_iload_n hF.1 hF.2.1 dX8_slashesAlone_31 rfl (lv_at hl 0 rfl) ?_
            refine kIaldN hF hK hP 1 rfl (by omega) (by decide) dX8_slashesAlone_32 ?_
            refine lv_bipush (v := (nI 47)) hF.1 hF.2.1 dX8_slashesAlone_33 (by decide) ?_
            refine lv_icmp_ne (tgt := 42) hF.1 hF.2.1 dX8_slashesAlone_35 (by decide) (fun c_7 => ?_) (fun c_7 => ?_)
            · refine lv_iconst (v := (nI 0)) hF.1 hF.2.1 dX8_slashesAlone_42 (by decide) ?_
              refine kTop (y := zI (P ∧ tF k = nI 47)) (first_z (by first | exact Or.inl ⟨rfl, by first | omega | exact ⟨by assumption, by assumption⟩⟩ | exact Or.inr ⟨rfl, by first | omega | exact fun h => absurd h.1 (by assumption) | exact fun h => absurd h.2 (by assumption)⟩)) ?_
              refine lv_istore_n (lv' := [(1, .int (zI (P ∧ tF k = nI 47))), (2, .int (nI k)), (0, .ref x)]) hF.1 hF.2.1 dX8_slashesAlone_43 rfl hl (by decide) rfl (fun ls hl => ?_)
              refine lv_iinc (v := (nI (k + 1))) (lv' := [(2, .int (nI (k + 1))), (1, .int (zI (P ∧ tF k = nI 47))), (0, .ref x)]) hF.1 hF.2.1 dX8_slashesAlone_44 hl (k := 1) rfl (nI_inc1 _) (by decide) rfl (fun ls hl => ?_)
              refine lv_goto (tgt := 15) hF.1 hF.2.1 dX8_slashesAlone_47 (by decide) ?_
              exact ih_15 (k + 1) (P ∧ tF k = nI 47) (by omega) (by omega) (by rw [hp]; exact all47) H locs ls hP hD hS (lv_sub hl [0, 1, 2] rfl)
            · refine lv_iconst (v := (nI 1)) hF.1 hF.2.1 dX8_slashesAlone_38 (by decide) ?_
              refine lv_goto (tgt := 43) hF.1 hF.2.1 dX8_slashesAlone_39 (by decide) ?_
              refine kTop (y := zI (P ∧ tF k = nI 47)) (first_z (by first | exact Or.inl ⟨rfl, by first | omega | exact ⟨by assumption, by assumption⟩⟩ | exact Or.inr ⟨rfl, by first | omega | exact fun h => absurd h.1 (by assumption) | exact fun h => absurd h.2 (by assumption)⟩)) ?_
              refine lv_istore_n (lv' := [(1, .int (zI (P ∧ tF k = nI 47))), (2, .int (nI k)), (0, .ref x)]) hF.1 hF.2.1 dX8_slashesAlone_43 rfl hl (by decide) rfl (fun ls hl => ?_)
              refine lv_iinc (v := (nI (k + 1))) (lv' := [(2, .int (nI (k + 1))), (1, .int (zI (P ∧ tF k = nI 47))), (0, .ref x)]) hF.1 hF.2.1 dX8_slashesAlone_44 hl (k := 1) rfl (nI_inc1 _) (by decide) rfl (fun ls hl => ?_)
              refine lv_goto (tgt := 15) hF.1 hF.2.1 dX8_slashesAlone_47 (by decide) ?_
              exact ih_15 (k + 1) (P ∧ tF k = nI 47) (by omega) (by omega) (by rw [hp]; exact all47) H locs ls hP hD hS (lv_sub hl [0, 1, 2] rfl)
    exact loop_15 _ 0 (0 < tn) (Nat.lt_succ_self _) (by omega) (⟨fun h => ⟨h, fun j hj => by omega⟩, fun h => h.1⟩) _ _ _ hP hD hS (lv_sub hl [0, 1, 2] rfl)
set_option maxHeartbeats 4000000 in
set_option maxRecDepth 100000 in
theorem c_X8_there (l : Launch) (G : GG) (sz : Nat) (x : Nat) (ak : Nat) (am : Nat) (ao : Nat) (av : Nat) (ap : Nat) (ax : Nat) (ay : Nat) (ad : Nat) (an : Nat) (ab : Nat) (ar : Nat) (ac : Nat) (at_ : Nat) (as_ : Nat) (aq : Nat) (ec : Nat) (vn : Nat) (tn : Nat) (sn : Nat) (qn : Nat) (hp : Nat) (ns : Nat) (us : Int32) (ro : Int32) (pr : Int32) (wa : Int32) (nm : Int64) (la : Prop) (sl : Prop) (kF : Nat → Int32) (i : Int32) : CtI l G yX8_there wsX8_there 0 0 0 0 sz [.ref x, .int i] [oC x 8 [.ref ak, .ref am, .ref ao, .ref av, .ref ap, .ref ax, .ref ay, .int (nI ec), .ref ad, .ref an, .ref ab, .int (nI vn), .ref ar, .ref ac, .int us, .int ro, .int pr, .ref at_, .int (nI tn), .ref as_, .int (nI sn), .ref aq, .int (nI qn), .int wa, .int (nI hp), .long nm, .int (nI ns), .int (zI la), .int (zI sl)], aI G ak 40 kF] (fun r (_ : Unit) => r = (zI (¬ knC kF i = nI 0))) (fun (_ : Unit) => [oC x 8 [.ref ak, .ref am, .ref ao, .ref av, .ref ap, .ref ax, .ref ay, .int (nI ec), .ref ad, .ref an, .ref ab, .int (nI vn), .ref ar, .ref ac, .int us, .int ro, .int pr, .ref at_, .int (nI tn), .ref as_, .int (nI sn), .ref aq, .int (nI qn), .int wa, .int (nI hp), .long nm, .int (nI ns), .int (zI la), .int (zI sl)], aI G ak 40 kF]) := by
  refine kMet (Qc := fun A => va_Qi _ (Bw G A _) A) (cc := cX8_there) (nL := 2) (ret := some (.boolean)) (by decide) rfl (Nat.le_of_ble_eq_true rfl) ?_
  intro p e s m args below meth c A Q hF hr hlk hnme hK hP hD hA hS hQ hsz ls hl
  have hl : lv_has ls 2 [(0, .ref x), (1, .int i)] := hl
  refine lv_iload_n hF.1 hF.2.1 dX8_there_0 rfl (lv_at hl 1 rfl) ?_
  refine lv_if_lt (tgt := 23) hF.1 hF.2.1 dX8_there_1 (by decide) (fun c_1 => ?_) (fun c_1 => ?_)
  · refine lv_iconst (v := (nI 0)) hF.1 hF.2.1 dX8_there_23 (by decide) ?_
    refine kRetI (v := (nI 0)) hF hr hlk hK hP hD hS hQ rfl () [0, 1] (by decide) rfl (Nat.le_of_ble_eq_true rfl) (Nat.le_of_ble_eq_true rfl) dX8_there_24 ?_
    exact zI_0 (fun h => h (by first | (rw [knC, if_pos ⟨by assumption, by assumption⟩]; assumption) | exact if_neg (fun h2 => by first | exact absurd (by assumption) h2.1 | exact absurd (by assumption) h2.2)))
  · refine lv_iload_n hF.1 hF.2.1 dX8_there_4 rfl (lv_at hl 1 rfl) ?_
    refine lv_bipush (v := (nI 40)) hF.1 hF.2.1 dX8_there_5 (by decide) ?_
    refine lv_icmp_ge (tgt := 23) hF.1 hF.2.1 dX8_there_7 (by decide) (fun c_2 => ?_) (fun c_2 => ?_)
    · refine lv_iconst (v := (nI 0)) hF.1 hF.2.1 dX8_there_23 (by decide) ?_
      refine kRetI (v := (nI 0)) hF hr hlk hK hP hD hS hQ rfl () [0, 1] (by decide) rfl (Nat.le_of_ble_eq_true rfl) (Nat.le_of_ble_eq_true rfl) dX8_there_24 ?_
      exact zI_0 (fun h => h (by first | (rw [knC, if_pos ⟨by assumption, by assumption⟩]; assumption) | exact if_neg (fun h2 => by first | exact absurd (by assumption) h2.1 | exact absurd (by assumption) h2.2)))
    · refine lv_aload_n hF.1 hF.2.1 dX8_there_10 rfl (lv_at hl 0 rfl) ?_
      refine kGet (C := RX8) (T := TX8) (N := 29) (index := 7) hF hK hP (inT inBX8) 0 rfl rfl 0 (by decide) rfl (List.mem_cons_of_mem _ mF_X8_7) rfl dX8_there_11 ?_
      refine lv_iload_n hF.1 hF.2.1 dX8_there_14 rfl (lv_at hl 1 rfl) ?_
      refine kIald hF hK hP 1 rfl (vp_of (by assumption) (by assumption) (by decide)) dX8_there_15 ?_
      refine lv_if_eq (tgt := 23) hF.1 hF.2.1 dX8_there_16 (by decide) (fun c_3 => ?_) (fun c_3 => ?_)
      · refine lv_iconst (v := (nI 0)) hF.1 hF.2.1 dX8_there_23 (by decide) ?_
        refine kRetI (v := (nI 0)) hF hr hlk hK hP hD hS hQ rfl () [0, 1] (by decide) rfl (Nat.le_of_ble_eq_true rfl) (Nat.le_of_ble_eq_true rfl) dX8_there_24 ?_
        exact zI_0 (fun h => h (by first | (rw [knC, if_pos ⟨by assumption, by assumption⟩]; assumption) | exact if_neg (fun h2 => by first | exact absurd (by assumption) h2.1 | exact absurd (by assumption) h2.2)))
      · refine lv_iconst (v := (nI 1)) hF.1 hF.2.1 dX8_there_19 (by decide) ?_
        refine lv_goto (tgt := 24) hF.1 hF.2.1 dX8_there_20 (by decide) ?_
        refine kRetI (v := (nI 1)) hF hr hlk hK hP hD hS hQ rfl () [0, 1] (by decide) rfl (Nat.le_of_ble_eq_true rfl) (Nat.le_of_ble_eq_true rfl) dX8_there_24 ?_
        exact zI_1 (by rw [knC, if_pos ⟨by assumption, by assumption⟩]; assumption)
set_option maxHeartbeats 4000000 in
set_option maxRecDepth 100000 in
theorem c_X8_freeObject (l : Launch) (G : GG) (sz : Nat) (x : Nat) (ak : Nat) (am : Nat) (ao : Nat) (av : Nat) (ap : Nat) (ax : Nat) (ay : Nat) (ad : Nat) (an : Nat) (ab : Nat) (ar : Nat) (ac : Nat) (at_ : Nat) (as_ : Nat) (aq : Nat) (ec : Nat) (vn : Nat) (tn : Nat) (sn : Nat) (qn : Nat) (hp : Nat) (ns : Nat) (us : Int32) (ro : Int32) (pr : Int32) (wa : Int32) (nm : Int64) (la : Prop) (sl : Prop) (kF : Nat → Int32) : CtI l G yX8_freeObject wsX8_freeObject 0 0 0 0 sz [.ref x] [oC x 8 [.ref ak, .ref am, .ref ao, .ref av, .ref ap, .ref ax, .ref ay, .int (nI ec), .ref ad, .ref an, .ref ab, .int (nI vn), .ref ar, .ref ac, .int us, .int ro, .int pr, .ref at_, .int (nI tn), .ref as_, .int (nI sn), .ref aq, .int (nI qn), .int wa, .int (nI hp), .long nm, .int (nI ns), .int (zI la), .int (zI sl)], aI G ak 40 kF] (fun r (_ : Unit) => r = (nI (lfN kF))) (fun (_ : Unit) => [oC x 8 [.ref ak, .ref am, .ref ao, .ref av, .ref ap, .ref ax, .ref ay, .int (nI ec), .ref ad, .ref an, .ref ab, .int (nI vn), .ref ar, .ref ac, .int us, .int ro, .int pr, .ref at_, .int (nI tn), .ref as_, .int (nI sn), .ref aq, .int (nI qn), .int wa, .int (nI hp), .long nm, .int (nI ns), .int (zI la), .int (zI sl)], aI G ak 40 kF]) := by
  refine kMet (Qc := fun A => va_Qi _ (Bw G A _) A) (cc := cX8_freeObject) (nL := 2) (ret := some (.int)) (by decide) rfl (Nat.le_of_ble_eq_true rfl) ?_
  intro p e s m args below meth c A Q hF hr hlk hnme hK hP hD hA hS hQ hsz ls hl
  have hl : lv_has ls 2 [(0, .ref x)] := hl
  refine lv_iconst (v := (nI 0)) hF.1 hF.2.1 dX8_freeObject_0 (by decide) ?_
  refine lv_istore_n (lv' := [(1, .int (nI 0)), (0, .ref x)]) hF.1 hF.2.1 dX8_freeObject_1 rfl hl (by decide) rfl (fun ls hl => ?_)
  have loop_2 : ∀ (n_2 : Nat) (k : Nat), 40 - k < n_2 → (k ≤ 40) → (scan (fun j => !decide (kF j = nI 0)) (40 - k) k = lfN kF) → ∀ (H : Heap) (locs : List Loc) (ls : Array Slot), PG G [oC x 8 [.ref ak, .ref am, .ref ao, .ref av, .ref ap, .ref ax, .ref ay, .int (nI ec), .ref ad, .ref an, .ref ab, .int (nI vn), .ref ar, .ref ac, .int us, .int ro, .int pr, .ref at_, .int (nI tn), .ref as_, .int (nI sn), .ref aq, .int (nI qn), .int wa, .int (nI hp), .long nm, .int (nI ns), .int (zI la), .int (zI sl)], aI G ak 40 kF] H → va_D A [oC x 8 [.ref ak, .ref am, .ref ao, .ref av, .ref ap, .ref ax, .ref ay, .int (nI ec), .ref ad, .ref an, .ref ab, .int (nI vn), .ref ar, .ref ac, .int us, .int ro, .int pr, .ref at_, .int (nI tn), .ref as_, .int (nI sn), .ref aq, .int (nI qn), .int wa, .int (nI hp), .long nm, .int (nI ns), .int (zI la), .int (zI sl)], aI G ak 40 kF] → va_S A s.heap H locs → lv_has ls 2 [(1, .int (nI k)), (0, .ref x)] → W p l e (Rm 0 0 0 0) s m args below meth c H locs 0 0 Q (F0 m 2 ls []) := by
    intro n_2
    induction n_2 with
    | zero => intro k hm; exact absurd hm (Nat.not_lt_zero _)
    | succ n_2 ih_2 =>
      intro k hm_2 hk hR H locs ls hP hD hS hl
      refine lv_iload_n hF.1 hF.2.1 dX8_freeObject_2 rfl (lv_at hl 0 rfl) ?_
      refine lv_bipush (v := (nI 40)) hF.1 hF.2.1 dX8_freeObject_3 (by decide) ?_
      refine kGeN (tgt := 23) hF dX8_freeObject_5 (by decide) (by omega) (by omega) (fun c_1 => ?_) (fun c_1 => ?_)
      · refine lv_iload_n hF.1 hF.2.1 dX8_freeObject_23 rfl (lv_at hl 0 rfl) ?_
        refine kRetI (v := (nI k)) hF hr hlk hK hP hD hS hQ rfl () [0, 1] (by decide) rfl (Nat.le_of_ble_eq_true rfl) (Nat.le_of_ble_eq_true rfl) dX8_freeObject_24 ?_
        rw [← hR]; first | rw [scan_e (by omega)] | rw [scan_f (by omega) (by simpa using (by assumption))]
      · refine lv_aload_n hF.1 hF.2.1 dX8_freeObject_8 rfl (lv_at hl 1 rfl) ?_
        refine kGet (C := RX8) (T := TX8) (N := 29) (index := 7) hF hK hP (inT inBX8) 0 rfl rfl 0 (by decide) rfl (List.mem_cons_of_mem _ mF_X8_7) rfl dX8_freeObject_9 ?_
        refine lv_iload_n hF.1 hF.2.1 dX8_freeObject_12 rfl (lv_at hl 0 rfl) ?_
        refine kIaldN hF hK hP 1 rfl (by omega) (by decide) dX8_freeObject_13 ?_
        refine lv_if_eq (tgt := 23) hF.1 hF.2.1 dX8_freeObject_14 (by decide) (fun c_2 => ?_) (fun c_2 => ?_)
        · refine lv_iload_n hF.1 hF.2.1 dX8_freeObject_23 rfl (lv_at hl 0 rfl) ?_
          refine kRetI (v := (nI k)) hF hr hlk hK hP hD hS hQ rfl () [0, 1] (by decide) rfl (Nat.le_of_ble_eq_true rfl) (Nat.le_of_ble_eq_true rfl) dX8_freeObject_24 ?_
          rw [← hR]; first | rw [scan_e (by omega)] | rw [scan_f (by omega) (by simpa using (by assumption))]
        · refine lv_iinc (v := (nI (k + 1))) (lv' := [(1, .int (nI (k + 1))), (0, .ref x)]) hF.1 hF.2.1 dX8_freeObject_17 hl (k := 0) rfl (nI_inc1 _) (by decide) rfl (fun ls hl => ?_)
          refine lv_goto (tgt := 2) hF.1 hF.2.1 dX8_freeObject_20 (by decide) ?_
          exact ih_2 (k + 1) (by omega) (by omega) (by rw [← hR]; exact (scan_t (by omega) (by simpa using (by assumption))).symm) H locs ls hP hD hS (lv_sub hl [0, 1] rfl)
  exact loop_2 _ 0 (Nat.lt_succ_self _) (by omega) (rfl) _ _ _ hP hD hS (lv_sub hl [0, 1] rfl)
set_option maxHeartbeats 4000000 in
set_option maxRecDepth 100000 in
theorem c_X8_may (l : Launch) (G : GG) (sz : Nat) (x : Nat) (ak : Nat) (am : Nat) (ao : Nat) (av : Nat) (ap : Nat) (ax : Nat) (ay : Nat) (ad : Nat) (an : Nat) (ab : Nat) (ar : Nat) (ac : Nat) (at_ : Nat) (as_ : Nat) (aq : Nat) (ec : Nat) (vn : Nat) (tn : Nat) (sn : Nat) (qn : Nat) (hp : Nat) (ns : Nat) (us : Int32) (ro : Int32) (pr : Int32) (wa : Int32) (nm : Int64) (la : Prop) (sl : Prop) (mF : Nat → Int32) (oF : Nat → Int32) (d : Int32) (bt : Int32) (hd : vp_in d 40) : CtI l G yX8_may wsX8_may 0 0 0 0 sz [.ref x, .int d, .int bt] [oC x 8 [.ref ak, .ref am, .ref ao, .ref av, .ref ap, .ref ax, .ref ay, .int (nI ec), .ref ad, .ref an, .ref ab, .int (nI vn), .ref ar, .ref ac, .int us, .int ro, .int pr, .ref at_, .int (nI tn), .ref as_, .int (nI sn), .ref aq, .int (nI qn), .int wa, .int (nI hp), .long nm, .int (nI ns), .int (zI la), .int (zI sl)], aI G am 40 mF, aI G ao 40 oF] (fun r (_ : Unit) => r = (zI (mayR us (mF (ix d)) (oF (ix d)) bt))) (fun (_ : Unit) => [oC x 8 [.ref ak, .ref am, .ref ao, .ref av, .ref ap, .ref ax, .ref ay, .int (nI ec), .ref ad, .ref an, .ref ab, .int (nI vn), .ref ar, .ref ac, .int us, .int ro, .int pr, .ref at_, .int (nI tn), .ref as_, .int (nI sn), .ref aq, .int (nI qn), .int wa, .int (nI hp), .long nm, .int (nI ns), .int (zI la), .int (zI sl)], aI G am 40 mF, aI G ao 40 oF]) := by
  refine kMet (Qc := fun A => va_Qi _ (Bw G A _) A) (cc := cX8_may) (nL := 4) (ret := some (.boolean)) (by decide) rfl (Nat.le_of_ble_eq_true rfl) ?_
  intro p e s m args below meth c A Q hF hr hlk hnme hK hP hD hA hS hQ hsz ls hl
  have hl : lv_has ls 4 [(0, .ref x), (1, .int d), (2, .int bt)] := hl
  refine lv_aload_n hF.1 hF.2.1 dX8_may_0 rfl (lv_at hl 0 rfl) ?_
  refine kGet (C := RX8) (T := TX8) (N := 29) (index := 66) hF hK hP (inT inBX8) 0 rfl rfl 14 (by decide) rfl (List.mem_cons_of_mem _ mF_X8_66) rfl dX8_may_1 ?_
  refine lv_if_ne (tgt := 9) hF.1 hF.2.1 dX8_may_4 (by decide) (fun c_1 => ?_) (fun c_1 => ?_)
  · refine lv_aload_n hF.1 hF.2.1 dX8_may_9 rfl (lv_at hl 0 rfl) ?_
    refine kGet (C := RX8) (T := TX8) (N := 29) (index := 16) hF hK hP (inT inBX8) 0 rfl rfl 2 (by decide) rfl (List.mem_cons_of_mem _ mF_X8_16) rfl dX8_may_10 ?_
    refine lv_iload_n hF.1 hF.2.1 dX8_may_13 rfl (lv_at hl 1 rfl) ?_
    refine kIald hF hK hP 2 rfl (by assumption) dX8_may_14 ?_
    refine lv_aload_n hF.1 hF.2.1 dX8_may_15 rfl (lv_at hl 0 rfl) ?_
    refine kGet (C := RX8) (T := TX8) (N := 29) (index := 66) hF hK hP (inT inBX8) 0 rfl rfl 14 (by decide) rfl (List.mem_cons_of_mem _ mF_X8_66) rfl dX8_may_16 ?_
    refine lv_icmp_ne (tgt := 33) hF.1 hF.2.1 dX8_may_19 (by decide) (fun c_2 => ?_) (fun c_2 => ?_)
    · refine lv_aload_n hF.1 hF.2.1 dX8_may_33 rfl (lv_at hl 0 rfl) ?_
      refine kGet (C := RX8) (T := TX8) (N := 29) (index := 13) hF hK hP (inT inBX8) 0 rfl rfl 1 (by decide) rfl (List.mem_cons_of_mem _ mF_X8_13) rfl dX8_may_34 ?_
      refine lv_iload_n hF.1 hF.2.1 dX8_may_37 rfl (lv_at hl 1 rfl) ?_
      refine kIald hF hK hP 1 rfl (by assumption) dX8_may_38 ?_
      refine lv_iconst (v := (nI 4)) hF.1 hF.2.1 dX8_may_39 (by decide) ?_
      refine lv_irem hF.1 hF.2.1 dX8_may_40 (by decide) ?_
      refine lv_istore_n (lv' := [(3, .int ((mF (ix d)) - (mF (ix d)) / (nI 4) * (nI 4))), (0, .ref x), (1, .int d), (2, .int bt)]) hF.1 hF.2.1 dX8_may_41 rfl hl (by decide) rfl (fun ls hl => ?_)
      refine lv_iload_n hF.1 hF.2.1 dX8_may_42 rfl (lv_at hl 0 rfl) ?_
      refine lv_iload_n hF.1 hF.2.1 dX8_may_43 rfl (lv_at hl 3 rfl) ?_
      refine lv_ishr hF.1 hF.2.1 dX8_may_44 ?_
      refine lv_iconst (v := (nI 1)) hF.1 hF.2.1 dX8_may_45 (by decide) ?_
      refine lv_iand hF.1 hF.2.1 dX8_may_46 ?_
      refine lv_iconst (v := (nI 1)) hF.1 hF.2.1 dX8_may_47 (by decide) ?_
      refine lv_icmp_ne (tgt := 55) hF.1 hF.2.1 dX8_may_48 (by decide) (fun c_3 => ?_) (fun c_3 => ?_)
      · refine lv_iconst (v := (nI 0)) hF.1 hF.2.1 dX8_may_55 (by decide) ?_
        refine kRetI (v := (nI 0)) hF hr hlk hK hP hD hS hQ rfl () [0, 1, 2] (by decide) rfl (Nat.le_of_ble_eq_true rfl) (Nat.le_of_ble_eq_true rfl) dX8_may_56 ?_
        exact zI_0 (by unfold mayR; rintro (h | h); exact absurd h (by assumption); first | (rw [if_pos (by assumption)] at h; contradiction) | (rw [if_neg (by assumption)] at h; contradiction))
      · refine lv_iconst (v := (nI 1)) hF.1 hF.2.1 dX8_may_51 (by decide) ?_
        refine lv_goto (tgt := 56) hF.1 hF.2.1 dX8_may_52 (by decide) ?_
        refine kRetI (v := (nI 1)) hF hr hlk hK hP hD hS hQ rfl () [0, 1, 2] (by decide) rfl (Nat.le_of_ble_eq_true rfl) (Nat.le_of_ble_eq_true rfl) dX8_may_56 ?_
        exact zI_1 (by unfold mayR; first | exact Or.inl (by assumption) | (refine Or.inr ?_; first | (rw [if_pos (by assumption)]; assumption) | (rw [if_neg (by assumption)]; assumption)))
    · refine lv_aload_n hF.1 hF.2.1 dX8_may_22 rfl (lv_at hl 0 rfl) ?_
      refine kGet (C := RX8) (T := TX8) (N := 29) (index := 13) hF hK hP (inT inBX8) 0 rfl rfl 1 (by decide) rfl (List.mem_cons_of_mem _ mF_X8_13) rfl dX8_may_23 ?_
      refine lv_iload_n hF.1 hF.2.1 dX8_may_26 rfl (lv_at hl 1 rfl) ?_
      refine kIald hF hK hP 1 rfl (by assumption) dX8_may_27 ?_
      refine lv_iconst (v := (nI 4)) hF.1 hF.2.1 dX8_may_28 (by decide) ?_
      refine lv_idiv hF.1 hF.2.1 dX8_may_29 (by decide) ?_
      refine lv_goto (tgt := 41) hF.1 hF.2.1 dX8_may_30 (by decide) ?_
      refine lv_istore_n (lv' := [(3, .int ((mF (ix d)) / (nI 4))), (0, .ref x), (1, .int d), (2, .int bt)]) hF.1 hF.2.1 dX8_may_41 rfl hl (by decide) rfl (fun ls hl => ?_)
      refine lv_iload_n hF.1 hF.2.1 dX8_may_42 rfl (lv_at hl 0 rfl) ?_
      refine lv_iload_n hF.1 hF.2.1 dX8_may_43 rfl (lv_at hl 3 rfl) ?_
      refine lv_ishr hF.1 hF.2.1 dX8_may_44 ?_
      refine lv_iconst (v := (nI 1)) hF.1 hF.2.1 dX8_may_45 (by decide) ?_
      refine lv_iand hF.1 hF.2.1 dX8_may_46 ?_
      refine lv_iconst (v := (nI 1)) hF.1 hF.2.1 dX8_may_47 (by decide) ?_
      refine lv_icmp_ne (tgt := 55) hF.1 hF.2.1 dX8_may_48 (by decide) (fun c_4 => ?_) (fun c_4 => ?_)
      · refine lv_iconst (v := (nI 0)) hF.1 hF.2.1 dX8_may_55 (by decide) ?_
        refine kRetI (v := (nI 0)) hF hr hlk hK hP hD hS hQ rfl () [0, 1, 2] (by decide) rfl (Nat.le_of_ble_eq_true rfl) (Nat.le_of_ble_eq_true rfl) dX8_may_56 ?_
        exact zI_0 (by unfold mayR; rintro (h | h); exact absurd h (by assumption); first | (rw [if_pos (by assumption)] at h; contradiction) | (rw [if_neg (by assumption)] at h; contradiction))
      · refine lv_iconst (v := (nI 1)) hF.1 hF.2.1 dX8_may_51 (by decide) ?_
        refine lv_goto (tgt := 56) hF.1 hF.2.1 dX8_may_52 (by decide) ?_
        refine kRetI (v := (nI 1)) hF hr hlk hK hP hD hS hQ rfl () [0, 1, 2] (by decide) rfl (Nat.le_of_ble_eq_true rfl) (Nat.le_of_ble_eq_true rfl) dX8_may_56 ?_
        exact zI_1 (by unfold mayR; first | exact Or.inl (by assumption) | (refine Or.inr ?_; first | (rw [if_pos (by assumption)]; assumption) | (rw [if_neg (by assumption)]; assumption)))
  · refine lv_iconst (v := (nI 1)) hF.1 hF.2.1 dX8_may_7 (by decide) ?_
    refine kRetI (v := (nI 1)) hF hr hlk hK hP hD hS hQ rfl () [0, 1, 2] (by decide) rfl (Nat.le_of_ble_eq_true rfl) (Nat.le_of_ble_eq_true rfl) dX8_may_8 ?_
    exact zI_1 (by unfold mayR; first | exact Or.inl (by assumption) | (refine Or.inr ?_; first | (rw [if_pos (by assumption)]; assumption) | (rw [if_neg (by assumption)]; assumption)))
set_option maxHeartbeats 4000000 in
set_option maxRecDepth 100000 in
theorem c_X8_coverOf (l : Launch) (G : GG) (sz : Nat) (x : Nat) (ak : Nat) (am : Nat) (ao : Nat) (av : Nat) (ap : Nat) (ax : Nat) (ay : Nat) (ad : Nat) (an : Nat) (ab : Nat) (ar : Nat) (ac : Nat) (at_ : Nat) (as_ : Nat) (aq : Nat) (ec : Nat) (vn : Nat) (tn : Nat) (sn : Nat) (qn : Nat) (hp : Nat) (ns : Nat) (us : Int32) (ro : Int32) (pr : Int32) (wa : Int32) (nm : Int64) (la : Prop) (sl : Prop) (cF : Nat → Int32) (d : Int32) (hvn : 1 ≤ vn ∧ vn ≤ 4) : CtI l G yX8_coverOf wsX8_coverOf 0 0 0 0 sz [.ref x, .int d] [oC x 8 [.ref ak, .ref am, .ref ao, .ref av, .ref ap, .ref ax, .ref ay, .int (nI ec), .ref ad, .ref an, .ref ab, .int (nI vn), .ref ar, .ref ac, .int us, .int ro, .int pr, .ref at_, .int (nI tn), .ref as_, .int (nI sn), .ref aq, .int (nI qn), .int wa, .int (nI hp), .long nm, .int (nI ns), .int (zI la), .int (zI sl)], aI G ac 4 cF] (fun r (_ : Unit) => r = (nI (cvR cF d vn))) (fun (_ : Unit) => [oC x 8 [.ref ak, .ref am, .ref ao, .ref av, .ref ap, .ref ax, .ref ay, .int (nI ec), .ref ad, .ref an, .ref ab, .int (nI vn), .ref ar, .ref ac, .int us, .int ro, .int pr, .ref at_, .int (nI tn), .ref as_, .int (nI sn), .ref aq, .int (nI qn), .int wa, .int (nI hp), .long nm, .int (nI ns), .int (zI la), .int (zI sl)], aI G ac 4 cF]) := by
  refine kMet (Qc := fun A => va_Qi _ (Bw G A _) A) (cc := cX8_coverOf) (nL := 4) (ret := some (.int)) (by decide) rfl (Nat.le_of_ble_eq_true rfl) ?_
  intro p e s m args below meth c A Q hF hr hlk hnme hK hP hD hA hS hQ hsz ls hl
  have hl : lv_has ls 4 [(0, .ref x), (1, .int d)] := hl
  refine lv_iconst (v := (nI 0)) hF.1 hF.2.1 dX8_coverOf_0 (by decide) ?_
  refine lv_istore_n (lv' := [(2, .int (nI 0)), (0, .ref x), (1, .int d)]) hF.1 hF.2.1 dX8_coverOf_1 rfl hl (by decide) rfl (fun ls hl => ?_)
  refine lv_iconst (v := (nI 1)) hF.1 hF.2.1 dX8_coverOf_2 (by decide) ?_
  refine lv_istore_n (lv' := [(3, .int (nI 1)), (2, .int (nI 0)), (0, .ref x), (1, .int d)]) hF.1 hF.2.1 dX8_coverOf_3 rfl hl (by decide) rfl (fun ls hl => ?_)
  have loop_4 : ∀ (n_4 : Nat) (k v : Nat), vn - k < n_4 → (1 ≤ k ∧ k ≤ vn) → (v = cvR cF d k) → ∀ (H : Heap) (locs : List Loc) (ls : Array Slot), PG G [oC x 8 [.ref ak, .ref am, .ref ao, .ref av, .ref ap, .ref ax, .ref ay, .int (nI ec), .ref ad, .ref an, .ref ab, .int (nI vn), .ref ar, .ref ac, .int us, .int ro, .int pr, .ref at_, .int (nI tn), .ref as_, .int (nI sn), .ref aq, .int (nI qn), .int wa, .int (nI hp), .long nm, .int (nI ns), .int (zI la), .int (zI sl)], aI G ac 4 cF] H → va_D A [oC x 8 [.ref ak, .ref am, .ref ao, .ref av, .ref ap, .ref ax, .ref ay, .int (nI ec), .ref ad, .ref an, .ref ab, .int (nI vn), .ref ar, .ref ac, .int us, .int ro, .int pr, .ref at_, .int (nI tn), .ref as_, .int (nI sn), .ref aq, .int (nI qn), .int wa, .int (nI hp), .long nm, .int (nI ns), .int (zI la), .int (zI sl)], aI G ac 4 cF] → va_S A s.heap H locs → lv_has ls 4 [(3, .int (nI k)), (2, .int (nI v)), (0, .ref x), (1, .int d)] → W p l e (Rm 0 0 0 0) s m args below meth c H locs 0 0 Q (F0 m 4 ls []) := by
    intro n_4
    induction n_4 with
    | zero => intro k v hm; exact absurd hm (Nat.not_lt_zero _)
    | succ n_4 ih_4 =>
      intro k v hm_4 hk hv H locs ls hP hD hS hl
      refine lv_iload_n hF.1 hF.2.1 dX8_coverOf_4 rfl (lv_at hl 0 rfl) ?_
      refine lv_aload_n hF.1 hF.2.1 dX8_coverOf_5 rfl (lv_at hl 2 rfl) ?_
      refine kGet (C := RX8) (T := TX8) (N := 29) (index := 41) hF hK hP (inT inBX8) 0 rfl rfl 11 (by decide) rfl (List.mem_cons_of_mem _ mF_X8_41) rfl dX8_coverOf_6 ?_
      refine kGeN (tgt := 34) hF dX8_coverOf_9 (by decide) (by omega) (by omega) (fun c_1 => ?_) (fun c_1 => ?_)
      · refine lv_iload_n hF.1 hF.2.1 dX8_coverOf_34 rfl (lv_at hl 1 rfl) ?_
        refine kRetI (v := (nI v)) hF hr hlk hK hP hD hS hQ rfl () [0, 1] (by decide) rfl (Nat.le_of_ble_eq_true rfl) (Nat.le_of_ble_eq_true rfl) dX8_coverOf_35 ?_
        rw [hv, show k = vn by omega]
      · refine lv_aload_n hF.1 hF.2.1 dX8_coverOf_12 rfl (lv_at hl 2 rfl) ?_
        refine kGet (C := RX8) (T := TX8) (N := 29) (index := 48) hF hK hP (inT inBX8) 0 rfl rfl 13 (by decide) rfl (List.mem_cons_of_mem _ mF_X8_48) rfl dX8_coverOf_13 ?_
        refine lv_iload_n hF.1 hF.2.1 dX8_coverOf_16 rfl (lv_at hl 0 rfl) ?_
        refine kIaldN hF hK hP 1 rfl (by omega) (by decide) dX8_coverOf_17 ?_
        refine lv_iload_n hF.1 hF.2.1 dX8_coverOf_18 rfl (lv_at hl 3 rfl) ?_
        refine lv_icmp_ne (tgt := 26) hF.1 hF.2.1 dX8_coverOf_19 (by decide) (fun c_2 => ?_) (fun c_2 => ?_)
        · refine lv_iload_n hF.1 hF.2.1 dX8_coverOf_26 rfl (lv_at hl 1 rfl) ?_
          refine lv_istore_n (lv' := [(2, .int (nI v)), (3, .int (nI k)), (0, .ref x), (1, .int d)]) hF.1 hF.2.1 dX8_coverOf_27 rfl hl (by decide) rfl (fun ls hl => ?_)
          refine lv_iinc (v := (nI (k + 1))) (lv' := [(3, .int (nI (k + 1))), (2, .int (nI v)), (0, .ref x), (1, .int d)]) hF.1 hF.2.1 dX8_coverOf_28 hl (k := 1) rfl (nI_inc1 _) (by decide) rfl (fun ls hl => ?_)
          refine lv_goto (tgt := 4) hF.1 hF.2.1 dX8_coverOf_31 (by decide) ?_
          exact ih_4 (k + 1) v (by omega) (by omega) (by first | exact (cvR_t (by omega) (by assumption)).symm | exact hv.trans (cvR_f (by assumption)).symm) H locs ls hP hD hS (lv_sub hl [0, 1, 2, 3] rfl)
        · refine lv_iload_n hF.1 hF.2.1 dX8_coverOf_22 rfl (lv_at hl 0 rfl) ?_
          refine lv_goto (tgt := 27) hF.1 hF.2.1 dX8_coverOf_23 (by decide) ?_
          refine lv_istore_n (lv' := [(2, .int (nI k)), (3, .int (nI k)), (0, .ref x), (1, .int d)]) hF.1 hF.2.1 dX8_coverOf_27 rfl hl (by decide) rfl (fun ls hl => ?_)
          refine lv_iinc (v := (nI (k + 1))) (lv' := [(3, .int (nI (k + 1))), (2, .int (nI k)), (0, .ref x), (1, .int d)]) hF.1 hF.2.1 dX8_coverOf_28 hl (k := 1) rfl (nI_inc1 _) (by decide) rfl (fun ls hl => ?_)
          refine lv_goto (tgt := 4) hF.1 hF.2.1 dX8_coverOf_31 (by decide) ?_
          exact ih_4 (k + 1) k (by omega) (by omega) (by first | exact (cvR_t (by omega) (by assumption)).symm | exact hv.trans (cvR_f (by assumption)).symm) H locs ls hP hD hS (lv_sub hl [0, 1, 2, 3] rfl)
  exact loop_4 _ 1 0 (Nat.lt_succ_self _) (by omega) ((cvR_1 cF d).symm) _ _ _ hP hD hS (lv_sub hl [0, 1, 2, 3] rfl)
set_option maxHeartbeats 4000000 in
set_option maxRecDepth 100000 in
theorem c_X8_top (l : Launch) (G : GG) (sz : Nat) (x : Nat) (ak : Nat) (am : Nat) (ao : Nat) (av : Nat) (ap : Nat) (ax : Nat) (ay : Nat) (ad : Nat) (an : Nat) (ab : Nat) (ar : Nat) (ac : Nat) (at_ : Nat) (as_ : Nat) (aq : Nat) (ec : Nat) (vn : Nat) (tn : Nat) (sn : Nat) (qn : Nat) (hp : Nat) (ns : Nat) (us : Int32) (ro : Int32) (pr : Int32) (wa : Int32) (nm : Int64) (la : Prop) (sl : Prop) (rF : Nat → Int32) (cF : Nat → Int32) (d : Int32) (hvn : 1 ≤ vn ∧ vn ≤ 4) : CtI l G yX8_top wsX8_top 1 23 0 0 sz [.ref x, .int d] [oC x 8 [.ref ak, .ref am, .ref ao, .ref av, .ref ap, .ref ax, .ref ay, .int (nI ec), .ref ad, .ref an, .ref ab, .int (nI vn), .ref ar, .ref ac, .int us, .int ro, .int pr, .ref at_, .int (nI tn), .ref as_, .int (nI sn), .ref aq, .int (nI qn), .int wa, .int (nI hp), .long nm, .int (nI ns), .int (zI la), .int (zI sl)], aI G ar 4 rF, aI G ac 4 cF] (fun r (_ : Unit) => r = (topR rF cF vn 5 d)) (fun (_ : Unit) => [oC x 8 [.ref ak, .ref am, .ref ao, .ref av, .ref ap, .ref ax, .ref ay, .int (nI ec), .ref ad, .ref an, .ref ab, .int (nI vn), .ref ar, .ref ac, .int us, .int ro, .int pr, .ref at_, .int (nI tn), .ref as_, .int (nI sn), .ref aq, .int (nI qn), .int wa, .int (nI hp), .long nm, .int (nI ns), .int (zI la), .int (zI sl)], aI G ar 4 rF, aI G ac 4 cF]) := by
  refine kMet (Qc := fun A => va_Qi _ (Bw G A _) A) (cc := cX8_top) (nL := 4) (ret := some (.int)) (by decide) rfl (Nat.le_of_ble_eq_true rfl) ?_
  intro p e s m args below meth c A Q hF hr hlk hnme hK hP hD hA hS hQ hsz ls hl
  have hl : lv_has ls 4 [(0, .ref x), (1, .int d)] := hl
  refine lv_iload_n hF.1 hF.2.1 dX8_top_0 rfl (lv_at hl 1 rfl) ?_
  refine lv_istore_n (lv' := [(2, .int d), (0, .ref x), (1, .int d)]) hF.1 hF.2.1 dX8_top_1 rfl hl (by decide) rfl (fun ls hl => ?_)
  refine lv_iconst (v := (nI 0)) hF.1 hF.2.1 dX8_top_2 (by decide) ?_
  refine lv_istore_n (lv' := [(3, .int (nI 0)), (2, .int d), (0, .ref x), (1, .int d)]) hF.1 hF.2.1 dX8_top_3 rfl hl (by decide) rfl (fun ls hl => ?_)
  have loop_4 : ∀ (n_4 : Nat) (k : Nat) (h : Int32), 5 - k < n_4 → (k ≤ 5) → (topR rF cF vn (5 - k) h = topR rF cF vn 5 d) → ∀ (H : Heap) (locs : List Loc) (ls : Array Slot), PG G [oC x 8 [.ref ak, .ref am, .ref ao, .ref av, .ref ap, .ref ax, .ref ay, .int (nI ec), .ref ad, .ref an, .ref ab, .int (nI vn), .ref ar, .ref ac, .int us, .int ro, .int pr, .ref at_, .int (nI tn), .ref as_, .int (nI sn), .ref aq, .int (nI qn), .int wa, .int (nI hp), .long nm, .int (nI ns), .int (zI la), .int (zI sl)], aI G ar 4 rF, aI G ac 4 cF] H → va_D A [oC x 8 [.ref ak, .ref am, .ref ao, .ref av, .ref ap, .ref ax, .ref ay, .int (nI ec), .ref ad, .ref an, .ref ab, .int (nI vn), .ref ar, .ref ac, .int us, .int ro, .int pr, .ref at_, .int (nI tn), .ref as_, .int (nI sn), .ref aq, .int (nI qn), .int wa, .int (nI hp), .long nm, .int (nI ns), .int (zI la), .int (zI sl)], aI G ar 4 rF, aI G ac 4 cF] → va_S A s.heap H locs → lv_has ls 4 [(3, .int (nI k)), (2, .int h), (0, .ref x), (1, .int d)] → W p l e (Rm 1 0 0 23) s m args below meth c H locs 0 0 Q (F0 m 4 ls []) := by
    intro n_4
    induction n_4 with
    | zero => intro k h hm; exact absurd hm (Nat.not_lt_zero _)
    | succ n_4 ih_4 =>
      intro k h hm_4 hk hR H locs ls hP hD hS hl
      refine lv_iload_n hF.1 hF.2.1 dX8_top_4 rfl (lv_at hl 0 rfl) ?_
      refine lv_iconst (v := (nI 5)) hF.1 hF.2.1 dX8_top_5 (by decide) ?_
      refine kGeN (tgt := 34) hF dX8_top_6 (by decide) (by omega) (by omega) (fun c_1 => ?_) (fun c_1 => ?_)
      · refine lv_iload_n hF.1 hF.2.1 dX8_top_34 rfl (lv_at hl 1 rfl) ?_
        refine kRetI (v := h) hF hr hlk hK hP hD hS hQ rfl () [0, 1, 2] (by decide) rfl (Nat.le_of_ble_eq_true rfl) (Nat.le_of_ble_eq_true rfl) dX8_top_35 ?_
        rw [← hR]; first | rw [topR_e (by omega)] | rw [topR_r (by omega)]
      · refine lv_aload_n hF.1 hF.2.1 dX8_top_9 rfl (lv_at hl 2 rfl) ?_
        refine lv_iload_n hF.1 hF.2.1 dX8_top_10 rfl (lv_at hl 1 rfl) ?_
        refine kCallI (wr := [aI G ar 4 rF]) (va_runV (As := [.int h]) (rest := []) hF (c_X8_coverOf l G _ x ak am ao av ap ax ay ad an ab ar ac at_ as_ aq ec vn tn sn qn hp ns us ro pr wa nm la sl cF h (by first | assumption | omega)) (cwVB 1 hF rfl mL_X8_69 mI_X8_coverOf mS_X8_coverOf mN_X8 mC_X8_coverOf rfl hd_X8_coverOf rfl rfl ⟨Nat.le_of_ble_eq_true rfl, Nat.le_of_ble_eq_true rfl⟩) (kPre hK hP hD [0, 2] (by decide) rfl (q0 := 0) (ci := 8) rfl rfl rfl) rfl rfl hl.1 rfl (lv_room (Nat.le_of_ble_eq_true rfl)) dX8_top_11 ⟨Nat.le_of_ble_eq_true rfl, Nat.le_of_ble_eq_true rfl⟩) hP hD hS hA [0, 2] [1] rfl rfl (by decide) (by decide) (fun r u H locs hw_2 hP hD hS => ?_)
        have hw_2 := hw_2.symm
        subst hw_2
        have hP : PG G [oC x 8 [.ref ak, .ref am, .ref ao, .ref av, .ref ap, .ref ax, .ref ay, .int (nI ec), .ref ad, .ref an, .ref ab, .int (nI vn), .ref ar, .ref ac, .int us, .int ro, .int pr, .ref at_, .int (nI tn), .ref as_, .int (nI sn), .ref aq, .int (nI qn), .int wa, .int (nI hp), .long nm, .int (nI ns), .int (zI la), .int (zI sl)], aI G ar 4 rF, aI G ac 4 cF] H := va_P.sub hP [1, 0, 2] rfl
        have hD : va_D A [oC x 8 [.ref ak, .ref am, .ref ao, .ref av, .ref ap, .ref ax, .ref ay, .int (nI ec), .ref ad, .ref an, .ref ab, .int (nI vn), .ref ar, .ref ac, .int us, .int ro, .int pr, .ref at_, .int (nI tn), .ref as_, .int (nI sn), .ref aq, .int (nI qn), .int wa, .int (nI hp), .long nm, .int (nI ns), .int (zI la), .int (zI sl)], aI G ar 4 rF, aI G ac 4 cF] := va_D.sub hD [1, 0, 2] (by decide) rfl
        have hfc_3 := cvR_lt2 cF h vn (by omega)
        refine kIfLeN (tgt := 34) hF dX8_top_14 (by decide) (by omega) (fun c_4 => ?_) (fun c_4 => ?_)
        · refine lv_iload_n hF.1 hF.2.1 dX8_top_34 rfl (lv_at hl 1 rfl) ?_
          refine kRetI (v := h) hF hr hlk hK hP hD hS hQ rfl () [0, 1, 2] (by decide) rfl (Nat.le_of_ble_eq_true rfl) (Nat.le_of_ble_eq_true rfl) dX8_top_35 ?_
          rw [← hR]; first | rw [topR_e (by omega)] | rw [topR_r (by omega)]
        · refine lv_aload_n hF.1 hF.2.1 dX8_top_17 rfl (lv_at hl 2 rfl) ?_
          refine kGet (C := RX8) (T := TX8) (N := 29) (index := 45) hF hK hP (inT inBX8) 0 rfl rfl 12 (by decide) rfl (List.mem_cons_of_mem _ mF_X8_45) rfl dX8_top_18 ?_
          refine lv_aload_n hF.1 hF.2.1 dX8_top_21 rfl (lv_at hl 2 rfl) ?_
          refine lv_iload_n hF.1 hF.2.1 dX8_top_22 rfl (lv_at hl 1 rfl) ?_
          refine kCallI (wr := [aI G ar 4 rF]) (va_runV (As := [.int h]) (rest := [.ref ar]) hF (c_X8_coverOf l G H.size x ak am ao av ap ax ay ad an ab ar ac at_ as_ aq ec vn tn sn qn hp ns us ro pr wa nm la sl cF h (by first | assumption | omega)) (cwVB 1 hF rfl mL_X8_69 mI_X8_coverOf mS_X8_coverOf mN_X8 mC_X8_coverOf rfl hd_X8_coverOf rfl rfl ⟨Nat.le_of_ble_eq_true rfl, Nat.le_of_ble_eq_true rfl⟩) (kPre hK hP hD [0, 2] (by decide) rfl (q0 := 0) (ci := 8) rfl rfl rfl) rfl rfl hl.1 rfl (lv_room (Nat.le_of_ble_eq_true rfl)) dX8_top_23 ⟨Nat.le_of_ble_eq_true rfl, Nat.le_of_ble_eq_true rfl⟩) hP hD hS hA [0, 2] [1] rfl rfl (by decide) (by decide) (fun r u H locs hw_5 hP hD hS => ?_)
          have hw_5 := hw_5.symm
          subst hw_5
          have hP : PG G [oC x 8 [.ref ak, .ref am, .ref ao, .ref av, .ref ap, .ref ax, .ref ay, .int (nI ec), .ref ad, .ref an, .ref ab, .int (nI vn), .ref ar, .ref ac, .int us, .int ro, .int pr, .ref at_, .int (nI tn), .ref as_, .int (nI sn), .ref aq, .int (nI qn), .int wa, .int (nI hp), .long nm, .int (nI ns), .int (zI la), .int (zI sl)], aI G ar 4 rF, aI G ac 4 cF] H := va_P.sub hP [1, 0, 2] rfl
          have hD : va_D A [oC x 8 [.ref ak, .ref am, .ref ao, .ref av, .ref ap, .ref ax, .ref ay, .int (nI ec), .ref ad, .ref an, .ref ab, .int (nI vn), .ref ar, .ref ac, .int us, .int ro, .int pr, .ref at_, .int (nI tn), .ref as_, .int (nI sn), .ref aq, .int (nI qn), .int wa, .int (nI hp), .long nm, .int (nI ns), .int (zI la), .int (zI sl)], aI G ar 4 rF, aI G ac 4 cF] := va_D.sub hD [1, 0, 2] (by decide) rfl
          have hfc_6 := cvR_lt2 cF h vn (by omega)
          refine kIaldN hF hK hP 1 rfl (by omega) (by decide) dX8_top_26 ?_
          refine lv_istore_n (lv' := [(2, .int (rF (cvR cF h vn))), (3, .int (nI k)), (0, .ref x), (1, .int d)]) hF.1 hF.2.1 dX8_top_27 rfl hl (by decide) rfl (fun ls hl => ?_)
          refine lv_iinc (v := (nI (k + 1))) (lv' := [(3, .int (nI (k + 1))), (2, .int (rF (cvR cF h vn))), (0, .ref x), (1, .int d)]) hF.1 hF.2.1 dX8_top_28 hl (k := 1) rfl (nI_inc1 _) (by decide) rfl (fun ls hl => ?_)
          refine lv_goto (tgt := 4) hF.1 hF.2.1 dX8_top_31 (by decide) ?_
          exact ih_4 (k + 1) (rF (cvR cF h vn)) (by omega) (by omega) (by rw [← hR]; exact (topR_s (by omega) (by omega)).symm) H locs ls hP hD hS (lv_sub hl [0, 1, 2, 3] rfl)
  exact loop_4 _ 0 d (Nat.lt_succ_self _) (by omega) (rfl) _ _ _ hP hD hS (lv_sub hl [0, 1, 2, 3] rfl)
set_option maxHeartbeats 4000000 in
set_option maxRecDepth 100000 in
theorem c_X8_mountedAt (l : Launch) (G : GG) (sz : Nat) (x : Nat) (ak : Nat) (am : Nat) (ao : Nat) (av : Nat) (ap : Nat) (ax : Nat) (ay : Nat) (ad : Nat) (an : Nat) (ab : Nat) (ar : Nat) (ac : Nat) (at_ : Nat) (as_ : Nat) (aq : Nat) (ec : Nat) (vn : Nat) (tn : Nat) (sn : Nat) (qn : Nat) (hp : Nat) (ns : Nat) (us : Int32) (ro : Int32) (pr : Int32) (wa : Int32) (nm : Int64) (la : Prop) (sl : Prop) (rF : Nat → Int32) (cF : Nat → Int32) (d : Int32) (hvn : 1 ≤ vn ∧ vn ≤ 4) : CtI l G yX8_mountedAt wsX8_mountedAt 0 0 0 0 sz [.ref x, .int d] [oC x 8 [.ref ak, .ref am, .ref ao, .ref av, .ref ap, .ref ax, .ref ay, .int (nI ec), .ref ad, .ref an, .ref ab, .int (nI vn), .ref ar, .ref ac, .int us, .int ro, .int pr, .ref at_, .int (nI tn), .ref as_, .int (nI sn), .ref aq, .int (nI qn), .int wa, .int (nI hp), .long nm, .int (nI ns), .int (zI la), .int (zI sl)], aI G ar 4 rF, aI G ac 4 cF] (fun r (_ : Unit) => r = (nI (mwR rF cF d vn))) (fun (_ : Unit) => [oC x 8 [.ref ak, .ref am, .ref ao, .ref av, .ref ap, .ref ax, .ref ay, .int (nI ec), .ref ad, .ref an, .ref ab, .int (nI vn), .ref ar, .ref ac, .int us, .int ro, .int pr, .ref at_, .int (nI tn), .ref as_, .int (nI sn), .ref aq, .int (nI qn), .int wa, .int (nI hp), .long nm, .int (nI ns), .int (zI la), .int (zI sl)], aI G ar 4 rF, aI G ac 4 cF]) := by
  refine kMet (Qc := fun A => va_Qi _ (Bw G A _) A) (cc := cX8_mountedAt) (nL := 4) (ret := some (.int)) (by decide) rfl (Nat.le_of_ble_eq_true rfl) ?_
  intro p e s m args below meth c A Q hF hr hlk hnme hK hP hD hA hS hQ hsz ls hl
  have hl : lv_has ls 4 [(0, .ref x), (1, .int d)] := hl
  refine lv_iconst (v := (nI 0)) hF.1 hF.2.1 dX8_mountedAt_0 (by decide) ?_
  refine lv_istore_n (lv' := [(2, .int (nI 0)), (0, .ref x), (1, .int d)]) hF.1 hF.2.1 dX8_mountedAt_1 rfl hl (by decide) rfl (fun ls hl => ?_)
  refine lv_iconst (v := (nI 1)) hF.1 hF.2.1 dX8_mountedAt_2 (by decide) ?_
  refine lv_istore_n (lv' := [(3, .int (nI 1)), (2, .int (nI 0)), (0, .ref x), (1, .int d)]) hF.1 hF.2.1 dX8_mountedAt_3 rfl hl (by decide) rfl (fun ls hl => ?_)
  have loop_4 : ∀ (n_4 : Nat) (k v : Nat), vn - k < n_4 → (1 ≤ k ∧ k ≤ vn) → (v = mwR rF cF d k) → ∀ (H : Heap) (locs : List Loc) (ls : Array Slot), PG G [oC x 8 [.ref ak, .ref am, .ref ao, .ref av, .ref ap, .ref ax, .ref ay, .int (nI ec), .ref ad, .ref an, .ref ab, .int (nI vn), .ref ar, .ref ac, .int us, .int ro, .int pr, .ref at_, .int (nI tn), .ref as_, .int (nI sn), .ref aq, .int (nI qn), .int wa, .int (nI hp), .long nm, .int (nI ns), .int (zI la), .int (zI sl)], aI G ar 4 rF, aI G ac 4 cF] H → va_D A [oC x 8 [.ref ak, .ref am, .ref ao, .ref av, .ref ap, .ref ax, .ref ay, .int (nI ec), .ref ad, .ref an, .ref ab, .int (nI vn), .ref ar, .ref ac, .int us, .int ro, .int pr, .ref at_, .int (nI tn), .ref as_, .int (nI sn), .ref aq, .int (nI qn), .int wa, .int (nI hp), .long nm, .int (nI ns), .int (zI la), .int (zI sl)], aI G ar 4 rF, aI G ac 4 cF] → va_S A s.heap H locs → lv_has ls 4 [(3, .int (nI k)), (2, .int (nI v)), (0, .ref x), (1, .int d)] → W p l e (Rm 0 0 0 0) s m args below meth c H locs 0 0 Q (F0 m 4 ls []) := by
    intro n_4
    induction n_4 with
    | zero => intro k v hm; exact absurd hm (Nat.not_lt_zero _)
    | succ n_4 ih_4 =>
      intro k v hm_4 hk hv H locs ls hP hD hS hl
      refine lv_iload_n hF.1 hF.2.1 dX8_mountedAt_4 rfl (lv_at hl 0 rfl) ?_
      refine lv_aload_n hF.1 hF.2.1 dX8_mountedAt_5 rfl (lv_at hl 2 rfl) ?_
      refine kGet (C := RX8) (T := TX8) (N := 29) (index := 41) hF hK hP (inT inBX8) 0 rfl rfl 11 (by decide) rfl (List.mem_cons_of_mem _ mF_X8_41) rfl dX8_mountedAt_6 ?_
      refine kGeN (tgt := 43) hF dX8_mountedAt_9 (by decide) (by omega) (by omega) (fun c_1 => ?_) (fun c_1 => ?_)
      · refine lv_iload_n hF.1 hF.2.1 dX8_mountedAt_43 rfl (lv_at hl 1 rfl) ?_
        refine kRetI (v := (nI v)) hF hr hlk hK hP hD hS hQ rfl () [0, 1, 2] (by decide) rfl (Nat.le_of_ble_eq_true rfl) (Nat.le_of_ble_eq_true rfl) dX8_mountedAt_44 ?_
        rw [hv, show k = vn by omega]
      · refine lv_aload_n hF.1 hF.2.1 dX8_mountedAt_12 rfl (lv_at hl 2 rfl) ?_
        refine kGet (C := RX8) (T := TX8) (N := 29) (index := 45) hF hK hP (inT inBX8) 0 rfl rfl 12 (by decide) rfl (List.mem_cons_of_mem _ mF_X8_45) rfl dX8_mountedAt_13 ?_
        refine lv_iload_n hF.1 hF.2.1 dX8_mountedAt_16 rfl (lv_at hl 0 rfl) ?_
        refine kIaldN hF hK hP 1 rfl (by omega) (by decide) dX8_mountedAt_17 ?_
        refine lv_iload_n hF.1 hF.2.1 dX8_mountedAt_18 rfl (lv_at hl 3 rfl) ?_
        refine lv_icmp_ne (tgt := 35) hF.1 hF.2.1 dX8_mountedAt_19 (by decide) (fun c_2 => ?_) (fun c_2 => ?_)
        · refine lv_iload_n hF.1 hF.2.1 dX8_mountedAt_35 rfl (lv_at hl 1 rfl) ?_
          refine lv_istore_n (lv' := [(2, .int (nI v)), (3, .int (nI k)), (0, .ref x), (1, .int d)]) hF.1 hF.2.1 dX8_mountedAt_36 rfl hl (by decide) rfl (fun ls hl => ?_)
          refine lv_iinc (v := (nI (k + 1))) (lv' := [(3, .int (nI (k + 1))), (2, .int (nI v)), (0, .ref x), (1, .int d)]) hF.1 hF.2.1 dX8_mountedAt_37 hl (k := 1) rfl (nI_inc1 _) (by decide) rfl (fun ls hl => ?_)
          refine lv_goto (tgt := 4) hF.1 hF.2.1 dX8_mountedAt_40 (by decide) ?_
          exact ih_4 (k + 1) v (by omega) (by omega) (by first | exact (mwR_t (by omega) (by assumption) (by assumption)).symm | exact hv.trans (mwR_f (fun h => by first | exact absurd h.1 (by assumption) | exact absurd (by assumption) h.2)).symm) H locs ls hP hD hS (lv_sub hl [0, 1, 2, 3] rfl)
        · refine lv_aload_n hF.1 hF.2.1 dX8_mountedAt_22 rfl (lv_at hl 2 rfl) ?_
          refine kGet (C := RX8) (T := TX8) (N := 29) (index := 48) hF hK hP (inT inBX8) 0 rfl rfl 13 (by decide) rfl (List.mem_cons_of_mem _ mF_X8_48) rfl dX8_mountedAt_23 ?_
          refine lv_iload_n hF.1 hF.2.1 dX8_mountedAt_26 rfl (lv_at hl 0 rfl) ?_
          refine kIaldN hF hK hP 2 rfl (by omega) (by decide) dX8_mountedAt_27 ?_
          refine lv_if_lt (tgt := 35) hF.1 hF.2.1 dX8_mountedAt_28 (by decide) (fun c_3 => ?_) (fun c_3 => ?_)
          · refine lv_iload_n hF.1 hF.2.1 dX8_mountedAt_35 rfl (lv_at hl 1 rfl) ?_
            refine lv_istore_n (lv' := [(2, .int (nI v)), (3, .int (nI k)), (0, .ref x), (1, .int d)]) hF.1 hF.2.1 dX8_mountedAt_36 rfl hl (by decide) rfl (fun ls hl => ?_)
            refine lv_iinc (v := (nI (k + 1))) (lv' := [(3, .int (nI (k + 1))), (2, .int (nI v)), (0, .ref x), (1, .int d)]) hF.1 hF.2.1 dX8_mountedAt_37 hl (k := 1) rfl (nI_inc1 _) (by decide) rfl (fun ls hl => ?_)
            refine lv_goto (tgt := 4) hF.1 hF.2.1 dX8_mountedAt_40 (by decide) ?_
            exact ih_4 (k + 1) v (by omega) (by omega) (by first | exact (mwR_t (by omega) (by assumption) (by assumption)).symm | exact hv.trans (mwR_f (fun h => by first | exact absurd h.1 (by assumption) | exact absurd (by assumption) h.2)).symm) H locs ls hP hD hS (lv_sub hl [0, 1, 2, 3] rfl)
          · refine lv_iload_n hF.1 hF.2.1 dX8_mountedAt_31 rfl (lv_at hl 0 rfl) ?_
            refine lv_goto (tgt := 36) hF.1 hF.2.1 dX8_mountedAt_32 (by decide) ?_
            refine lv_istore_n (lv' := [(2, .int (nI k)), (3, .int (nI k)), (0, .ref x), (1, .int d)]) hF.1 hF.2.1 dX8_mountedAt_36 rfl hl (by decide) rfl (fun ls hl => ?_)
            refine lv_iinc (v := (nI (k + 1))) (lv' := [(3, .int (nI (k + 1))), (2, .int (nI k)), (0, .ref x), (1, .int d)]) hF.1 hF.2.1 dX8_mountedAt_37 hl (k := 1) rfl (nI_inc1 _) (by decide) rfl (fun ls hl => ?_)
            refine lv_goto (tgt := 4) hF.1 hF.2.1 dX8_mountedAt_40 (by decide) ?_
            exact ih_4 (k + 1) k (by omega) (by omega) (by first | exact (mwR_t (by omega) (by assumption) (by assumption)).symm | exact hv.trans (mwR_f (fun h => by first | exact absurd h.1 (by assumption) | exact absurd (by assumption) h.2)).symm) H locs ls hP hD hS (lv_sub hl [0, 1, 2, 3] rfl)
  exact loop_4 _ 1 0 (Nat.lt_succ_self _) (by omega) ((mwR_1 rF cF d).symm) _ _ _ hP hD hS (lv_sub hl [0, 1, 2, 3] rfl)
set_option maxHeartbeats 4000000 in
set_option maxRecDepth 100000 in
theorem c_X8_seat (l : Launch) (G : GG) (sz : Nat) (x : Nat) (ak : Nat) (am : Nat) (ao : Nat) (av : Nat) (ap : Nat) (ax : Nat) (ay : Nat) (ad : Nat) (an : Nat) (ab : Nat) (ar : Nat) (ac : Nat) (at_ : Nat) (as_ : Nat) (aq : Nat) (ec : Nat) (vn : Nat) (tn : Nat) (sn : Nat) (qn : Nat) (hp : Nat) (ns : Nat) (us : Int32) (ro : Int32) (pr : Int32) (wa : Int32) (nm : Int64) (la : Prop) (sl : Prop) (rF : Nat → Int32) (cF : Nat → Int32) (d : Int32) (hvn : 1 ≤ vn ∧ vn ≤ 4) : CtI l G yX8_seat wsX8_seat 1 23 0 0 sz [.ref x, .int d] [oC x 8 [.ref ak, .ref am, .ref ao, .ref av, .ref ap, .ref ax, .ref ay, .int (nI ec), .ref ad, .ref an, .ref ab, .int (nI vn), .ref ar, .ref ac, .int us, .int ro, .int pr, .ref at_, .int (nI tn), .ref as_, .int (nI sn), .ref aq, .int (nI qn), .int wa, .int (nI hp), .long nm, .int (nI ns), .int (zI la), .int (zI sl)], aI G ar 4 rF, aI G ac 4 cF] (fun r (_ : Unit) => r = (grdR rF cF vn 5 d)) (fun (_ : Unit) => [oC x 8 [.ref ak, .ref am, .ref ao, .ref av, .ref ap, .ref ax, .ref ay, .int (nI ec), .ref ad, .ref an, .ref ab, .int (nI vn), .ref ar, .ref ac, .int us, .int ro, .int pr, .ref at_, .int (nI tn), .ref as_, .int (nI sn), .ref aq, .int (nI qn), .int wa, .int (nI hp), .long nm, .int (nI ns), .int (zI la), .int (zI sl)], aI G ar 4 rF, aI G ac 4 cF]) := by
  refine kMet (Qc := fun A => va_Qi _ (Bw G A _) A) (cc := cX8_seat) (nL := 4) (ret := some (.int)) (by decide) rfl (Nat.le_of_ble_eq_true rfl) ?_
  intro p e s m args below meth c A Q hF hr hlk hnme hK hP hD hA hS hQ hsz ls hl
  have hl : lv_has ls 4 [(0, .ref x), (1, .int d)] := hl
  refine lv_iload_n hF.1 hF.2.1 dX8_seat_0 rfl (lv_at hl 1 rfl) ?_
  refine lv_istore_n (lv' := [(2, .int d), (0, .ref x), (1, .int d)]) hF.1 hF.2.1 dX8_seat_1 rfl hl (by decide) rfl (fun ls hl => ?_)
  refine lv_iconst (v := (nI 0)) hF.1 hF.2.1 dX8_seat_2 (by decide) ?_
  refine lv_istore_n (lv' := [(3, .int (nI 0)), (2, .int d), (0, .ref x), (1, .int d)]) hF.1 hF.2.1 dX8_seat_3 rfl hl (by decide) rfl (fun ls hl => ?_)
  have loop_4 : ∀ (n_4 : Nat) (k : Nat) (h : Int32), 5 - k < n_4 → (k ≤ 5) → (grdR rF cF vn (5 - k) h = grdR rF cF vn 5 d) → ∀ (H : Heap) (locs : List Loc) (ls : Array Slot), PG G [oC x 8 [.ref ak, .ref am, .ref ao, .ref av, .ref ap, .ref ax, .ref ay, .int (nI ec), .ref ad, .ref an, .ref ab, .int (nI vn), .ref ar, .ref ac, .int us, .int ro, .int pr, .ref at_, .int (nI tn), .ref as_, .int (nI sn), .ref aq, .int (nI qn), .int wa, .int (nI hp), .long nm, .int (nI ns), .int (zI la), .int (zI sl)], aI G ar 4 rF, aI G ac 4 cF] H → va_D A [oC x 8 [.ref ak, .ref am, .ref ao, .ref av, .ref ap, .ref ax, .ref ay, .int (nI ec), .ref ad, .ref an, .ref ab, .int (nI vn), .ref ar, .ref ac, .int us, .int ro, .int pr, .ref at_, .int (nI tn), .ref as_, .int (nI sn), .ref aq, .int (nI qn), .int wa, .int (nI hp), .long nm, .int (nI ns), .int (zI la), .int (zI sl)], aI G ar 4 rF, aI G ac 4 cF] → va_S A s.heap H locs → lv_has ls 4 [(3, .int (nI k)), (2, .int h), (0, .ref x), (1, .int d)] → W p l e (Rm 1 0 0 23) s m args below meth c H locs 0 0 Q (F0 m 4 ls []) := by
    intro n_4
    induction n_4 with
    | zero => intro k h hm; exact absurd hm (Nat.not_lt_zero _)
    | succ n_4 ih_4 =>
      intro k h hm_4 hk hR H locs ls hP hD hS hl
      refine lv_iload_n hF.1 hF.2.1 dX8_seat_4 rfl (lv_at hl 0 rfl) ?_
      refine lv_iconst (v := (nI 5)) hF.1 hF.2.1 dX8_seat_5 (by decide) ?_
      refine kGeN (tgt := 34) hF dX8_seat_6 (by decide) (by omega) (by omega) (fun c_1 => ?_) (fun c_1 => ?_)
      · refine lv_iload_n hF.1 hF.2.1 dX8_seat_34 rfl (lv_at hl 1 rfl) ?_
        refine kRetI (v := h) hF hr hlk hK hP hD hS hQ rfl () [0, 1, 2] (by decide) rfl (Nat.le_of_ble_eq_true rfl) (Nat.le_of_ble_eq_true rfl) dX8_seat_35 ?_
        rw [← hR]; first | rw [grdR_e (by omega)] | rw [grdR_r (by omega)]
      · refine lv_aload_n hF.1 hF.2.1 dX8_seat_9 rfl (lv_at hl 2 rfl) ?_
        refine lv_iload_n hF.1 hF.2.1 dX8_seat_10 rfl (lv_at hl 1 rfl) ?_
        refine kCallI (wr := []) (va_runV (As := [.int h]) (rest := []) hF (c_X8_mountedAt l G _ x ak am ao av ap ax ay ad an ab ar ac at_ as_ aq ec vn tn sn qn hp ns us ro pr wa nm la sl rF cF h (by first | assumption | omega)) (cwVB 1 hF rfl mL_X8_73 mI_X8_mountedAt mS_X8_mountedAt mN_X8 mC_X8_mountedAt rfl hd_X8_mountedAt rfl rfl ⟨Nat.le_of_ble_eq_true rfl, Nat.le_of_ble_eq_true rfl⟩) (kPre hK hP hD [0, 1, 2] (by decide) rfl (q0 := 0) (ci := 8) rfl rfl rfl) rfl rfl hl.1 rfl (lv_room (Nat.le_of_ble_eq_true rfl)) dX8_seat_11 ⟨Nat.le_of_ble_eq_true rfl, Nat.le_of_ble_eq_true rfl⟩) hP hD hS hA [0, 1, 2] [] rfl rfl (by decide) (by decide) (fun r u H locs hw_2 hP hD hS => ?_)
        have hw_2 := hw_2.symm
        subst hw_2
        have hP : PG G [oC x 8 [.ref ak, .ref am, .ref ao, .ref av, .ref ap, .ref ax, .ref ay, .int (nI ec), .ref ad, .ref an, .ref ab, .int (nI vn), .ref ar, .ref ac, .int us, .int ro, .int pr, .ref at_, .int (nI tn), .ref as_, .int (nI sn), .ref aq, .int (nI qn), .int wa, .int (nI hp), .long nm, .int (nI ns), .int (zI la), .int (zI sl)], aI G ar 4 rF, aI G ac 4 cF] H := hP
        have hD : va_D A [oC x 8 [.ref ak, .ref am, .ref ao, .ref av, .ref ap, .ref ax, .ref ay, .int (nI ec), .ref ad, .ref an, .ref ab, .int (nI vn), .ref ar, .ref ac, .int us, .int ro, .int pr, .ref at_, .int (nI tn), .ref as_, .int (nI sn), .ref aq, .int (nI qn), .int wa, .int (nI hp), .long nm, .int (nI ns), .int (zI la), .int (zI sl)], aI G ar 4 rF, aI G ac 4 cF] := hD
        have hfc_3 := mwR_lt2 rF cF h vn (by omega)
        refine kIfLeN (tgt := 34) hF dX8_seat_14 (by decide) (by omega) (fun c_4 => ?_) (fun c_4 => ?_)
        · refine lv_iload_n hF.1 hF.2.1 dX8_seat_34 rfl (lv_at hl 1 rfl) ?_
          refine kRetI (v := h) hF hr hlk hK hP hD hS hQ rfl () [0, 1, 2] (by decide) rfl (Nat.le_of_ble_eq_true rfl) (Nat.le_of_ble_eq_true rfl) dX8_seat_35 ?_
          rw [← hR]; first | rw [grdR_e (by omega)] | rw [grdR_r (by omega)]
        · refine lv_aload_n hF.1 hF.2.1 dX8_seat_17 rfl (lv_at hl 2 rfl) ?_
          refine kGet (C := RX8) (T := TX8) (N := 29) (index := 48) hF hK hP (inT inBX8) 0 rfl rfl 13 (by decide) rfl (List.mem_cons_of_mem _ mF_X8_48) rfl dX8_seat_18 ?_
          refine lv_aload_n hF.1 hF.2.1 dX8_seat_21 rfl (lv_at hl 2 rfl) ?_
          refine lv_iload_n hF.1 hF.2.1 dX8_seat_22 rfl (lv_at hl 1 rfl) ?_
          refine kCallI (wr := []) (va_runV (As := [.int h]) (rest := [.ref ac]) hF (c_X8_mountedAt l G H.size x ak am ao av ap ax ay ad an ab ar ac at_ as_ aq ec vn tn sn qn hp ns us ro pr wa nm la sl rF cF h (by first | assumption | omega)) (cwVB 1 hF rfl mL_X8_73 mI_X8_mountedAt mS_X8_mountedAt mN_X8 mC_X8_mountedAt rfl hd_X8_mountedAt rfl rfl ⟨Nat.le_of_ble_eq_true rfl, Nat.le_of_ble_eq_true rfl⟩) (kPre hK hP hD [0, 1, 2] (by decide) rfl (q0 := 0) (ci := 8) rfl rfl rfl) rfl rfl hl.1 rfl (lv_room (Nat.le_of_ble_eq_true rfl)) dX8_seat_23 ⟨Nat.le_of_ble_eq_true rfl, Nat.le_of_ble_eq_true rfl⟩) hP hD hS hA [0, 1, 2] [] rfl rfl (by decide) (by decide) (fun r u H locs hw_5 hP hD hS => ?_)
          have hw_5 := hw_5.symm
          subst hw_5
          have hP : PG G [oC x 8 [.ref ak, .ref am, .ref ao, .ref av, .ref ap, .ref ax, .ref ay, .int (nI ec), .ref ad, .ref an, .ref ab, .int (nI vn), .ref ar, .ref ac, .int us, .int ro, .int pr, .ref at_, .int (nI tn), .ref as_, .int (nI sn), .ref aq, .int (nI qn), .int wa, .int (nI hp), .long nm, .int (nI ns), .int (zI la), .int (zI sl)], aI G ar 4 rF, aI G ac 4 cF] H := hP
          have hD : va_D A [oC x 8 [.ref ak, .ref am, .ref ao, .ref av, .ref ap, .ref ax, .ref ay, .int (nI ec), .ref ad, .ref an, .ref ab, .int (nI vn), .ref ar, .ref ac, .int us, .int ro, .int pr, .ref at_, .int (nI tn), .ref as_, .int (nI sn), .ref aq, .int (nI qn), .int wa, .int (nI hp), .long nm, .int (nI ns), .int (zI la), .int (zI sl)], aI G ar 4 rF, aI G ac 4 cF] := hD
          have hfc_6 := mwR_lt2 rF cF h vn (by omega)
          refine kIaldN hF hK hP 2 rfl (by omega) (by decide) dX8_seat_26 ?_
          refine lv_istore_n (lv' := [(2, .int (cF (mwR rF cF h vn))), (3, .int (nI k)), (0, .ref x), (1, .int d)]) hF.1 hF.2.1 dX8_seat_27 rfl hl (by decide) rfl (fun ls hl => ?_)
          refine lv_iinc (v := (nI (k + 1))) (lv' := [(3, .int (nI (k + 1))), (2, .int (cF (mwR rF cF h vn))), (0, .ref x), (1, .int d)]) hF.1 hF.2.1 dX8_seat_28 hl (k := 1) rfl (nI_inc1 _) (by decide) rfl (fun ls hl => ?_)
          refine lv_goto (tgt := 4) hF.1 hF.2.1 dX8_seat_31 (by decide) ?_
          exact ih_4 (k + 1) (cF (mwR rF cF h vn)) (by omega) (by omega) (by rw [← hR]; exact (grdR_s (by omega) (by omega)).symm) H locs ls hP hD hS (lv_sub hl [0, 1, 2, 3] rfl)
  exact loop_4 _ 0 d (Nat.lt_succ_self _) (by omega) (rfl) _ _ _ hP hD hS (lv_sub hl [0, 1, 2, 3] rfl)
set_option maxHeartbeats 4000000 in
set_option maxRecDepth 100000 in
theorem c_X8_above (l : Launch) (G : GG) (sz : Nat) (x : Nat) (ak : Nat) (am : Nat) (ao : Nat) (av : Nat) (ap : Nat) (ax : Nat) (ay : Nat) (ad : Nat) (an : Nat) (ab : Nat) (ar : Nat) (ac : Nat) (at_ : Nat) (as_ : Nat) (aq : Nat) (ec : Nat) (vn : Nat) (tn : Nat) (sn : Nat) (qn : Nat) (hp : Nat) (ns : Nat) (us : Int32) (ro : Int32) (pr : Int32) (wa : Int32) (nm : Int64) (la : Prop) (sl : Prop) (pF : Nat → Int32) (rF : Nat → Int32) (cF : Nat → Int32) (d : Int32) (r0 : Int32) (hvn : 1 ≤ vn ∧ vn ≤ 4) (hcr : ∀ v, v < 4 → cF v = -1 ∨ vp_in (cF v) 40) (hd : vp_in d 40) : CtI l G yX8_above wsX8_above 2 46 0 0 sz [.ref x, .int d, .int r0] [oC x 8 [.ref ak, .ref am, .ref ao, .ref av, .ref ap, .ref ax, .ref ay, .int (nI ec), .ref ad, .ref an, .ref ab, .int (nI vn), .ref ar, .ref ac, .int us, .int ro, .int pr, .ref at_, .int (nI tn), .ref as_, .int (nI sn), .ref aq, .int (nI qn), .int wa, .int (nI hp), .long nm, .int (nI ns), .int (zI la), .int (zI sl)], aI G ap 40 pF, aI G ar 4 rF, aI G ac 4 cF] (fun r (_ : Unit) => r = (abvR rF cF pF vn d r0)) (fun (_ : Unit) => [oC x 8 [.ref ak, .ref am, .ref ao, .ref av, .ref ap, .ref ax, .ref ay, .int (nI ec), .ref ad, .ref an, .ref ab, .int (nI vn), .ref ar, .ref ac, .int us, .int ro, .int pr, .ref at_, .int (nI tn), .ref as_, .int (nI sn), .ref aq, .int (nI qn), .int wa, .int (nI hp), .long nm, .int (nI ns), .int (zI la), .int (zI sl)], aI G ap 40 pF, aI G ar 4 rF, aI G ac 4 cF]) := by
  refine kMet (Qc := fun A => va_Qi _ (Bw G A _) A) (cc := cX8_above) (nL := 3) (ret := some (.int)) (by decide) rfl (Nat.le_of_ble_eq_true rfl) ?_
  intro p e s m args below meth c A Q hF hr hlk hnme hK hP hD hA hS hQ hsz ls hl
  have hl : lv_has ls 3 [(0, .ref x), (1, .int d), (2, .int r0)] := hl
  refine lv_iload_n hF.1 hF.2.1 dX8_above_0 rfl (lv_at hl 1 rfl) ?_
  refine lv_iload_n hF.1 hF.2.1 dX8_above_1 rfl (lv_at hl 2 rfl) ?_
  refine lv_icmp_ne (tgt := 9) hF.1 hF.2.1 dX8_above_2 (by decide) (fun c_1 => ?_) (fun c_1 => ?_)
  · refine lv_aload_n hF.1 hF.2.1 dX8_above_9 rfl (lv_at hl 0 rfl) ?_
    refine lv_aload_n hF.1 hF.2.1 dX8_above_10 rfl (lv_at hl 0 rfl) ?_
    refine kGet (C := RX8) (T := TX8) (N := 29) (index := 22) hF hK hP (inT inBX8) 0 rfl rfl 4 (by decide) rfl (List.mem_cons_of_mem _ mF_X8_22) rfl dX8_above_11 ?_
    refine lv_aload_n hF.1 hF.2.1 dX8_above_14 rfl (lv_at hl 0 rfl) ?_
    refine lv_iload_n hF.1 hF.2.1 dX8_above_15 rfl (lv_at hl 1 rfl) ?_
    refine kCallI (wr := [aI G ap 40 pF]) (va_runV (As := [.int d]) (rest := [.ref ap, .ref x]) hF (c_X8_seat l G _ x ak am ao av ap ax ay ad an ab ar ac at_ as_ aq ec vn tn sn qn hp ns us ro pr wa nm la sl rF cF d (by first | assumption | omega)) (cwVB 1 hF rfl mL_X8_76 mI_X8_seat mS_X8_seat mN_X8 mC_X8_seat rfl hd_X8_seat rfl rfl ⟨Nat.le_of_ble_eq_true rfl, Nat.le_of_ble_eq_true rfl⟩) (kPre hK hP hD [0, 2, 3] (by decide) rfl (q0 := 0) (ci := 8) rfl rfl rfl) rfl rfl hl.1 rfl (lv_room (Nat.le_of_ble_eq_true rfl)) dX8_above_16 ⟨Nat.le_of_ble_eq_true rfl, Nat.le_of_ble_eq_true rfl⟩) hP hD hS hA [0, 2, 3] [1] rfl rfl (by decide) (by decide) (fun r u H locs hw_2 hP hD hS => ?_)
    have hw_2 := hw_2.symm
    subst hw_2
    have hP : PG G [oC x 8 [.ref ak, .ref am, .ref ao, .ref av, .ref ap, .ref ax, .ref ay, .int (nI ec), .ref ad, .ref an, .ref ab, .int (nI vn), .ref ar, .ref ac, .int us, .int ro, .int pr, .ref at_, .int (nI tn), .ref as_, .int (nI sn), .ref aq, .int (nI qn), .int wa, .int (nI hp), .long nm, .int (nI ns), .int (zI la), .int (zI sl)], aI G ap 40 pF, aI G ar 4 rF, aI G ac 4 cF] H := va_P.sub hP [1, 0, 2, 3] rfl
    have hD : va_D A [oC x 8 [.ref ak, .ref am, .ref ao, .ref av, .ref ap, .ref ax, .ref ay, .int (nI ec), .ref ad, .ref an, .ref ab, .int (nI vn), .ref ar, .ref ac, .int us, .int ro, .int pr, .ref at_, .int (nI tn), .ref as_, .int (nI sn), .ref aq, .int (nI qn), .int wa, .int (nI hp), .long nm, .int (nI ns), .int (zI la), .int (zI sl)], aI G ap 40 pF, aI G ar 4 rF, aI G ac 4 cF] := va_D.sub hD [1, 0, 2, 3] (by decide) rfl
    refine kIald hF hK hP 1 rfl (grdR_in hvn hcr 5 d hd) dX8_above_19 ?_
    refine kCallI (wr := [aI G ap 40 pF]) (va_runV (As := [.int (pF (ix (grdR rF cF vn 5 d)))]) (rest := []) hF (c_X8_top l G H.size x ak am ao av ap ax ay ad an ab ar ac at_ as_ aq ec vn tn sn qn hp ns us ro pr wa nm la sl rF cF (pF (ix (grdR rF cF vn 5 d))) (by first | assumption | omega)) (cwVB 1 hF rfl mL_X8_79 mI_X8_top mS_X8_top mN_X8 mC_X8_top rfl hd_X8_top rfl rfl ⟨Nat.le_of_ble_eq_true rfl, Nat.le_of_ble_eq_true rfl⟩) (kPre hK hP hD [0, 2, 3] (by decide) rfl (q0 := 0) (ci := 8) rfl rfl rfl) rfl rfl hl.1 rfl (lv_room (Nat.le_of_ble_eq_true rfl)) dX8_above_20 ⟨Nat.le_of_ble_eq_true rfl, Nat.le_of_ble_eq_true rfl⟩) hP hD hS hA [0, 2, 3] [1] rfl rfl (by decide) (by decide) (fun r u H locs hw_3 hP hD hS => ?_)
    have hw_3 := hw_3.symm
    subst hw_3
    have hP : PG G [oC x 8 [.ref ak, .ref am, .ref ao, .ref av, .ref ap, .ref ax, .ref ay, .int (nI ec), .ref ad, .ref an, .ref ab, .int (nI vn), .ref ar, .ref ac, .int us, .int ro, .int pr, .ref at_, .int (nI tn), .ref as_, .int (nI sn), .ref aq, .int (nI qn), .int wa, .int (nI hp), .long nm, .int (nI ns), .int (zI la), .int (zI sl)], aI G ap 40 pF, aI G ar 4 rF, aI G ac 4 cF] H := va_P.sub hP [1, 0, 2, 3] rfl
    have hD : va_D A [oC x 8 [.ref ak, .ref am, .ref ao, .ref av, .ref ap, .ref ax, .ref ay, .int (nI ec), .ref ad, .ref an, .ref ab, .int (nI vn), .ref ar, .ref ac, .int us, .int ro, .int pr, .ref at_, .int (nI tn), .ref as_, .int (nI sn), .ref aq, .int (nI qn), .int wa, .int (nI hp), .long nm, .int (nI ns), .int (zI la), .int (zI sl)], aI G ap 40 pF, aI G ar 4 rF, aI G ac 4 cF] := va_D.sub hD [1, 0, 2, 3] (by decide) rfl
    refine kRetI (v := (topR rF cF vn 5 (pF (ix (grdR rF cF vn 5 d))))) hF hr hlk hK hP hD hS hQ rfl () [0, 1, 2, 3] (by decide) rfl (Nat.le_of_ble_eq_true rfl) (Nat.le_of_ble_eq_true rfl) dX8_above_23 ?_
    unfold abvR; first | rw [if_pos (by assumption)] | rw [if_neg (by assumption)]
  · refine lv_iload_n hF.1 hF.2.1 dX8_above_5 rfl (lv_at hl 1 rfl) ?_
    refine lv_goto (tgt := 23) hF.1 hF.2.1 dX8_above_6 (by decide) ?_
    refine kRetI (v := d) hF hr hlk hK hP hD hS hQ rfl () [0, 1, 2, 3] (by decide) rfl (Nat.le_of_ble_eq_true rfl) (Nat.le_of_ble_eq_true rfl) dX8_above_23 ?_
    unfold abvR; first | rw [if_pos (by assumption)] | rw [if_neg (by assumption)]
set_option maxHeartbeats 4000000 in
set_option maxRecDepth 100000 in
theorem c_X8_find (l : Launch) (G : GG) (sz : Nat) (x : Nat) (ak : Nat) (am : Nat) (ao : Nat) (av : Nat) (ap : Nat) (ax : Nat) (ay : Nat) (ad : Nat) (an : Nat) (ab : Nat) (ar : Nat) (ac : Nat) (at_ : Nat) (as_ : Nat) (aq : Nat) (ec : Nat) (vn : Nat) (tn : Nat) (sn : Nat) (qn : Nat) (hp : Nat) (ns : Nat) (us : Int32) (ro : Int32) (pr : Int32) (wa : Int32) (nm : Int64) (la : Prop) (sl : Prop) (dF : Nat → Int32) (nF : Nat → Int64) (d : Int32) (nq : Int64) (hec : ec ≤ 80) : CtI l G yX8_find wsX8_find 0 0 0 0 sz [.ref x, .int d, .long nq] [oC x 8 [.ref ak, .ref am, .ref ao, .ref av, .ref ap, .ref ax, .ref ay, .int (nI ec), .ref ad, .ref an, .ref ab, .int (nI vn), .ref ar, .ref ac, .int us, .int ro, .int pr, .ref at_, .int (nI tn), .ref as_, .int (nI sn), .ref aq, .int (nI qn), .int wa, .int (nI hp), .long nm, .int (nI ns), .int (zI la), .int (zI sl)], aI G ad 80 dF, aJ G an 80 nF] (fun r (_ : Unit) => r = (rI (fndE dF nF d nq ec) ec)) (fun (_ : Unit) => [oC x 8 [.ref ak, .ref am, .ref ao, .ref av, .ref ap, .ref ax, .ref ay, .int (nI ec), .ref ad, .ref an, .ref ab, .int (nI vn), .ref ar, .ref ac, .int us, .int ro, .int pr, .ref at_, .int (nI tn), .ref as_, .int (nI sn), .ref aq, .int (nI qn), .int wa, .int (nI hp), .long nm, .int (nI ns), .int (zI la), .int (zI sl)], aI G ad 80 dF, aJ G an 80 nF]) := by
  refine kMet (Qc := fun A => va_Qi _ (Bw G A _) A) (cc := cX8_find) (nL := 5) (ret := some (.int)) (by decide) rfl (Nat.le_of_ble_eq_true rfl) ?_
  intro p e s m args below meth c A Q hF hr hlk hnme hK hP hD hA hS hQ hsz ls hl
  have hl : lv_has ls 5 [(0, .ref x), (1, .int d), (2, .long nq)] := hl
  refine lv_iconst (v := (nI 0)) hF.1 hF.2.1 dX8_find_0 (by decide) ?_
  refine lv_istore (lv' := [(4, .int (nI 0)), (0, .ref x), (1, .int d), (2, .long nq)]) hF.1 hF.2.1 dX8_find_1 hl (by decide) rfl (fun ls hl => ?_)
  have loop_3 : ∀ (n_3 : Nat) (k : Nat), ec - k < n_3 → (0 ≤ k ∧ k ≤ ec) → (scan (fun j => !(decide (dF j = d) && decide (nF j = nq))) (ec - k) k = scan (fun j => !(decide (dF j = d) && decide (nF j = nq))) (ec - 0) 0) → ∀ (H : Heap) (locs : List Loc) (ls : Array Slot), PG G [oC x 8 [.ref ak, .ref am, .ref ao, .ref av, .ref ap, .ref ax, .ref ay, .int (nI ec), .ref ad, .ref an, .ref ab, .int (nI vn), .ref ar, .ref ac, .int us, .int ro, .int pr, .ref at_, .int (nI tn), .ref as_, .int (nI sn), .ref aq, .int (nI qn), .int wa, .int (nI hp), .long nm, .int (nI ns), .int (zI la), .int (zI sl)], aI G ad 80 dF, aJ G an 80 nF] H → va_D A [oC x 8 [.ref ak, .ref am, .ref ao, .ref av, .ref ap, .ref ax, .ref ay, .int (nI ec), .ref ad, .ref an, .ref ab, .int (nI vn), .ref ar, .ref ac, .int us, .int ro, .int pr, .ref at_, .int (nI tn), .ref as_, .int (nI sn), .ref aq, .int (nI qn), .int wa, .int (nI hp), .long nm, .int (nI ns), .int (zI la), .int (zI sl)], aI G ad 80 dF, aJ G an 80 nF] → va_S A s.heap H locs → lv_has ls 5 [(4, .int (nI k)), (0, .ref x), (1, .int d), (2, .long nq)] → W p l e (Rm 0 0 0 0) s m args below meth c H locs 0 0 Q (F0 m 3 ls []) := by
    intro n_3
    induction n_3 with
    | zero => intro k hm; exact absurd hm (Nat.not_lt_zero _)
    | succ n_3 ih_3 =>
      intro k hm_3 hk hR H locs ls hP hD hS hl
      refine lv_iload hF.1 hF.2.1 dX8_find_3 (lv_at hl 0 rfl) ?_
      refine lv_aload_n hF.1 hF.2.1 dX8_find_5 rfl (lv_at hl 1 rfl) ?_
      refine kGet (C := RX8) (T := TX8) (N := 29) (index := 82) hF hK hP (inT inBX8) 0 rfl rfl 7 (by decide) rfl (List.mem_cons_of_mem _ mF_X8_82) rfl dX8_find_6 ?_
      refine kGeN (tgt := 44) hF dX8_find_9 (by decide) (by omega) (by omega) (fun c_1 => ?_) (fun c_1 => ?_)
      · refine lv_iconst (v := (-1)) hF.1 hF.2.1 dX8_find_44 (by decide) ?_
        refine kRetI (v := (-1)) hF hr hlk hK hP hD hS hQ rfl () [0, 1, 2] (by decide) rfl (Nat.le_of_ble_eq_true rfl) (Nat.le_of_ble_eq_true rfl) dX8_find_45 ?_
        rw [show fndE dF nF d nq ec = _ from hR.symm, scan_e (by omega), rI_f (by omega)]
      · refine lv_aload_n hF.1 hF.2.1 dX8_find_12 rfl (lv_at hl 1 rfl) ?_
        refine kGet (C := RX8) (T := TX8) (N := 29) (index := 31) hF hK hP (inT inBX8) 0 rfl rfl 8 (by decide) rfl (List.mem_cons_of_mem _ mF_X8_31) rfl dX8_find_13 ?_
        refine lv_iload hF.1 hF.2.1 dX8_find_16 (lv_at hl 0 rfl) ?_
        refine kIaldN hF hK hP 1 rfl (by omega) (by decide) dX8_find_18 ?_
        refine lv_iload_n hF.1 hF.2.1 dX8_find_19 rfl (lv_at hl 2 rfl) ?_
        refine lv_icmp_ne (tgt := 38) hF.1 hF.2.1 dX8_find_20 (by decide) (fun c_2 => ?_) (fun c_2 => ?_)
        · refine lv_iinc (v := (nI (k + 1))) (lv' := [(4, .int (nI (k + 1))), (0, .ref x), (1, .int d), (2, .long nq)]) hF.1 hF.2.1 dX8_find_38 hl (k := 0) rfl (nI_inc1 _) (by decide) rfl (fun ls hl => ?_)
          refine lv_goto (tgt := 3) hF.1 hF.2.1 dX8_find_41 (by decide) ?_
          exact ih_3 (k + 1) (by omega) (by omega) (by rw [← hR]; exact (scan_t (by omega) (by simp [*])).symm) H locs ls hP hD hS (lv_sub hl [0, 1, 2, 3] rfl)
        · refine lv_aload_n hF.1 hF.2.1 dX8_find_23 rfl (lv_at hl 1 rfl) ?_
          refine kGet (C := RX8) (T := TX8) (N := 29) (index := 34) hF hK hP (inT inBX8) 0 rfl rfl 9 (by decide) rfl (List.mem_cons_of_mem _ mF_X8_34) rfl dX8_find_24 ?_
          refine lv_iload hF.1 hF.2.1 dX8_find_27 (lv_at hl 0 rfl) ?_
          refine kLaldN hF hK hP 2 rfl (by omega) (by decide) dX8_find_29 ?_
          refine lv_lload_n hF.1 hF.2.1 dX8_find_30 rfl (lv_at hl 3 rfl) ?_
          refine W.lcmp hF.1 hF.2.1 dX8_find_31 ?_
          refine kIfNeC (tgt := 38) hF dX8_find_32 (by decide) (fun c_3 => ?_) (fun c_3 => ?_)
          · refine lv_iinc (v := (nI (k + 1))) (lv' := [(4, .int (nI (k + 1))), (0, .ref x), (1, .int d), (2, .long nq)]) hF.1 hF.2.1 dX8_find_38 hl (k := 0) rfl (nI_inc1 _) (by decide) rfl (fun ls hl => ?_)
            refine lv_goto (tgt := 3) hF.1 hF.2.1 dX8_find_41 (by decide) ?_
            exact ih_3 (k + 1) (by omega) (by omega) (by rw [← hR]; exact (scan_t (by omega) (by simp [*])).symm) H locs ls hP hD hS (lv_sub hl [0, 1, 2, 3] rfl)
          · refine lv_iload hF.1 hF.2.1 dX8_find_35 (lv_at hl 0 rfl) ?_
            refine kRetI (v := (nI k)) hF hr hlk hK hP hD hS hQ rfl () [0, 1, 2] (by decide) rfl (Nat.le_of_ble_eq_true rfl) (Nat.le_of_ble_eq_true rfl) dX8_find_37 ?_
            rw [show fndE dF nF d nq ec = _ from hR.symm, scan_f (by omega) (by simp [*]), rI_t (by omega)]
  exact loop_3 _ 0 (Nat.lt_succ_self _) (by omega) (rfl) _ _ _ hP hD hS (lv_sub hl [0, 1, 2, 3] rfl)
set_option maxHeartbeats 4000000 in
set_option maxRecDepth 100000 in
theorem c_X8_dropRest (l : Launch) (G : GG) (sz : Nat) (x : Nat) (ak : Nat) (am : Nat) (ao : Nat) (av : Nat) (ap : Nat) (ax : Nat) (ay : Nat) (ad : Nat) (an : Nat) (ab : Nat) (ar : Nat) (ac : Nat) (at_ : Nat) (as_ : Nat) (aq : Nat) (ec : Nat) (vn : Nat) (tn : Nat) (sn : Nat) (qn : Nat) (hp : Nat) (ns : Nat) (us : Int32) (ro : Int32) (pr : Int32) (wa : Int32) (nm : Int64) (la : Prop) (sl : Prop) (qF : Nat → Int32) (dn : Nat) (hqn : qn ≤ 100) (hdn : dn ≤ qn) : CtV l G yX8_dropRest wsX8_dropRest 0 0 0 0 sz [.ref x, .int (nI dn)] [oC x 8 [.ref ak, .ref am, .ref ao, .ref av, .ref ap, .ref ax, .ref ay, .int (nI ec), .ref ad, .ref an, .ref ab, .int (nI vn), .ref ar, .ref ac, .int us, .int ro, .int pr, .ref at_, .int (nI tn), .ref as_, .int (nI sn), .ref aq, .int (nI qn), .int wa, .int (nI hp), .long nm, .int (nI ns), .int (zI la), .int (zI sl)], aI G aq 100 qF] (fun (_ : Unit) => True) (fun (_ : Unit) => [oC x 8 [.ref ak, .ref am, .ref ao, .ref av, .ref ap, .ref ax, .ref ay, .int (nI ec), .ref ad, .ref an, .ref ab, .int (nI vn), .ref ar, .ref ac, .int us, .int ro, .int pr, .ref at_, .int (nI tn), .ref as_, .int (nI sn), .ref aq, .int (nI (qn - dn)), .int wa, .int (nI hp), .long nm, .int (nI ns), .int (zI la), .int (zI sl)], aI G aq 100 (drF qF dn (qn - dn))]) := by
  refine kMet (Qc := fun A => va_Qv _ (Bw G A _) A) (cc := cX8_dropRest) (nL := 3) (ret := none) (by decide) rfl (Nat.le_of_ble_eq_true rfl) ?_
  intro p e s m args below meth c A Q hF hr hlk hnme hK hP hD hA hS hQ hsz ls hl
  have hl : lv_has ls 3 [(0, .ref x), (1, .int (nI dn))] := hl
  refine lv_aload_n hF.1 hF.2.1 dX8_dropRest_0 rfl (lv_at hl 0 rfl) ?_
  refine lv_aload_n hF.1 hF.2.1 dX8_dropRest_1 rfl (lv_at hl 0 rfl) ?_
  refine kGet (C := RX8) (T := TX8) (N := 29) (index := 85) hF hK hP (inT inBX8) 0 rfl rfl 22 (by decide) rfl (List.mem_cons_of_mem _ mF_X8_85) rfl dX8_dropRest_2 ?_
  refine lv_iload_n hF.1 hF.2.1 dX8_dropRest_5 rfl (lv_at hl 1 rfl) ?_
  refine lv_isub hF.1 hF.2.1 dX8_dropRest_6 ?_
  refine kTop (y := (nI (qn - dn))) (pk_sub (by omega)) ?_
  refine kPut (C := RX8) (T := TX8) (N := 29) (index := 85) (v := .int (nI (qn - dn))) hF hK hP hD hS (inT inBX8) tyX8_ok nmX8 0 rfl rfl 22 (by decide) rfl (List.mem_cons_of_mem _ mF_X8_85) rfl rfl rfl (Nat.le_of_ble_eq_true rfl) dX8_dropRest_7 (fun H locs hP hD hS => ?_)
  have hP : PG G [oC x 8 [.ref ak, .ref am, .ref ao, .ref av, .ref ap, .ref ax, .ref ay, .int (nI ec), .ref ad, .ref an, .ref ab, .int (nI vn), .ref ar, .ref ac, .int us, .int ro, .int pr, .ref at_, .int (nI tn), .ref as_, .int (nI sn), .ref aq, .int (nI (qn - dn)), .int wa, .int (nI hp), .long nm, .int (nI ns), .int (zI la), .int (zI sl)], aI G aq 100 qF] H := hP
  have hD : va_D A [oC x 8 [.ref ak, .ref am, .ref ao, .ref av, .ref ap, .ref ax, .ref ay, .int (nI ec), .ref ad, .ref an, .ref ab, .int (nI vn), .ref ar, .ref ac, .int us, .int ro, .int pr, .ref at_, .int (nI tn), .ref as_, .int (nI sn), .ref aq, .int (nI (qn - dn)), .int wa, .int (nI hp), .long nm, .int (nI ns), .int (zI la), .int (zI sl)], aI G aq 100 qF] := hD
  refine lv_iconst (v := (nI 0)) hF.1 hF.2.1 dX8_dropRest_10 (by decide) ?_
  refine lv_istore_n (lv' := [(2, .int (nI 0)), (0, .ref x), (1, .int (nI dn))]) hF.1 hF.2.1 dX8_dropRest_11 rfl hl (by decide) rfl (fun ls hl => ?_)
  have loop_12 : ∀ (n_12 : Nat) (k : Nat) (q1 : Nat → Int32), qn - dn - k < n_12 → (k ≤ qn - dn) → (q1 = drF qF dn k) → ∀ (H : Heap) (locs : List Loc) (ls : Array Slot), PG G [oC x 8 [.ref ak, .ref am, .ref ao, .ref av, .ref ap, .ref ax, .ref ay, .int (nI ec), .ref ad, .ref an, .ref ab, .int (nI vn), .ref ar, .ref ac, .int us, .int ro, .int pr, .ref at_, .int (nI tn), .ref as_, .int (nI sn), .ref aq, .int (nI (qn - dn)), .int wa, .int (nI hp), .long nm, .int (nI ns), .int (zI la), .int (zI sl)], aI G aq 100 q1] H → va_D A [oC x 8 [.ref ak, .ref am, .ref ao, .ref av, .ref ap, .ref ax, .ref ay, .int (nI ec), .ref ad, .ref an, .ref ab, .int (nI vn), .ref ar, .ref ac, .int us, .int ro, .int pr, .ref at_, .int (nI tn), .ref as_, .int (nI sn), .ref aq, .int (nI (qn - dn)), .int wa, .int (nI hp), .long nm, .int (nI ns), .int (zI la), .int (zI sl)], aI G aq 100 q1] → va_S A s.heap H locs → lv_has ls 3 [(2, .int (nI k)), (0, .ref x), (1, .int (nI dn))] → W p l e (Rm 0 0 0 0) s m args below meth c H locs 0 0 Q (F0 m 12 ls []) := by
    intro n_12
    induction n_12 with
    | zero => intro k q1 hm; exact absurd hm (Nat.not_lt_zero _)
    | succ n_12 ih_12 =>
      intro k q1 hm_12 hk hq1 H locs ls hP hD hS hl
      refine lv_iload_n hF.1 hF.2.1 dX8_dropRest_12 rfl (lv_at hl 0 rfl) ?_
      refine lv_aload_n hF.1 hF.2.1 dX8_dropRest_13 rfl (lv_at hl 1 rfl) ?_
      refine kGet (C := RX8) (T := TX8) (N := 29) (index := 85) hF hK hP (inT inBX8) 0 rfl rfl 22 (by decide) rfl (List.mem_cons_of_mem _ mF_X8_85) rfl dX8_dropRest_14 ?_
      refine kGeN (tgt := 40) hF dX8_dropRest_17 (by decide) (by omega) (by omega) (fun c_1 => ?_) (fun c_1 => ?_)
      · rw [hq1, show k = qn - dn by omega] at hP hD
        refine kRetV hF hr hlk hK hP hD hS hQ () [0, 1] (by decide) rfl (Nat.le_of_ble_eq_true rfl) (Nat.le_of_ble_eq_true rfl) dX8_dropRest_40 ?_
        trivial
      · refine lv_aload_n hF.1 hF.2.1 dX8_dropRest_20 rfl (lv_at hl 1 rfl) ?_
        refine kGet (C := RX8) (T := TX8) (N := 29) (index := 57) hF hK hP (inT inBX8) 0 rfl rfl 21 (by decide) rfl (List.mem_cons_of_mem _ mF_X8_57) rfl dX8_dropRest_21 ?_
        refine lv_iload_n hF.1 hF.2.1 dX8_dropRest_24 rfl (lv_at hl 0 rfl) ?_
        refine lv_aload_n hF.1 hF.2.1 dX8_dropRest_25 rfl (lv_at hl 1 rfl) ?_
        refine kGet (C := RX8) (T := TX8) (N := 29) (index := 57) hF hK hP (inT inBX8) 0 rfl rfl 21 (by decide) rfl (List.mem_cons_of_mem _ mF_X8_57) rfl dX8_dropRest_26 ?_
        refine lv_iload_n hF.1 hF.2.1 dX8_dropRest_29 rfl (lv_at hl 0 rfl) ?_
        refine lv_iload_n hF.1 hF.2.1 dX8_dropRest_30 rfl (lv_at hl 2 rfl) ?_
        refine lv_iadd hF.1 hF.2.1 dX8_dropRest_31 ?_
        refine kTop (y := (nI (k + dn))) (nI_add _ _) ?_
        refine kIaldN hF hK hP 1 rfl (by omega) (by decide) dX8_dropRest_32 ?_
        refine kIastN hF hK hP hD hS 1 rfl (by omega) (by decide) dX8_dropRest_33 (fun H locs hP hD hS => ?_)
        have hP : PG G [oC x 8 [.ref ak, .ref am, .ref ao, .ref av, .ref ap, .ref ax, .ref ay, .int (nI ec), .ref ad, .ref an, .ref ab, .int (nI vn), .ref ar, .ref ac, .int us, .int ro, .int pr, .ref at_, .int (nI tn), .ref as_, .int (nI sn), .ref aq, .int (nI (qn - dn)), .int wa, .int (nI hp), .long nm, .int (nI ns), .int (zI la), .int (zI sl)], aI G aq 100 (upd q1 k (q1 (k + dn)))] H := hP
        have hD : va_D A [oC x 8 [.ref ak, .ref am, .ref ao, .ref av, .ref ap, .ref ax, .ref ay, .int (nI ec), .ref ad, .ref an, .ref ab, .int (nI vn), .ref ar, .ref ac, .int us, .int ro, .int pr, .ref at_, .int (nI tn), .ref as_, .int (nI sn), .ref aq, .int (nI (qn - dn)), .int wa, .int (nI hp), .long nm, .int (nI ns), .int (zI la), .int (zI sl)], aI G aq 100 (upd q1 k (q1 (k + dn)))] := hD
        refine lv_iinc (v := (nI (k + 1))) (lv' := [(2, .int (nI (k + 1))), (0, .ref x), (1, .int (nI dn))]) hF.1 hF.2.1 dX8_dropRest_34 hl (k := 0) rfl (nI_inc1 _) (by decide) rfl (fun ls hl => ?_)
        refine lv_goto (tgt := 12) hF.1 hF.2.1 dX8_dropRest_37 (by decide) ?_
        exact ih_12 (k + 1) (upd q1 k (q1 (k + dn))) (by omega) (by omega) (by rw [hq1]; exact drF_s) H locs ls hP hD hS (lv_sub hl [0, 1, 2] rfl)
  exact loop_12 _ 0 qF (Nat.lt_succ_self _) (by omega) (drF_0.symm) _ _ _ hP hD hS (lv_sub hl [0, 1, 2] rfl)
