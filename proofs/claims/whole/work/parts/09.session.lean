set_option maxHeartbeats 4000000 in
set_option maxRecDepth 100000 in
theorem c_X3_may (l : Launch) (G : GG) (sz : Nat) (se t : Nat) (us ro pr : Int32) (tk tm to_ tv tp tl : Nat) (mF oF : Nat → Int32) (rt d : Int32) (hd : vp_in d 40) : CtI l G yX3_may wsX3_may 1 21 0 0 sz [.ref se, .int rt, .int d] [oC se 3 [.ref t, .int us, .int ro, .int pr], oC t 4 [.ref tk, .ref tm, .ref to_, .ref tv, .ref tp, .ref tl], aI G tm 40 mF, aI G to_ 40 oF] (fun r (_ : Unit) => r = (zI (mayP us (mF (ix d)) (oF (ix d)) rt))) (fun (_ : Unit) => [oC se 3 [.ref t, .int us, .int ro, .int pr], oC t 4 [.ref tk, .ref tm, .ref to_, .ref tv, .ref tp, .ref tl], aI G tm 40 mF, aI G to_ 40 oF]) := by
  refine kMet (Qc := fun A => va_Qi _ (Bw G A _) A) (cc := cX3_may) (nL := 5) (ret := some (.boolean)) (by decide) rfl (Nat.le_of_ble_eq_true rfl) ?_
  intro p e s m args below meth c A Q hF hr hlk hnme hK hP hD hA hS hQ hsz ls hl
  have hl : lv_has ls 5 [(0, .ref se), (1, .int rt), (2, .int d)] := hl
  refine lv_aload_n hF.1 hF.2.1 dX3_may_0 rfl (lv_at hl 0 rfl) ?_
  refine kGet (C := RX3) (T := TX3) (N := 4) (index := 7) hF hK hP (inT inBX3) 0 rfl rfl 0 (by decide) rfl (List.mem_cons_of_mem _ mF_X3_7) rfl dX3_may_1 ?_
  refine lv_iload_n hF.1 hF.2.1 dX3_may_4 rfl (lv_at hl 2 rfl) ?_
  refine kCallI (wr := [oC se 3 [.ref t, .int us, .int ro, .int pr], aI G to_ 40 oF]) (va_runV (As := [.int d]) (rest := []) hF (c_X4_mode l G _ t tk tm to_ tv tp tl mF d (by first | assumption | omega)) (cwVB 1 hF rfl mL_X3_13 mI_X4_mode mS_X4_mode mN_X4 mC_X4_mode rfl hd_X4_mode rfl rfl ⟨Nat.le_of_ble_eq_true rfl, Nat.le_of_ble_eq_true rfl⟩) (kPre hK hP hD [1, 2] (by decide) rfl (q0 := 1) (ci := 4) rfl rfl rfl) rfl rfl hl.1 rfl (lv_room (Nat.le_of_ble_eq_true rfl)) dX3_may_5 ⟨Nat.le_of_ble_eq_true rfl, Nat.le_of_ble_eq_true rfl⟩) hP hD hS hA [1, 2] [0, 3] rfl rfl (by decide) (by decide) (fun r u H locs hw_1 hP hD hS => ?_)
  have hw_1 := hw_1.symm
  subst hw_1
  have hP : PG G [oC se 3 [.ref t, .int us, .int ro, .int pr], oC t 4 [.ref tk, .ref tm, .ref to_, .ref tv, .ref tp, .ref tl], aI G tm 40 mF, aI G to_ 40 oF] H := va_P.sub hP [0, 2, 3, 1] rfl
  have hD : va_D A [oC se 3 [.ref t, .int us, .int ro, .int pr], oC t 4 [.ref tk, .ref tm, .ref to_, .ref tv, .ref tp, .ref tl], aI G tm 40 mF, aI G to_ 40 oF] := va_D.sub hD [0, 2, 3, 1] (by decide) rfl
  refine lv_istore_n (lv' := [(3, .int (mF (ix d))), (0, .ref se), (1, .int rt), (2, .int d)]) hF.1 hF.2.1 dX3_may_8 rfl hl (by decide) rfl (fun ls hl => ?_)
  refine lv_aload_n hF.1 hF.2.1 dX3_may_9 rfl (lv_at hl 1 rfl) ?_
  refine kGet (C := RX3) (T := TX3) (N := 4) (index := 19) hF hK hP (inT inBX3) 0 rfl rfl 1 (by decide) rfl (List.mem_cons_of_mem _ mF_X3_19) rfl dX3_may_10 ?_
  refine lv_aload_n hF.1 hF.2.1 dX3_may_13 rfl (lv_at hl 1 rfl) ?_
  refine kGet (C := RX3) (T := TX3) (N := 4) (index := 7) hF hK hP (inT inBX3) 0 rfl rfl 0 (by decide) rfl (List.mem_cons_of_mem _ mF_X3_7) rfl dX3_may_14 ?_
  refine lv_iload_n hF.1 hF.2.1 dX3_may_17 rfl (lv_at hl 3 rfl) ?_
  refine kCallI (wr := [oC se 3 [.ref t, .int us, .int ro, .int pr], aI G tm 40 mF]) (va_runV (As := [.int d]) (rest := [.int us]) hF (c_X4_owner l G H.size t tk tm to_ tv tp tl oF d (by first | assumption | omega)) (cwVB 1 hF rfl mL_X3_23 mI_X4_owner mS_X4_owner mN_X4 mC_X4_owner rfl hd_X4_owner rfl rfl ⟨Nat.le_of_ble_eq_true rfl, Nat.le_of_ble_eq_true rfl⟩) (kPre hK hP hD [1, 3] (by decide) rfl (q0 := 1) (ci := 4) rfl rfl rfl) rfl rfl hl.1 rfl (lv_room (Nat.le_of_ble_eq_true rfl)) dX3_may_18 ⟨Nat.le_of_ble_eq_true rfl, Nat.le_of_ble_eq_true rfl⟩) hP hD hS hA [1, 3] [0, 2] rfl rfl (by decide) (by decide) (fun r u H locs hw_2 hP hD hS => ?_)
  have hw_2 := hw_2.symm
  subst hw_2
  have hP : PG G [oC se 3 [.ref t, .int us, .int ro, .int pr], oC t 4 [.ref tk, .ref tm, .ref to_, .ref tv, .ref tp, .ref tl], aI G tm 40 mF, aI G to_ 40 oF] H := va_P.sub hP [0, 2, 1, 3] rfl
  have hD : va_D A [oC se 3 [.ref t, .int us, .int ro, .int pr], oC t 4 [.ref tk, .ref tm, .ref to_, .ref tv, .ref tp, .ref tl], aI G tm 40 mF, aI G to_ 40 oF] := va_D.sub hD [0, 2, 1, 3] (by decide) rfl
  refine lv_icmp_ne (tgt := 30) hF.1 hF.2.1 dX3_may_21 (by decide) (fun c_3 => ?_) (fun c_3 => ?_)
  · refine lv_iload_n hF.1 hF.2.1 dX3_may_30 rfl (lv_at hl 0 rfl) ?_
    refine lv_iconst (v := (nI 4)) hF.1 hF.2.1 dX3_may_31 (by decide) ?_
    refine lv_irem hF.1 hF.2.1 dX3_may_32 (by decide) ?_
    refine lv_istore (lv' := [(4, .int ((mF (ix d)) - (mF (ix d)) / (nI 4) * (nI 4))), (3, .int (mF (ix d))), (0, .ref se), (1, .int rt), (2, .int d)]) hF.1 hF.2.1 dX3_may_33 hl (by decide) rfl (fun ls hl => ?_)
    refine lv_aload_n hF.1 hF.2.1 dX3_may_35 rfl (lv_at hl 2 rfl) ?_
    refine kGet (C := RX3) (T := TX3) (N := 4) (index := 19) hF hK hP (inT inBX3) 0 rfl rfl 1 (by decide) rfl (List.mem_cons_of_mem _ mF_X3_19) rfl dX3_may_36 ?_
    refine lv_if_eq (tgt := 49) hF.1 hF.2.1 dX3_may_39 (by decide) (fun c_4 => ?_) (fun c_4 => ?_)
    · refine lv_iconst (v := (nI 1)) hF.1 hF.2.1 dX3_may_49 (by decide) ?_
      refine lv_goto (tgt := 54) hF.1 hF.2.1 dX3_may_50 (by decide) ?_
      refine kRetI (v := (nI 1)) hF hr hlk hK hP hD hS hQ rfl () [0, 1, 2, 3] (by decide) rfl (Nat.le_of_ble_eq_true rfl) (Nat.le_of_ble_eq_true rfl) dX3_may_54 ?_
      exact zI_1 (by unfold mayP; first | exact Or.inl (by assumption) | (refine Or.inr ?_; simp [*]))
    · refine lv_iload hF.1 hF.2.1 dX3_may_42 (lv_at hl 0 rfl) ?_
      refine lv_iload_n hF.1 hF.2.1 dX3_may_44 rfl (lv_at hl 3 rfl) ?_
      refine lv_iand hF.1 hF.2.1 dX3_may_45 ?_
      refine lv_if_eq (tgt := 53) hF.1 hF.2.1 dX3_may_46 (by decide) (fun c_5 => ?_) (fun c_5 => ?_)
      · refine lv_iconst (v := (nI 0)) hF.1 hF.2.1 dX3_may_53 (by decide) ?_
        refine kRetI (v := (nI 0)) hF hr hlk hK hP hD hS hQ rfl () [0, 1, 2, 3] (by decide) rfl (Nat.le_of_ble_eq_true rfl) (Nat.le_of_ble_eq_true rfl) dX3_may_54 ?_
        exact zI_0 (by unfold mayP; simp_all)
      · refine lv_iconst (v := (nI 1)) hF.1 hF.2.1 dX3_may_49 (by decide) ?_
        refine lv_goto (tgt := 54) hF.1 hF.2.1 dX3_may_50 (by decide) ?_
        refine kRetI (v := (nI 1)) hF hr hlk hK hP hD hS hQ rfl () [0, 1, 2, 3] (by decide) rfl (Nat.le_of_ble_eq_true rfl) (Nat.le_of_ble_eq_true rfl) dX3_may_54 ?_
        exact zI_1 (by unfold mayP; first | exact Or.inl (by assumption) | (refine Or.inr ?_; simp [*]))
  · refine lv_iload_n hF.1 hF.2.1 dX3_may_24 rfl (lv_at hl 0 rfl) ?_
    refine lv_iconst (v := (nI 4)) hF.1 hF.2.1 dX3_may_25 (by decide) ?_
    refine lv_idiv hF.1 hF.2.1 dX3_may_26 (by decide) ?_
    refine lv_goto (tgt := 33) hF.1 hF.2.1 dX3_may_27 (by decide) ?_
    refine lv_istore (lv' := [(4, .int ((mF (ix d)) / (nI 4))), (3, .int (mF (ix d))), (0, .ref se), (1, .int rt), (2, .int d)]) hF.1 hF.2.1 dX3_may_33 hl (by decide) rfl (fun ls hl => ?_)
    refine lv_aload_n hF.1 hF.2.1 dX3_may_35 rfl (lv_at hl 2 rfl) ?_
    refine kGet (C := RX3) (T := TX3) (N := 4) (index := 19) hF hK hP (inT inBX3) 0 rfl rfl 1 (by decide) rfl (List.mem_cons_of_mem _ mF_X3_19) rfl dX3_may_36 ?_
    refine lv_if_eq (tgt := 49) hF.1 hF.2.1 dX3_may_39 (by decide) (fun c_6 => ?_) (fun c_6 => ?_)
    · refine lv_iconst (v := (nI 1)) hF.1 hF.2.1 dX3_may_49 (by decide) ?_
      refine lv_goto (tgt := 54) hF.1 hF.2.1 dX3_may_50 (by decide) ?_
      refine kRetI (v := (nI 1)) hF hr hlk hK hP hD hS hQ rfl () [0, 1, 2, 3] (by decide) rfl (Nat.le_of_ble_eq_true rfl) (Nat.le_of_ble_eq_true rfl) dX3_may_54 ?_
      exact zI_1 (by unfold mayP; first | exact Or.inl (by assumption) | (refine Or.inr ?_; simp [*]))
    · refine lv_iload hF.1 hF.2.1 dX3_may_42 (lv_at hl 0 rfl) ?_
      refine lv_iload_n hF.1 hF.2.1 dX3_may_44 rfl (lv_at hl 3 rfl) ?_
      refine lv_iand hF.1 hF.2.1 dX3_may_45 ?_
      refine lv_if_eq (tgt := 53) hF.1 hF.2.1 dX3_may_46 (by decide) (fun c_7 => ?_) (fun c_7 => ?_)
      · refine lv_iconst (v := (nI 0)) hF.1 hF.2.1 dX3_may_53 (by decide) ?_
        refine kRetI (v := (nI 0)) hF hr hlk hK hP hD hS hQ rfl () [0, 1, 2, 3] (by decide) rfl (Nat.le_of_ble_eq_true rfl) (Nat.le_of_ble_eq_true rfl) dX3_may_54 ?_
        exact zI_0 (by unfold mayP; simp_all)
      · refine lv_iconst (v := (nI 1)) hF.1 hF.2.1 dX3_may_49 (by decide) ?_
        refine lv_goto (tgt := 54) hF.1 hF.2.1 dX3_may_50 (by decide) ?_
        refine kRetI (v := (nI 1)) hF hr hlk hK hP hD hS hQ rfl () [0, 1, 2, 3] (by decide) rfl (Nat.le_of_ble_eq_true rfl) (Nat.le_of_ble_eq_true rfl) dX3_may_54 ?_
        exact zI_1 (by unfold mayP; first | exact Or.inl (by assumption) | (refine Or.inr ?_; simp [*]))
