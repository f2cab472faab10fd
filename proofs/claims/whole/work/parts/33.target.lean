set_option maxHeartbeats 4000000 in
set_option maxRecDepth 100000 in
theorem c_X4_setTarget_new (l : Launch) (G : GG) (sz : Nat) (t tk tm to_ tv tp tl : Nat) (tF : Nat → Option Nat) (i : Int32) (a2 b2 n : Nat) (fl : Nat → Int32) (hi : vp_in i 40) (ho : tF (ix i) = none) (hn : n ≤ 40) (hfl : ∀ j, okC (fl j)) : CtV l G yX4_setTarget wsX4_setTarget 2 61 2 42 sz [.ref t, .int i, .ref a2] [oC t 4 [.ref tk, .ref tm, .ref to_, .ref tv, .ref tp, .ref tl], aL G tl 40 tF, oC a2 1 [.ref b2, .int (nI n)], aC G b2 40 fl] (fun (u : Nat × Nat) => match u with | (y, yb) => True) (fun (u : Nat × Nat) => match u with | (y, yb) => [oC t 4 [.ref tk, .ref tm, .ref to_, .ref tv, .ref tp, .ref tl], aL G tl 40 (va_up tF (ix i) (some y)), oC a2 1 [.ref b2, .int (nI n)], aC G b2 40 fl, oC y 1 [.ref yb, .int (nI n)], aC G yb 40 (va_cpy fl (fun _ => nI 0) 0 0 n)]) := by
  refine kMet (Qc := fun A => va_Qv _ (Bw G A _) A) (cc := cX4_setTarget) (nL := 3) (ret := none) (by decide) rfl (Nat.le_of_ble_eq_true rfl) ?_
  intro p e s m args below meth c A Q hF hr hlk hnme hK hP hD hA hS hQ hsz ls hl
  have hl : lv_has ls 3 [(0, .ref t), (1, .int i), (2, .ref a2)] := hl
  refine lv_aload_n hF.1 hF.2.1 dX4_setTarget_0 rfl (lv_at hl 0 rfl) ?_
  refine kGet (C := RX4) (T := TX4) (N := 6) (index := 29) hF hK hP (inT inBX4) 0 rfl rfl 5 (by decide) rfl (List.mem_cons_of_mem _ mF_X4_29) rfl dX4_setTarget_1 ?_
  refine lv_iload_n hF.1 hF.2.1 dX4_setTarget_4 rfl (lv_at hl 1 rfl) ?_
  refine kAald hF hK hP 1 rfl (by assumption) dX4_setTarget_5 ?_
  refine kTopV (y := .null) (by rw [ho]; rfl) ?_
  refine lv_ifnonnullN hF.1 hF.2.1 dX4_setTarget_6 ?_
  refine lv_aload_n hF.1 hF.2.1 dX4_setTarget_9 rfl (lv_at hl 0 rfl) ?_
  refine kGet (C := RX4) (T := TX4) (N := 6) (index := 29) hF hK hP (inT inBX4) 0 rfl rfl 5 (by decide) rfl (List.mem_cons_of_mem _ mF_X4_29) rfl dX4_setTarget_10 ?_
  refine lv_iload_n hF.1 hF.2.1 dX4_setTarget_13 rfl (lv_at hl 1 rfl) ?_
  refine kNew (ci := 1) (fs := [.null, .int (nI 0)]) (C := RX1) (T := TX1) (N := 2) (ty := tyX1) (index := 27) hF hK hP hD hS hA (inT inBX1) tyX1_ok (List.mem_cons_of_mem _ mQ_X4_27) (List.mem_cons_of_mem _ mK_X1) (List.mem_cons_of_mem _ mN_X1) rfl (by decide) (Nat.le_of_ble_eq_true rfl) (Nat.le_of_ble_eq_true rfl) dX4_setTarget_14 (fun q_1 H hP hD hS => ?_)
  have hP : PG G [oC t 4 [.ref tk, .ref tm, .ref to_, .ref tv, .ref tp, .ref tl], aL G tl 40 tF, oC a2 1 [.ref b2, .int (nI n)], aC G b2 40 fl, oC q_1 1 [.null, .int (nI 0)]] H := hP
  have hD : va_D A [oC t 4 [.ref tk, .ref tm, .ref to_, .ref tv, .ref tp, .ref tl], aL G tl 40 tF, oC a2 1 [.ref b2, .int (nI n)], aC G b2 40 fl, oC q_1 1 [.null, .int (nI 0)]] := hD
  refine W.widen (k := 1) (n := 2) (by omega) (by omega) ?_
  refine lv_dup hF.1 hF.2.1 dX4_setTarget_17 rfl ?_
  refine kCallV (wr := [oC t 4 [.ref tk, .ref tm, .ref to_, .ref tv, .ref tp, .ref tl], aL G tl 40 tF, oC a2 1 [.ref b2, .int (nI n)], aC G b2 40 fl]) (va_runIN (As := []) (rest := [.ref q_1, .int i, .ref tl]) hF (c_X1_init l G H.size q_1) (cwIN 0 hF rfl (nw_10 hK.2) mI_X1_init mN_X1 mC_X1_init rfl hd_X1_init rfl rfl ⟨Nat.le_of_ble_eq_true rfl, Nat.le_of_ble_eq_true rfl⟩) (kPreS hK hP hD [4] (by decide) rfl) rfl rfl hl.1 rfl (lv_room (Nat.le_of_ble_eq_true rfl)) dX4_setTarget_18 ⟨Nat.le_of_ble_eq_true rfl, Nat.le_of_ble_eq_true rfl⟩) hP hD hS hA [4] [0, 1, 2, 3] rfl rfl (by decide) (by decide) (fun b_2 H locs hw_3 hP hD hS => ?_)
  have hP : PG G [oC t 4 [.ref tk, .ref tm, .ref to_, .ref tv, .ref tp, .ref tl], aL G tl 40 tF, oC a2 1 [.ref b2, .int (nI n)], aC G b2 40 fl, oC q_1 1 [.ref b_2, .int (nI 0)], aC G b_2 40 (fun _ => nI 0)] H := hP
  have hD : va_D A [oC t 4 [.ref tk, .ref tm, .ref to_, .ref tv, .ref tp, .ref tl], aL G tl 40 tF, oC a2 1 [.ref b2, .int (nI n)], aC G b2 40 fl, oC q_1 1 [.ref b_2, .int (nI 0)], aC G b_2 40 (fun _ => nI 0)] := hD
  refine W.widen (k := 2) (n := 42) (by omega) (by omega) ?_
  refine kAast hF hK hP hD hS 1 4 rfl rfl (by assumption) dX4_setTarget_21 (fun H locs hP hD hS => ?_)
  have hP : PG G [oC t 4 [.ref tk, .ref tm, .ref to_, .ref tv, .ref tp, .ref tl], aL G tl 40 (va_up tF (ix i) (some q_1)), oC a2 1 [.ref b2, .int (nI n)], aC G b2 40 fl, oC q_1 1 [.ref b_2, .int (nI 0)], aC G b_2 40 (fun _ => nI 0)] H := hP
  have hD : va_D A [oC t 4 [.ref tk, .ref tm, .ref to_, .ref tv, .ref tp, .ref tl], aL G tl 40 (va_up tF (ix i) (some q_1)), oC a2 1 [.ref b2, .int (nI n)], aC G b2 40 fl, oC q_1 1 [.ref b_2, .int (nI 0)], aC G b_2 40 (fun _ => nI 0)] := hD
  refine lv_aload_n hF.1 hF.2.1 dX4_setTarget_22 rfl (lv_at hl 0 rfl) ?_
  refine kGet (C := RX4) (T := TX4) (N := 6) (index := 29) hF hK hP (inT inBX4) 0 rfl rfl 5 (by decide) rfl (List.mem_cons_of_mem _ mF_X4_29) rfl dX4_setTarget_23 ?_
  refine lv_iload_n hF.1 hF.2.1 dX4_setTarget_26 rfl (lv_at hl 1 rfl) ?_
  refine kAald hF hK hP 1 rfl (by assumption) dX4_setTarget_27 ?_
  refine kTopV (y := .ref q_1) (by rw [va_up_self]; rfl) ?_
  refine lv_aload_n hF.1 hF.2.1 dX4_setTarget_28 rfl (lv_at hl 2 rfl) ?_
  refine kCallV (wr := [oC t 4 [.ref tk, .ref tm, .ref to_, .ref tv, .ref tp, .ref tl], aL G tl 40 (va_up tF (ix i) (some q_1))]) (va_runV (As := [.ref a2]) (rest := []) hF (c_X1_copy l G H.size q_1 b_2 n (fun _ => nI 0) a2 b2 0 fl (by first | assumption | omega) (by first | assumption | omega)) (cwVB 1 hF rfl mL_X4_34 mI_X1_copy mS_X1_copy mN_X1 mC_X1_copy rfl hd_X1_copy rfl rfl ⟨Nat.le_of_ble_eq_true rfl, Nat.le_of_ble_eq_true rfl⟩) (kPre hK hP hD [4, 5, 2, 3] (by decide) rfl (q0 := 4) (ci := 1) rfl rfl rfl) rfl rfl hl.1 rfl (lv_room (Nat.le_of_ble_eq_true rfl)) dX4_setTarget_29 ⟨Nat.le_of_ble_eq_true rfl, Nat.le_of_ble_eq_true rfl⟩) hP hD hS hA [4, 5, 2, 3] [0, 1] rfl rfl (by decide) (by decide) (fun u H locs hw_4 hP hD hS => ?_)
  have hP : PG G [oC t 4 [.ref tk, .ref tm, .ref to_, .ref tv, .ref tp, .ref tl], aL G tl 40 (va_up tF (ix i) (some q_1)), oC a2 1 [.ref b2, .int (nI n)], aC G b2 40 fl, oC q_1 1 [.ref b_2, .int (nI n)], aC G b_2 40 (va_cpy fl (fun _ => nI 0) 0 0 n)] H := va_P.sub hP [0, 1, 4, 5, 2, 3] rfl
  have hD : va_D A [oC t 4 [.ref tk, .ref tm, .ref to_, .ref tv, .ref tp, .ref tl], aL G tl 40 (va_up tF (ix i) (some q_1)), oC a2 1 [.ref b2, .int (nI n)], aC G b2 40 fl, oC q_1 1 [.ref b_2, .int (nI n)], aC G b_2 40 (va_cpy fl (fun _ => nI 0) 0 0 n)] := va_D.sub hD [0, 1, 4, 5, 2, 3] (by decide) rfl
  refine kRetV hF hr hlk hK hP hD hS hQ (q_1, b_2) [0, 1, 2, 3, 4, 5] (by decide) rfl (Nat.le_of_ble_eq_true rfl) (Nat.le_of_ble_eq_true rfl) dX4_setTarget_32 ?_
  trivial
set_option maxHeartbeats 4000000 in
set_option maxRecDepth 100000 in
theorem c_X4_setTarget_old (l : Launch) (G : GG) (sz : Nat) (t tk tm to_ tv tp tl : Nat) (tF : Nat → Option Nat) (i : Int32) (a2 b2 n : Nat) (fl : Nat → Int32) (y yb n0 : Nat) (g : Nat → Int32) (hi : vp_in i 40) (ho : tF (ix i) = some y) (hn : n ≤ 40) (hfl : ∀ j, okC (fl j)) : CtV l G yX4_setTarget wsX4_setTarget 2 61 0 0 sz [.ref t, .int i, .ref a2] [oC t 4 [.ref tk, .ref tm, .ref to_, .ref tv, .ref tp, .ref tl], aL G tl 40 tF, oC a2 1 [.ref b2, .int (nI n)], aC G b2 40 fl, oC y 1 [.ref yb, .int (nI n0)], aC G yb 40 g] (fun (_ : Unit) => True) (fun (_ : Unit) => [oC t 4 [.ref tk, .ref tm, .ref to_, .ref tv, .ref tp, .ref tl], aL G tl 40 tF, oC a2 1 [.ref b2, .int (nI n)], aC G b2 40 fl, oC y 1 [.ref yb, .int (nI n)], aC G yb 40 (va_cpy fl g 0 0 n)]) := by
  refine kMet (Qc := fun A => va_Qv _ (Bw G A _) A) (cc := cX4_setTarget) (nL := 3) (ret := none) (by decide) rfl (Nat.le_of_ble_eq_true rfl) ?_
  intro p e s m args below meth c A Q hF hr hlk hnme hK hP hD hA hS hQ hsz ls hl
  have hl : lv_has ls 3 [(0, .ref t), (1, .int i), (2, .ref a2)] := hl
  refine lv_aload_n hF.1 hF.2.1 dX4_setTarget_0 rfl (lv_at hl 0 rfl) ?_
  refine kGet (C := RX4) (T := TX4) (N := 6) (index := 29) hF hK hP (inT inBX4) 0 rfl rfl 5 (by decide) rfl (List.mem_cons_of_mem _ mF_X4_29) rfl dX4_setTarget_1 ?_
  refine lv_iload_n hF.1 hF.2.1 dX4_setTarget_4 rfl (lv_at hl 1 rfl) ?_
  refine kAald hF hK hP 1 rfl (by assumption) dX4_setTarget_5 ?_
  refine kTopV (y := .ref y) (by rw [ho]; rfl) ?_
  refine lv_ifnonnull (tgt := 22) hF.1 hF.2.1 dX4_setTarget_6 (by decide) ?_
  refine lv_aload_n hF.1 hF.2.1 dX4_setTarget_22 rfl (lv_at hl 0 rfl) ?_
  refine kGet (C := RX4) (T := TX4) (N := 6) (index := 29) hF hK hP (inT inBX4) 0 rfl rfl 5 (by decide) rfl (List.mem_cons_of_mem _ mF_X4_29) rfl dX4_setTarget_23 ?_
  refine lv_iload_n hF.1 hF.2.1 dX4_setTarget_26 rfl (lv_at hl 1 rfl) ?_
  refine kAald hF hK hP 1 rfl (by assumption) dX4_setTarget_27 ?_
  refine kTopV (y := .ref y) (by rw [ho]; rfl) ?_
  refine lv_aload_n hF.1 hF.2.1 dX4_setTarget_28 rfl (lv_at hl 2 rfl) ?_
  refine kCallV (wr := [oC t 4 [.ref tk, .ref tm, .ref to_, .ref tv, .ref tp, .ref tl], aL G tl 40 tF]) (va_runV (As := [.ref a2]) (rest := []) hF (c_X1_copy l G _ y yb n g a2 b2 n0 fl (by first | assumption | omega) (by first | assumption | omega)) (cwVB 1 hF rfl mL_X4_34 mI_X1_copy mS_X1_copy mN_X1 mC_X1_copy rfl hd_X1_copy rfl rfl ⟨Nat.le_of_ble_eq_true rfl, Nat.le_of_ble_eq_true rfl⟩) (kPre hK hP hD [4, 5, 2, 3] (by decide) rfl (q0 := 4) (ci := 1) rfl rfl rfl) rfl rfl hl.1 rfl (lv_room (Nat.le_of_ble_eq_true rfl)) dX4_setTarget_29 ⟨Nat.le_of_ble_eq_true rfl, Nat.le_of_ble_eq_true rfl⟩) hP hD hS hA [4, 5, 2, 3] [0, 1] rfl rfl (by decide) (by decide) (fun u H locs hw_1 hP hD hS => ?_)
  have hP : PG G [oC t 4 [.ref tk, .ref tm, .ref to_, .ref tv, .ref tp, .ref tl], aL G tl 40 tF, oC a2 1 [.ref b2, .int (nI n)], aC G b2 40 fl, oC y 1 [.ref yb, .int (nI n)], aC G yb 40 (va_cpy fl g 0 0 n)] H := va_P.sub hP [0, 1, 4, 5, 2, 3] rfl
  have hD : va_D A [oC t 4 [.ref tk, .ref tm, .ref to_, .ref tv, .ref tp, .ref tl], aL G tl 40 tF, oC a2 1 [.ref b2, .int (nI n)], aC G b2 40 fl, oC y 1 [.ref yb, .int (nI n)], aC G yb 40 (va_cpy fl g 0 0 n)] := va_D.sub hD [0, 1, 4, 5, 2, 3] (by decide) rfl
  refine kRetV hF hr hlk hK hP hD hS hQ () [0, 1, 2, 3, 4, 5] (by decide) rfl (Nat.le_of_ble_eq_true rfl) (Nat.le_of_ble_eq_true rfl) dX4_setTarget_32 ?_
  trivial
