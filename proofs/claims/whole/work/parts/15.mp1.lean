set_option maxHeartbeats 4000000 in
set_option maxRecDepth 100000 in
theorem c_X7_wipe (l : Launch) (G : GG) (sz : Nat) (x : Nat) (xa : Nat) (ya : Nat) (za : Nat) (t : Nat) (en : Nat) (vo : Nat) (se : Nat) (wk : Nat) (xb : Nat) (xn : Nat) (xf : Nat → Int32) : CtV l G yX7_wipe wsX7_wipe 1 20 0 0 sz [.ref x] [oC x 7 [.ref xa, .ref ya, .ref za, .ref t, .ref en, .ref vo, .ref se, .ref wk], oC xa 1 [.ref xb, .int (nI xn)], aC G xb 40 xf] (fun (_ : Unit) => True) (fun (_ : Unit) => [oC x 7 [.ref xa, .ref ya, .ref za, .ref t, .ref en, .ref vo, .ref se, .ref wk], oC xa 1 [.ref xb, .int (nI 0)], aC G xb 40 xf]) := by
  refine kMet (Qc := fun A => va_Qv _ (Bw G A _) A) (cc := cX7_wipe) (nL := 1) (ret := none) (by decide) rfl (Nat.le_of_ble_eq_true rfl) ?_
  intro p e s m args below meth c A Q hF hr hlk hnme hK hP hD hA hS hQ hsz ls hl
  have hl : lv_has ls 1 [(0, .ref x)] := hl
  refine lv_aload_n hF.1 hF.2.1 dX7_wipe_0 rfl (lv_at hl 0 rfl) ?_
  refine kGet (C := RX7) (T := TX7) (N := 8) (index := 10) hF hK hP (inT inBX7) 0 rfl rfl 0 (by decide) rfl (List.mem_cons_of_mem _ mF_X7_10) rfl dX7_wipe_1 ?_
  refine kCallV (wr := [oC x 7 [.ref xa, .ref ya, .ref za, .ref t, .ref en, .ref vo, .ref se, .ref wk]]) (va_runV (As := []) (rest := []) hF (c_X1_clear l G _ xa xb xn xf) (cwVB 0 hF rfl mL_X7_81 mI_X1_clear mS_X1_clear mN_X1 mC_X1_clear rfl hd_X1_clear rfl rfl ⟨Nat.le_of_ble_eq_true rfl, Nat.le_of_ble_eq_true rfl⟩) (kPre hK hP hD [1, 2] (by decide) rfl (q0 := 1) (ci := 1) rfl rfl rfl) rfl rfl hl.1 rfl (lv_room (Nat.le_of_ble_eq_true rfl)) dX7_wipe_4 ⟨Nat.le_of_ble_eq_true rfl, Nat.le_of_ble_eq_true rfl⟩) hP hD hS hA [1, 2] [0] rfl rfl (by decide) (by decide) (fun u H locs hw_1 hP hD hS => ?_)
  have hP : PG G [oC x 7 [.ref xa, .ref ya, .ref za, .ref t, .ref en, .ref vo, .ref se, .ref wk], oC xa 1 [.ref xb, .int (nI 0)], aC G xb 40 xf] H := hP
  have hD : va_D A [oC x 7 [.ref xa, .ref ya, .ref za, .ref t, .ref en, .ref vo, .ref se, .ref wk], oC xa 1 [.ref xb, .int (nI 0)], aC G xb 40 xf] := hD
  refine kRetV hF hr hlk hK hP hD hS hQ () [0, 1, 2] (by decide) rfl (Nat.le_of_ble_eq_true rfl) (Nat.le_of_ble_eq_true rfl) dX7_wipe_7 ?_
  exact (by first | rfl | trivial | exact zI_1 (by first | assumption | omega) | exact zI_0 (by first | assumption | omega) | (simp_all; done))
set_option maxHeartbeats 4000000 in
set_option maxRecDepth 100000 in
theorem c_X7_keep (l : Launch) (G : GG) (sz : Nat) (x : Nat) (xa : Nat) (ya : Nat) (za : Nat) (t : Nat) (en : Nat) (vo : Nat) (se : Nat) (wk : Nat) (xb : Nat) (xn : Nat) (xf : Nat → Int32) (yb : Nat) (yn : Nat) (yf : Nat → Int32) (hxn : xn ≤ 40) (hxf : ∀ j, okC (xf j)) : CtV l G yX7_keep wsX7_keep 2 61 0 0 sz [.ref x] [oC x 7 [.ref xa, .ref ya, .ref za, .ref t, .ref en, .ref vo, .ref se, .ref wk], oC xa 1 [.ref xb, .int (nI xn)], aC G xb 40 xf, oC ya 1 [.ref yb, .int (nI yn)], aC G yb 40 yf] (fun (_ : Unit) => True) (fun (_ : Unit) => [oC x 7 [.ref xa, .ref ya, .ref za, .ref t, .ref en, .ref vo, .ref se, .ref wk], oC xa 1 [.ref xb, .int (nI xn)], aC G xb 40 xf, oC ya 1 [.ref yb, .int (nI xn)], aC G yb 40 (va_cpy xf yf 0 0 xn)]) := by
  refine kMet (Qc := fun A => va_Qv _ (Bw G A _) A) (cc := cX7_keep) (nL := 1) (ret := none) (by decide) rfl (Nat.le_of_ble_eq_true rfl) ?_
  intro p e s m args below meth c A Q hF hr hlk hnme hK hP hD hA hS hQ hsz ls hl
  have hl : lv_has ls 1 [(0, .ref x)] := hl
  refine lv_aload_n hF.1 hF.2.1 dX7_keep_0 rfl (lv_at hl 0 rfl) ?_
  refine kGet (C := RX7) (T := TX7) (N := 8) (index := 16) hF hK hP (inT inBX7) 0 rfl rfl 1 (by decide) rfl (List.mem_cons_of_mem _ mF_X7_16) rfl dX7_keep_1 ?_
  refine lv_aload_n hF.1 hF.2.1 dX7_keep_4 rfl (lv_at hl 0 rfl) ?_
  refine kGet (C := RX7) (T := TX7) (N := 8) (index := 10) hF hK hP (inT inBX7) 0 rfl rfl 0 (by decide) rfl (List.mem_cons_of_mem _ mF_X7_10) rfl dX7_keep_5 ?_
  refine kCallV (wr := [oC x 7 [.ref xa, .ref ya, .ref za, .ref t, .ref en, .ref vo, .ref se, .ref wk]]) (va_runV (As := [.ref xa]) (rest := []) hF (c_X1_copy l G _ ya yb xn yf xa xb yn xf (by first | assumption | omega) (by first | assumption | omega)) (cwVB 1 hF rfl mL_X7_84 mI_X1_copy mS_X1_copy mN_X1 mC_X1_copy rfl hd_X1_copy rfl rfl ⟨Nat.le_of_ble_eq_true rfl, Nat.le_of_ble_eq_true rfl⟩) (kPre hK hP hD [3, 4, 1, 2] (by decide) rfl (q0 := 3) (ci := 1) rfl rfl rfl) rfl rfl hl.1 rfl (lv_room (Nat.le_of_ble_eq_true rfl)) dX7_keep_8 ⟨Nat.le_of_ble_eq_true rfl, Nat.le_of_ble_eq_true rfl⟩) hP hD hS hA [3, 4, 1, 2] [0] rfl rfl (by decide) (by decide) (fun u H locs hw_1 hP hD hS => ?_)
  have hP : PG G [oC x 7 [.ref xa, .ref ya, .ref za, .ref t, .ref en, .ref vo, .ref se, .ref wk], oC xa 1 [.ref xb, .int (nI xn)], aC G xb 40 xf, oC ya 1 [.ref yb, .int (nI xn)], aC G yb 40 (va_cpy xf yf 0 0 xn)] H := va_P.sub hP [0, 3, 4, 1, 2] rfl
  have hD : va_D A [oC x 7 [.ref xa, .ref ya, .ref za, .ref t, .ref en, .ref vo, .ref se, .ref wk], oC xa 1 [.ref xb, .int (nI xn)], aC G xb 40 xf, oC ya 1 [.ref yb, .int (nI xn)], aC G yb 40 (va_cpy xf yf 0 0 xn)] := va_D.sub hD [0, 3, 4, 1, 2] (by decide) rfl
  refine kRetV hF hr hlk hK hP hD hS hQ () [0, 1, 2, 3, 4] (by decide) rfl (Nat.le_of_ble_eq_true rfl) (Nat.le_of_ble_eq_true rfl) dX7_keep_11 ?_
  exact (by first | rfl | trivial | exact zI_1 (by first | assumption | omega) | exact zI_0 (by first | assumption | omega) | (simp_all; done))
set_option maxHeartbeats 4000000 in
set_option maxRecDepth 100000 in
theorem c_X7_length (l : Launch) (G : GG) (sz : Nat) (x : Nat) (xa : Nat) (ya : Nat) (za : Nat) (t : Nat) (en : Nat) (vo : Nat) (se : Nat) (wk : Nat) (xb : Nat) (xn : Nat) (xf : Nat → Int32) : CtI l G yX7_length wsX7_length 1 20 0 0 sz [.ref x] [oC x 7 [.ref xa, .ref ya, .ref za, .ref t, .ref en, .ref vo, .ref se, .ref wk], oC xa 1 [.ref xb, .int (nI xn)], aC G xb 40 xf] (fun r (_ : Unit) => r = (nI xn)) (fun (_ : Unit) => [oC x 7 [.ref xa, .ref ya, .ref za, .ref t, .ref en, .ref vo, .ref se, .ref wk], oC xa 1 [.ref xb, .int (nI xn)], aC G xb 40 xf]) := by
  refine kMet (Qc := fun A => va_Qi _ (Bw G A _) A) (cc := cX7_length) (nL := 1) (ret := some (.int)) (by decide) rfl (Nat.le_of_ble_eq_true rfl) ?_
  intro p e s m args below meth c A Q hF hr hlk hnme hK hP hD hA hS hQ hsz ls hl
  have hl : lv_has ls 1 [(0, .ref x)] := hl
  refine lv_aload_n hF.1 hF.2.1 dX7_length_0 rfl (lv_at hl 0 rfl) ?_
  refine kGet (C := RX7) (T := TX7) (N := 8) (index := 10) hF hK hP (inT inBX7) 0 rfl rfl 0 (by decide) rfl (List.mem_cons_of_mem _ mF_X7_10) rfl dX7_length_1 ?_
  refine kCallI (wr := [oC x 7 [.ref xa, .ref ya, .ref za, .ref t, .ref en, .ref vo, .ref se, .ref wk]]) (va_runV (As := []) (rest := []) hF (c_X1_size l G _ xa xb xn xf) (cwVB 0 hF rfl mL_X7_88 mI_X1_size mS_X1_size mN_X1 mC_X1_size rfl hd_X1_size rfl rfl ⟨Nat.le_of_ble_eq_true rfl, Nat.le_of_ble_eq_true rfl⟩) (kPre hK hP hD [1, 2] (by decide) rfl (q0 := 1) (ci := 1) rfl rfl rfl) rfl rfl hl.1 rfl (lv_room (Nat.le_of_ble_eq_true rfl)) dX7_length_4 ⟨Nat.le_of_ble_eq_true rfl, Nat.le_of_ble_eq_true rfl⟩) hP hD hS hA [1, 2] [0] rfl rfl (by decide) (by decide) (fun r u H locs hw_1 hP hD hS => ?_)
  have hw_1 := hw_1.symm
  subst hw_1
  have hP : PG G [oC x 7 [.ref xa, .ref ya, .ref za, .ref t, .ref en, .ref vo, .ref se, .ref wk], oC xa 1 [.ref xb, .int (nI xn)], aC G xb 40 xf] H := hP
  have hD : va_D A [oC x 7 [.ref xa, .ref ya, .ref za, .ref t, .ref en, .ref vo, .ref se, .ref wk], oC xa 1 [.ref xb, .int (nI xn)], aC G xb 40 xf] := hD
  refine kRetI (v := (nI xn)) hF hr hlk hK hP hD hS hQ rfl () [0, 1, 2] (by decide) rfl (Nat.le_of_ble_eq_true rfl) (Nat.le_of_ble_eq_true rfl) dX7_length_7 ?_
  exact (by first | rfl | trivial | exact zI_1 (by first | assumption | omega) | exact zI_0 (by first | assumption | omega) | (simp_all; done))
set_option maxHeartbeats 4000000 in
set_option maxRecDepth 100000 in
theorem c_X7_at (l : Launch) (G : GG) (sz : Nat) (x : Nat) (xa : Nat) (ya : Nat) (za : Nat) (t : Nat) (en : Nat) (vo : Nat) (se : Nat) (wk : Nat) (xb : Nat) (xn : Nat) (xf : Nat → Int32) (k0 : Int32) (hxn : xn ≤ 40) (hxf : ∀ j, okC (xf j)) : CtI l G yX7_at wsX7_at 1 21 0 0 sz [.ref x, .int k0] [oC x 7 [.ref xa, .ref ya, .ref za, .ref t, .ref en, .ref vo, .ref se, .ref wk], oC xa 1 [.ref xb, .int (nI xn)], aC G xb 40 xf] (fun r (_ : Unit) => r = (atC xf xn k0)) (fun (_ : Unit) => [oC x 7 [.ref xa, .ref ya, .ref za, .ref t, .ref en, .ref vo, .ref se, .ref wk], oC xa 1 [.ref xb, .int (nI xn)], aC G xb 40 xf]) := by
  refine kMet (Qc := fun A => va_Qi _ (Bw G A _) A) (cc := cX7_at) (nL := 2) (ret := some (.int)) (by decide) rfl (Nat.le_of_ble_eq_true rfl) ?_
  intro p e s m args below meth c A Q hF hr hlk hnme hK hP hD hA hS hQ hsz ls hl
  have hl : lv_has ls 2 [(0, .ref x), (1, .int k0)] := hl
  refine lv_iload_n hF.1 hF.2.1 dX7_at_0 rfl (lv_at hl 1 rfl) ?_
  refine lv_if_lt (tgt := 26) hF.1 hF.2.1 dX7_at_1 (by decide) (fun c_1 => ?_) (fun c_1 => ?_)
  · refine lv_bipush (v := (-11)) hF.1 hF.2.1 dX7_at_26 (by decide) ?_
    refine kRetI (v := (-11)) hF hr hlk hK hP hD hS hQ rfl () [0, 1, 2] (by decide) rfl (Nat.le_of_ble_eq_true rfl) (Nat.le_of_ble_eq_true rfl) dX7_at_28 ?_
    exact (if_neg (fun h => by first | exact absurd (by assumption) h.1 | exact absurd (by assumption) h.2)).symm
  · refine lv_iload_n hF.1 hF.2.1 dX7_at_4 rfl (lv_at hl 1 rfl) ?_
    refine lv_aload_n hF.1 hF.2.1 dX7_at_5 rfl (lv_at hl 0 rfl) ?_
    refine kGet (C := RX7) (T := TX7) (N := 8) (index := 10) hF hK hP (inT inBX7) 0 rfl rfl 0 (by decide) rfl (List.mem_cons_of_mem _ mF_X7_10) rfl dX7_at_6 ?_
    refine kCallI (wr := [oC x 7 [.ref xa, .ref ya, .ref za, .ref t, .ref en, .ref vo, .ref se, .ref wk]]) (va_runV (As := []) (rest := [.int k0]) hF (c_X1_size l G _ xa xb xn xf) (cwVB 0 hF rfl mL_X7_88 mI_X1_size mS_X1_size mN_X1 mC_X1_size rfl hd_X1_size rfl rfl ⟨Nat.le_of_ble_eq_true rfl, Nat.le_of_ble_eq_true rfl⟩) (kPre hK hP hD [1, 2] (by decide) rfl (q0 := 1) (ci := 1) rfl rfl rfl) rfl rfl hl.1 rfl (lv_room (Nat.le_of_ble_eq_true rfl)) dX7_at_9 ⟨Nat.le_of_ble_eq_true rfl, Nat.le_of_ble_eq_true rfl⟩) hP hD hS hA [1, 2] [0] rfl rfl (by decide) (by decide) (fun r u H locs hw_2 hP hD hS => ?_)
    have hw_2 := hw_2.symm
    subst hw_2
    have hP : PG G [oC x 7 [.ref xa, .ref ya, .ref za, .ref t, .ref en, .ref vo, .ref se, .ref wk], oC xa 1 [.ref xb, .int (nI xn)], aC G xb 40 xf] H := hP
    have hD : va_D A [oC x 7 [.ref xa, .ref ya, .ref za, .ref t, .ref en, .ref vo, .ref se, .ref wk], oC xa 1 [.ref xb, .int (nI xn)], aC G xb 40 xf] := hD
    refine lv_icmp_ge (tgt := 26) hF.1 hF.2.1 dX7_at_12 (by decide) (fun c_3 => ?_) (fun c_3 => ?_)
    · refine lv_bipush (v := (-11)) hF.1 hF.2.1 dX7_at_26 (by decide) ?_
      refine kRetI (v := (-11)) hF hr hlk hK hP hD hS hQ rfl () [0, 1, 2] (by decide) rfl (Nat.le_of_ble_eq_true rfl) (Nat.le_of_ble_eq_true rfl) dX7_at_28 ?_
      exact (if_neg (fun h => by first | exact absurd (by assumption) h.1 | exact absurd (by assumption) h.2)).symm
    · obtain ⟨j, hj, rfl⟩ := ix_of (n := xn) (by assumption) (by assumption) (by omega)
      skip
      refine lv_aload_n hF.1 hF.2.1 dX7_at_15 rfl (lv_at hl 0 rfl) ?_
      refine kGet (C := RX7) (T := TX7) (N := 8) (index := 10) hF hK hP (inT inBX7) 0 rfl rfl 0 (by decide) rfl (List.mem_cons_of_mem _ mF_X7_10) rfl dX7_at_16 ?_
      refine lv_iload_n hF.1 hF.2.1 dX7_at_19 rfl (lv_at hl 1 rfl) ?_
      refine kCallI (wr := [oC x 7 [.ref xa, .ref ya, .ref za, .ref t, .ref en, .ref vo, .ref se, .ref wk]]) (va_runV (As := [.int (nI j)]) (rest := []) hF (c_X1_mark l G H.size xa xb xn xf j (by first | assumption | omega) (by first | assumption | omega) (by first | assumption | omega)) (cwVB 1 hF rfl mL_X7_92 mI_X1_mark mS_X1_mark mN_X1 mC_X1_mark rfl hd_X1_mark rfl rfl ⟨Nat.le_of_ble_eq_true rfl, Nat.le_of_ble_eq_true rfl⟩) (kPre hK hP hD [1, 2] (by decide) rfl (q0 := 1) (ci := 1) rfl rfl rfl) rfl rfl hl.1 rfl (lv_room (Nat.le_of_ble_eq_true rfl)) dX7_at_20 ⟨Nat.le_of_ble_eq_true rfl, Nat.le_of_ble_eq_true rfl⟩) hP hD hS hA [1, 2] [0] rfl rfl (by decide) (by decide) (fun r u H locs hw_4 hP hD hS => ?_)
      have hw_4 := hw_4.symm
      subst hw_4
      have hP : PG G [oC x 7 [.ref xa, .ref ya, .ref za, .ref t, .ref en, .ref vo, .ref se, .ref wk], oC xa 1 [.ref xb, .int (nI xn)], aC G xb 40 xf] H := hP
      have hD : va_D A [oC x 7 [.ref xa, .ref ya, .ref za, .ref t, .ref en, .ref vo, .ref se, .ref wk], oC xa 1 [.ref xb, .int (nI xn)], aC G xb 40 xf] := hD
      refine lv_goto (tgt := 28) hF.1 hF.2.1 dX7_at_23 (by decide) ?_
      refine kRetI (v := (xf j)) hF hr hlk hK hP hD hS hQ rfl () [0, 1, 2] (by decide) rfl (Nat.le_of_ble_eq_true rfl) (Nat.le_of_ble_eq_true rfl) dX7_at_28 ?_
      rw [atC, if_pos ⟨by assumption, by assumption⟩, ix_nI (by omega)]
set_option maxHeartbeats 4000000 in
set_option maxRecDepth 100000 in
theorem c_X7_isMode (l : Launch) (G : GG) (sz : Nat) (mo : Int32) : CtI l G yX7_isMode wsX7_isMode 0 0 0 0 sz [.int mo] [] (fun r (_ : Unit) => r = (zI (mdP mo))) (fun (_ : Unit) => []) := by
  refine kMet (Qc := fun A => va_Qi _ (Bw G A _) A) (cc := cX7_isMode) (nL := 1) (ret := some (.boolean)) (by decide) rfl (Nat.le_of_ble_eq_true rfl) ?_
  intro p e s m args below meth c A Q hF hr hlk hnme hK hP hD hA hS hQ hsz ls hl
  have hl : lv_has ls 1 [(0, .int mo)] := hl
  refine lv_iload_n hF.1 hF.2.1 dX7_isMode_0 rfl (lv_at hl 0 rfl) ?_
  refine lv_if_lt (tgt := 14) hF.1 hF.2.1 dX7_isMode_1 (by decide) (fun c_1 => ?_) (fun c_1 => ?_)
  · refine lv_iconst (v := (nI 0)) hF.1 hF.2.1 dX7_isMode_14 (by decide) ?_
    refine kRetI (v := (nI 0)) hF hr hlk hK hP hD hS hQ rfl () [] (by decide) rfl (Nat.le_of_ble_eq_true rfl) (Nat.le_of_ble_eq_true rfl) dX7_isMode_15 ?_
    exact zI_0 (fun h => by first | exact absurd (by assumption) h.1 | exact absurd (by assumption) h.2)
  · refine lv_iload_n hF.1 hF.2.1 dX7_isMode_4 rfl (lv_at hl 0 rfl) ?_
    refine lv_bipush (v := (nI 16)) hF.1 hF.2.1 dX7_isMode_5 (by decide) ?_
    refine lv_icmp_ge (tgt := 14) hF.1 hF.2.1 dX7_isMode_7 (by decide) (fun c_2 => ?_) (fun c_2 => ?_)
    · refine lv_iconst (v := (nI 0)) hF.1 hF.2.1 dX7_isMode_14 (by decide) ?_
      refine kRetI (v := (nI 0)) hF hr hlk hK hP hD hS hQ rfl () [] (by decide) rfl (Nat.le_of_ble_eq_true rfl) (Nat.le_of_ble_eq_true rfl) dX7_isMode_15 ?_
      exact zI_0 (fun h => by first | exact absurd (by assumption) h.1 | exact absurd (by assumption) h.2)
    · refine lv_iconst (v := (nI 1)) hF.1 hF.2.1 dX7_isMode_10 (by decide) ?_
      refine lv_goto (tgt := 15) hF.1 hF.2.1 dX7_isMode_11 (by decide) ?_
      refine kRetI (v := (nI 1)) hF hr hlk hK hP hD hS hQ rfl () [] (by decide) rfl (Nat.le_of_ble_eq_true rfl) (Nat.le_of_ble_eq_true rfl) dX7_isMode_15 ?_
      exact zI_1 ⟨by assumption, by assumption⟩
set_option maxHeartbeats 4000000 in
set_option maxRecDepth 100000 in
theorem c_X7_user (l : Launch) (G : GG) (sz : Nat) (x : Nat) (xa : Nat) (ya : Nat) (za : Nat) (t : Nat) (en : Nat) (vo : Nat) (se : Nat) (wk : Nat) (us : Int32) (ro : Int32) (pr : Int32) (uu : Int32) : CtI l G yX7_user wsX7_user 0 0 0 0 sz [.ref x, .int uu] [oC x 7 [.ref xa, .ref ya, .ref za, .ref t, .ref en, .ref vo, .ref se, .ref wk], oC se 3 [.ref t, .int us, .int ro, .int pr]] (fun r (u : Int32) => match u with | (u2) => r = (zI (¬ uu < 0 ∧ uu < nI 4)) ∧ u2 = pI (¬ uu < 0 ∧ uu < nI 4) uu us) (fun (u : Int32) => match u with | (u2) => [oC x 7 [.ref xa, .ref ya, .ref za, .ref t, .ref en, .ref vo, .ref se, .ref wk], oC se 3 [.ref t, .int u2, .int ro, .int pr]]) := by
  refine kMet (Qc := fun A => va_Qi _ (Bw G A _) A) (cc := cX7_user) (nL := 2) (ret := some (.boolean)) (by decide) rfl (Nat.le_of_ble_eq_true rfl) ?_
  intro p e s m args below meth c A Q hF hr hlk hnme hK hP hD hA hS hQ hsz ls hl
  have hl : lv_has ls 2 [(0, .ref x), (1, .int uu)] := hl
  refine lv_iload_n hF.1 hF.2.1 dX7_user_0 rfl (lv_at hl 1 rfl) ?_
  refine lv_if_lt (tgt := 9) hF.1 hF.2.1 dX7_user_1 (by decide) (fun c_1 => ?_) (fun c_1 => ?_)
  · refine lv_iconst (v := (nI 0)) hF.1 hF.2.1 dX7_user_9 (by decide) ?_
    refine kRetI (v := (nI 0)) hF hr hlk hK hP hD hS hQ rfl (us) [0, 1] (by decide) rfl (Nat.le_of_ble_eq_true rfl) (Nat.le_of_ble_eq_true rfl) dX7_user_10 ?_
    exact ⟨zI_0 (fun h => by first | exact absurd (by assumption) h.1 | exact absurd h.2 (by assumption)), (pI_f (fun h => by first | exact absurd (by assumption) h.1 | exact absurd h.2 (by assumption))).symm⟩
  · refine lv_iload_n hF.1 hF.2.1 dX7_user_4 rfl (lv_at hl 1 rfl) ?_
    refine lv_iconst (v := (nI 4)) hF.1 hF.2.1 dX7_user_5 (by decide) ?_
    refine lv_icmp_lt (tgt := 11) hF.1 hF.2.1 dX7_user_6 (by decide) (fun c_2 => ?_) (fun c_2 => ?_)
    · refine lv_aload_n hF.1 hF.2.1 dX7_user_11 rfl (lv_at hl 0 rfl) ?_
      refine kGet (C := RX7) (T := TX7) (N := 8) (index := 52) hF hK hP (inT inBX7) 0 rfl rfl 6 (by decide) rfl (List.mem_cons_of_mem _ mF_X7_52) rfl dX7_user_12 ?_
      refine lv_iload_n hF.1 hF.2.1 dX7_user_15 rfl (lv_at hl 1 rfl) ?_
      refine kPutN (C := RX3) (T := TX3) (N := 4) (index := 118) (v := .int uu) hF hK hP hD hS (inT inBX3) tyX3_ok nmX3 1 rfl rfl 1 (by decide) rfl (nw_4 hK.2) rfl rfl rfl (Nat.le_of_ble_eq_true rfl) dX7_user_16 (fun H locs hP hD hS => ?_)
      have hP : PG G [oC x 7 [.ref xa, .ref ya, .ref za, .ref t, .ref en, .ref vo, .ref se, .ref wk], oC se 3 [.ref t, .int uu, .int ro, .int pr]] H := hP
      have hD : va_D A [oC x 7 [.ref xa, .ref ya, .ref za, .ref t, .ref en, .ref vo, .ref se, .ref wk], oC se 3 [.ref t, .int uu, .int ro, .int pr]] := hD
      refine lv_iconst (v := (nI 1)) hF.1 hF.2.1 dX7_user_19 (by decide) ?_
      refine kRetI (v := (nI 1)) hF hr hlk hK hP hD hS hQ rfl (uu) [0, 1] (by decide) rfl (Nat.le_of_ble_eq_true rfl) (Nat.le_of_ble_eq_true rfl) dX7_user_20 ?_
      exact ⟨zI_1 ⟨by assumption, by assumption⟩, (pI_t ⟨by assumption, by assumption⟩).symm⟩
    · refine lv_iconst (v := (nI 0)) hF.1 hF.2.1 dX7_user_9 (by decide) ?_
      refine kRetI (v := (nI 0)) hF hr hlk hK hP hD hS hQ rfl (us) [0, 1] (by decide) rfl (Nat.le_of_ble_eq_true rfl) (Nat.le_of_ble_eq_true rfl) dX7_user_10 ?_
      exact ⟨zI_0 (fun h => by first | exact absurd (by assumption) h.1 | exact absurd h.2 (by assumption)), (pI_f (fun h => by first | exact absurd (by assumption) h.1 | exact absurd h.2 (by assumption))).symm⟩
set_option maxHeartbeats 4000000 in
set_option maxRecDepth 100000 in
theorem c_X7_kind (l : Launch) (G : GG) (sz : Nat) (x : Nat) (xa : Nat) (ya : Nat) (za : Nat) (t : Nat) (en : Nat) (vo : Nat) (se : Nat) (wk : Nat) (tk : Nat) (tm : Nat) (to_ : Nat) (tv : Nat) (tp : Nat) (tl : Nat) (kF : Nat → Int32) (i : Int32) : CtI l G yX7_kind wsX7_kind 1 21 0 0 sz [.ref x, .int i] [oC x 7 [.ref xa, .ref ya, .ref za, .ref t, .ref en, .ref vo, .ref se, .ref wk], oC t 4 [.ref tk, .ref tm, .ref to_, .ref tv, .ref tp, .ref tl], aI G tk 40 kF] (fun r (_ : Unit) => r = (knC kF i)) (fun (_ : Unit) => [oC x 7 [.ref xa, .ref ya, .ref za, .ref t, .ref en, .ref vo, .ref se, .ref wk], oC t 4 [.ref tk, .ref tm, .ref to_, .ref tv, .ref tp, .ref tl], aI G tk 40 kF]) := by
  refine kMet (Qc := fun A => va_Qi _ (Bw G A _) A) (cc := cX7_kind) (nL := 2) (ret := some (.int)) (by decide) rfl (Nat.le_of_ble_eq_true rfl) ?_
  intro p e s m args below meth c A Q hF hr hlk hnme hK hP hD hA hS hQ hsz ls hl
  have hl : lv_has ls 2 [(0, .ref x), (1, .int i)] := hl
  refine lv_iload_n hF.1 hF.2.1 dX7_kind_0 rfl (lv_at hl 1 rfl) ?_
  refine lv_if_lt (tgt := 21) hF.1 hF.2.1 dX7_kind_1 (by decide) (fun c_1 => ?_) (fun c_1 => ?_)
  · refine lv_iconst (v := (nI 0)) hF.1 hF.2.1 dX7_kind_21 (by decide) ?_
    refine kRetI (v := (nI 0)) hF hr hlk hK hP hD hS hQ rfl () [0, 1, 2] (by decide) rfl (Nat.le_of_ble_eq_true rfl) (Nat.le_of_ble_eq_true rfl) dX7_kind_22 ?_
    exact (if_neg (fun h => by first | exact absurd (by assumption) h.1 | exact absurd (by assumption) h.2)).symm
  · refine lv_iload_n hF.1 hF.2.1 dX7_kind_4 rfl (lv_at hl 1 rfl) ?_
    refine lv_bipush (v := (nI 40)) hF.1 hF.2.1 dX7_kind_5 (by decide) ?_
    refine lv_icmp_ge (tgt := 21) hF.1 hF.2.1 dX7_kind_7 (by decide) (fun c_2 => ?_) (fun c_2 => ?_)
    · refine lv_iconst (v := (nI 0)) hF.1 hF.2.1 dX7_kind_21 (by decide) ?_
      refine kRetI (v := (nI 0)) hF hr hlk hK hP hD hS hQ rfl () [0, 1, 2] (by decide) rfl (Nat.le_of_ble_eq_true rfl) (Nat.le_of_ble_eq_true rfl) dX7_kind_22 ?_
      exact (if_neg (fun h => by first | exact absurd (by assumption) h.1 | exact absurd (by assumption) h.2)).symm
    · refine lv_aload_n hF.1 hF.2.1 dX7_kind_10 rfl (lv_at hl 0 rfl) ?_
      refine kGet (C := RX7) (T := TX7) (N := 8) (index := 29) hF hK hP (inT inBX7) 0 rfl rfl 3 (by decide) rfl (List.mem_cons_of_mem _ mF_X7_29) rfl dX7_kind_11 ?_
      refine lv_iload_n hF.1 hF.2.1 dX7_kind_14 rfl (lv_at hl 1 rfl) ?_
      refine kCallI (wr := [oC x 7 [.ref xa, .ref ya, .ref za, .ref t, .ref en, .ref vo, .ref se, .ref wk]]) (va_runV (As := [.int i]) (rest := []) hF (c_X4_sort l G _ t tk tm to_ tv tp tl kF i (vp_of (by assumption) (by assumption) (by decide))) (cwVB 1 hF rfl mL_X7_253 mI_X4_sort mS_X4_sort mN_X4 mC_X4_sort rfl hd_X4_sort rfl rfl ⟨Nat.le_of_ble_eq_true rfl, Nat.le_of_ble_eq_true rfl⟩) (kPre hK hP hD [1, 2] (by decide) rfl (q0 := 1) (ci := 4) rfl rfl rfl) rfl rfl hl.1 rfl (lv_room (Nat.le_of_ble_eq_true rfl)) dX7_kind_15 ⟨Nat.le_of_ble_eq_true rfl, Nat.le_of_ble_eq_true rfl⟩) hP hD hS hA [1, 2] [0] rfl rfl (by decide) (by decide) (fun r u H locs hw_3 hP hD hS => ?_)
      have hw_3 := hw_3.symm
      subst hw_3
      have hP : PG G [oC x 7 [.ref xa, .ref ya, .ref za, .ref t, .ref en, .ref vo, .ref se, .ref wk], oC t 4 [.ref tk, .ref tm, .ref to_, .ref tv, .ref tp, .ref tl], aI G tk 40 kF] H := hP
      have hD : va_D A [oC x 7 [.ref xa, .ref ya, .ref za, .ref t, .ref en, .ref vo, .ref se, .ref wk], oC t 4 [.ref tk, .ref tm, .ref to_, .ref tv, .ref tp, .ref tl], aI G tk 40 kF] := hD
      refine lv_goto (tgt := 22) hF.1 hF.2.1 dX7_kind_18 (by decide) ?_
      refine kRetI (v := (kF (ix i))) hF hr hlk hK hP hD hS hQ rfl () [0, 1, 2] (by decide) rfl (Nat.le_of_ble_eq_true rfl) (Nat.le_of_ble_eq_true rfl) dX7_kind_22 ?_
      exact (if_pos ⟨by assumption, by assumption⟩).symm
set_option maxHeartbeats 4000000 in
set_option maxRecDepth 100000 in
theorem c_X7_entry (l : Launch) (G : GG) (sz : Nat) (x : Nat) (xa : Nat) (ya : Nat) (za : Nat) (t : Nat) (en : Nat) (vo : Nat) (se : Nat) (wk : Nat) (ed : Nat) (em : Nat) (eo : Nat) (ec : Nat) (dF : Nat → Int32) (nF : Nat → Int64) (bF : Nat → Int32) (i : Int32) (k0 : Int32) (hec : ec ≤ 80) : CtI l G yX7_entry wsX7_entry 1 24 0 0 sz [.ref x, .int i, .int k0] [oC x 7 [.ref xa, .ref ya, .ref za, .ref t, .ref en, .ref vo, .ref se, .ref wk], oC en 0 [.ref ed, .ref em, .ref eo, .int (nI ec)], aI G ed 80 dF, aJ G em 80 nF, aI G eo 80 bF] (fun r (_ : Unit) => r = (enC dF bF ec i k0)) (fun (_ : Unit) => [oC x 7 [.ref xa, .ref ya, .ref za, .ref t, .ref en, .ref vo, .ref se, .ref wk], oC en 0 [.ref ed, .ref em, .ref eo, .int (nI ec)], aI G ed 80 dF, aJ G em 80 nF, aI G eo 80 bF]) := by
  refine kMet (Qc := fun A => va_Qi _ (Bw G A _) A) (cc := cX7_entry) (nL := 4) (ret := some (.int)) (by decide) rfl (Nat.le_of_ble_eq_true rfl) ?_
  intro p e s m args below meth c A Q hF hr hlk hnme hK hP hD hA hS hQ hsz ls hl
  have hl : lv_has ls 4 [(0, .ref x), (1, .int i), (2, .int k0)] := hl
  refine lv_aload_n hF.1 hF.2.1 dX7_entry_0 rfl (lv_at hl 0 rfl) ?_
  refine kGet (C := RX7) (T := TX7) (N := 8) (index := 36) hF hK hP (inT inBX7) 0 rfl rfl 4 (by decide) rfl (List.mem_cons_of_mem _ mF_X7_36) rfl dX7_entry_1 ?_
  refine lv_iload_n hF.1 hF.2.1 dX7_entry_4 rfl (lv_at hl 1 rfl) ?_
  refine lv_iload_n hF.1 hF.2.1 dX7_entry_5 rfl (lv_at hl 2 rfl) ?_
  refine kCallI (wr := [oC x 7 [.ref xa, .ref ya, .ref za, .ref t, .ref en, .ref vo, .ref se, .ref wk], aJ G em 80 nF, aI G eo 80 bF]) (va_runV (As := [.int i, .int k0]) (rest := []) hF (c_X0_findNth l G _ en ed em eo ec dF bF nF i k0 (by first | assumption | omega)) (cwVB 2 hF rfl mL_X7_259 mI_X0_findNth mS_X0_findNth mN_X0 mC_X0_findNth rfl hd_X0_findNth rfl rfl ⟨Nat.le_of_ble_eq_true rfl, Nat.le_of_ble_eq_true rfl⟩) (kPre hK hP hD [1, 2] (by decide) rfl (q0 := 1) (ci := 0) rfl rfl rfl) rfl rfl hl.1 rfl (lv_room (Nat.le_of_ble_eq_true rfl)) dX7_entry_6 ⟨Nat.le_of_ble_eq_true rfl, Nat.le_of_ble_eq_true rfl⟩) hP hD hS hA [1, 2] [0, 3, 4] rfl rfl (by decide) (by decide) (fun r u H locs hw_1 hP hD hS => ?_)
  have hw_1 := hw_1.symm
  subst hw_1
  have hP : PG G [oC x 7 [.ref xa, .ref ya, .ref za, .ref t, .ref en, .ref vo, .ref se, .ref wk], oC en 0 [.ref ed, .ref em, .ref eo, .int (nI ec)], aI G ed 80 dF, aJ G em 80 nF, aI G eo 80 bF] H := va_P.sub hP [0, 3, 4, 1, 2] rfl
  have hD : va_D A [oC x 7 [.ref xa, .ref ya, .ref za, .ref t, .ref en, .ref vo, .ref se, .ref wk], oC en 0 [.ref ed, .ref em, .ref eo, .int (nI ec)], aI G ed 80 dF, aJ G em 80 nF, aI G eo 80 bF] := va_D.sub hD [0, 3, 4, 1, 2] (by decide) rfl
  refine lv_istore_n (lv' := [(3, .int (rI (nth (fun j => decide (dF j = i)) k0 ec 0 0) ec)), (0, .ref x), (1, .int i), (2, .int k0)]) hF.1 hF.2.1 dX7_entry_9 rfl hl (by decide) rfl (fun ls hl => ?_)
  refine lv_iload_n hF.1 hF.2.1 dX7_entry_10 rfl (lv_at hl 0 rfl) ?_
  refine lv_iconst (v := (-1)) hF.1 hF.2.1 dX7_entry_11 (by decide) ?_
  refine lv_icmp_ne (tgt := 19) hF.1 hF.2.1 dX7_entry_12 (by decide) (fun c_2 => ?_) (fun c_2 => ?_)
  · have hJ : nth (fun j => decide (dF j = i)) k0 ec 0 0 < ec := rI_lt c_2
    rw [rI_t hJ] at hl
    refine lv_aload_n hF.1 hF.2.1 dX7_entry_19 rfl (lv_at hl 1 rfl) ?_
    refine kGet (C := RX7) (T := TX7) (N := 8) (index := 36) hF hK hP (inT inBX7) 0 rfl rfl 4 (by decide) rfl (List.mem_cons_of_mem _ mF_X7_36) rfl dX7_entry_20 ?_
    refine lv_iload_n hF.1 hF.2.1 dX7_entry_23 rfl (lv_at hl 0 rfl) ?_
    refine kCallI (wr := [oC x 7 [.ref xa, .ref ya, .ref za, .ref t, .ref en, .ref vo, .ref se, .ref wk], aI G ed 80 dF, aJ G em 80 nF]) (va_runV (As := [.int (nI (nth (fun j => decide (dF j = i)) k0 ec 0 0))]) (rest := []) hF (c_X0_object l G H.size en ed em eo ec dF bF nF (nth (fun j => decide (dF j = i)) k0 ec 0 0) (by first | assumption | omega)) (cwVB 1 hF rfl mL_X7_169 mI_X0_object mS_X0_object mN_X0 mC_X0_object rfl hd_X0_object rfl rfl ⟨Nat.le_of_ble_eq_true rfl, Nat.le_of_ble_eq_true rfl⟩) (kPre hK hP hD [1, 4] (by decide) rfl (q0 := 1) (ci := 0) rfl rfl rfl) rfl rfl hl.1 rfl (lv_room (Nat.le_of_ble_eq_true rfl)) dX7_entry_24 ⟨Nat.le_of_ble_eq_true rfl, Nat.le_of_ble_eq_true rfl⟩) hP hD hS hA [1, 4] [0, 2, 3] rfl rfl (by decide) (by decide) (fun r u H locs hw_3 hP hD hS => ?_)
    have hw_3 := hw_3.symm
    subst hw_3
    have hP : PG G [oC x 7 [.ref xa, .ref ya, .ref za, .ref t, .ref en, .ref vo, .ref se, .ref wk], oC en 0 [.ref ed, .ref em, .ref eo, .int (nI ec)], aI G ed 80 dF, aJ G em 80 nF, aI G eo 80 bF] H := va_P.sub hP [0, 3, 1, 2, 4] rfl
    have hD : va_D A [oC x 7 [.ref xa, .ref ya, .ref za, .ref t, .ref en, .ref vo, .ref se, .ref wk], oC en 0 [.ref ed, .ref em, .ref eo, .int (nI ec)], aI G ed 80 dF, aJ G em 80 nF, aI G eo 80 bF] := va_D.sub hD [0, 3, 1, 2, 4] (by decide) rfl
    refine kRetI (v := (bF (nth (fun j => decide (dF j = i)) k0 ec 0 0))) hF hr hlk hK hP hD hS hQ rfl () [0, 1, 2, 3, 4] (by decide) rfl (Nat.le_of_ble_eq_true rfl) (Nat.le_of_ble_eq_true rfl) dX7_entry_27 ?_
    exact (if_pos hJ).symm
  · have hJ := rI_ge c_2
    refine lv_iconst (v := (-1)) hF.1 hF.2.1 dX7_entry_15 (by decide) ?_
    refine lv_goto (tgt := 27) hF.1 hF.2.1 dX7_entry_16 (by decide) ?_
    refine kRetI (v := (-1)) hF hr hlk hK hP hD hS hQ rfl () [0, 1, 2, 3, 4] (by decide) rfl (Nat.le_of_ble_eq_true rfl) (Nat.le_of_ble_eq_true rfl) dX7_entry_27 ?_
    exact (if_neg (by omega)).symm
set_option maxHeartbeats 4000000 in
set_option maxRecDepth 100000 in
theorem c_X7_about (l : Launch) (G : GG) (sz : Nat) (x : Nat) (xa : Nat) (ya : Nat) (za : Nat) (t : Nat) (en : Nat) (vo : Nat) (se : Nat) (wk : Nat) (tk : Nat) (tm : Nat) (to_ : Nat) (tv : Nat) (tp : Nat) (tl : Nat) (kF : Nat → Int32) (mF : Nat → Int32) (oF : Nat → Int32) (vF : Nat → Int32) (ed : Nat) (em : Nat) (eo : Nat) (ec : Nat) (dF : Nat → Int32) (nF : Nat → Int64) (bF : Nat → Int32) (vr : Nat) (vc : Nat) (vn : Nat) (rF : Nat → Int32) (cF : Nat → Int32) (i : Int32) (w : Int32) (hec : ec ≤ 80) (hvn : 1 ≤ vn ∧ vn ≤ 4) : CtI l G yX7_about wsX7_about 2 42 0 0 sz [.ref x, .int i, .int w] [oC x 7 [.ref xa, .ref ya, .ref za, .ref t, .ref en, .ref vo, .ref se, .ref wk], oC t 4 [.ref tk, .ref tm, .ref to_, .ref tv, .ref tp, .ref tl], aI G tk 40 kF, aI G tm 40 mF, aI G to_ 40 oF, aI G tv 40 vF, oC en 0 [.ref ed, .ref em, .ref eo, .int (nI ec)], aI G ed 80 dF, aJ G em 80 nF, aI G eo 80 bF, oC vo 5 [.ref t, .ref vr, .ref vc, .int (nI vn)], aI G vr 4 rF, aI G vc 4 cF] (fun r (_ : Unit) => r = (abC kF mF oF vF dF bF cF ec vn i w)) (fun (_ : Unit) => [oC x 7 [.ref xa, .ref ya, .ref za, .ref t, .ref en, .ref vo, .ref se, .ref wk], oC t 4 [.ref tk, .ref tm, .ref to_, .ref tv, .ref tp, .ref tl], aI G tk 40 kF, aI G tm 40 mF, aI G to_ 40 oF, aI G tv 40 vF, oC en 0 [.ref ed, .ref em, .ref eo, .int (nI ec)], aI G ed 80 dF, aJ G em 80 nF, aI G eo 80 bF, oC vo 5 [.ref t, .ref vr, .ref vc, .int (nI vn)], aI G vr 4 rF, aI G vc 4 cF]) := by
  refine kMet (Qc := fun A => va_Qi _ (Bw G A _) A) (cc := cX7_about) (nL := 3) (ret := some (.int)) (by decide) rfl (Nat.le_of_ble_eq_true rfl) ?_
  intro p e s m args below meth c A Q hF hr hlk hnme hK hP hD hA hS hQ hsz ls hl
  have hl : lv_has ls 3 [(0, .ref x), (1, .int i), (2, .int w)] := hl
  refine lv_aload_n hF.1 hF.2.1 dX7_about_0 rfl (lv_at hl 0 rfl) ?_
  refine lv_iload_n hF.1 hF.2.1 dX7_about_1 rfl (lv_at hl 1 rfl) ?_
  refine kCallI (wr := [aI G tm 40 mF, aI G to_ 40 oF, aI G tv 40 vF, oC en 0 [.ref ed, .ref em, .ref eo, .int (nI ec)], aI G ed 80 dF, aJ G em 80 nF, aI G eo 80 bF, oC vo 5 [.ref t, .ref vr, .ref vc, .int (nI vn)], aI G vr 4 rF, aI G vc 4 cF]) (va_runV (As := [.int i]) (rest := []) hF (c_X7_kind l G _ x xa ya za t en vo se wk tk tm to_ tv tp tl kF i) (cwVB 1 hF rfl mL_X7_256 mI_X7_kind mS_X7_kind mN_X7 mC_X7_kind rfl hd_X7_kind rfl rfl ⟨Nat.le_of_ble_eq_true rfl, Nat.le_of_ble_eq_true rfl⟩) (kPre hK hP hD [0, 1, 2] (by decide) rfl (q0 := 0) (ci := 7) rfl rfl rfl) rfl rfl hl.1 rfl (lv_room (Nat.le_of_ble_eq_true rfl)) dX7_about_2 ⟨Nat.le_of_ble_eq_true rfl, Nat.le_of_ble_eq_true rfl⟩) hP hD hS hA [0, 1, 2] [3, 4, 5, 6, 7, 8, 9, 10, 11, 12] rfl rfl (by decide) (by decide) (fun r u H locs hw_1 hP hD hS => ?_)
  have hw_1 := hw_1.symm
  subst hw_1
  have hP : PG G [oC x 7 [.ref xa, .ref ya, .ref za, .ref t, .ref en, .ref vo, .ref se, .ref wk], oC t 4 [.ref tk, .ref tm, .ref to_, .ref tv, .ref tp, .ref tl], aI G tk 40 kF, aI G tm 40 mF, aI G to_ 40 oF, aI G tv 40 vF, oC en 0 [.ref ed, .ref em, .ref eo, .int (nI ec)], aI G ed 80 dF, aJ G em 80 nF, aI G eo 80 bF, oC vo 5 [.ref t, .ref vr, .ref vc, .int (nI vn)], aI G vr 4 rF, aI G vc 4 cF] H := va_P.sub hP [10, 11, 12, 0, 1, 2, 3, 4, 5, 6, 7, 8, 9] rfl
  have hD : va_D A [oC x 7 [.ref xa, .ref ya, .ref za, .ref t, .ref en, .ref vo, .ref se, .ref wk], oC t 4 [.ref tk, .ref tm, .ref to_, .ref tv, .ref tp, .ref tl], aI G tk 40 kF, aI G tm 40 mF, aI G to_ 40 oF, aI G tv 40 vF, oC en 0 [.ref ed, .ref em, .ref eo, .int (nI ec)], aI G ed 80 dF, aJ G em 80 nF, aI G eo 80 bF, oC vo 5 [.ref t, .ref vr, .ref vc, .int (nI vn)], aI G vr 4 rF, aI G vc 4 cF] := va_D.sub hD [10, 11, 12, 0, 1, 2, 3, 4, 5, 6, 7, 8, 9] (by decide) rfl
  refine lv_if_ne (tgt := 11) hF.1 hF.2.1 dX7_about_5 (by decide) (fun c_2 => ?_) (fun c_2 => ?_)
  · refine lv_iload_n hF.1 hF.2.1 dX7_about_11 rfl (lv_at hl 2 rfl) ?_
    rcases tab6 w with rfl | rfl | rfl | rfl | rfl | rfl | hsw
    · refine lv_tableIn (tgt := 52) hF.1 hF.2.1 dX7_about_12 (by decide) (by decide) rfl (by decide) ?_
      refine lv_aload_n hF.1 hF.2.1 dX7_about_52 rfl (lv_at hl 0 rfl) ?_
      refine kGet (C := RX7) (T := TX7) (N := 8) (index := 29) hF hK hP (inT inBX7) 0 rfl rfl 3 (by decide) rfl (List.mem_cons_of_mem _ mF_X7_29) rfl dX7_about_53 ?_
      refine lv_iload_n hF.1 hF.2.1 dX7_about_56 rfl (lv_at hl 1 rfl) ?_
      refine kCallI (wr := [oC x 7 [.ref xa, .ref ya, .ref za, .ref t, .ref en, .ref vo, .ref se, .ref wk], aI G tk 40 kF, aI G to_ 40 oF, aI G tv 40 vF, oC en 0 [.ref ed, .ref em, .ref eo, .int (nI ec)], aI G ed 80 dF, aJ G em 80 nF, aI G eo 80 bF, oC vo 5 [.ref t, .ref vr, .ref vc, .int (nI vn)], aI G vr 4 rF, aI G vc 4 cF]) (va_runV (As := [.int i]) (rest := []) hF (c_X4_mode l G H.size t tk tm to_ tv tp tl mF i (knC_in (by assumption))) (cwVB 1 hF rfl mL_X7_226 mI_X4_mode mS_X4_mode mN_X4 mC_X4_mode rfl hd_X4_mode rfl rfl ⟨Nat.le_of_ble_eq_true rfl, Nat.le_of_ble_eq_true rfl⟩) (kPre hK hP hD [1, 3] (by decide) rfl (q0 := 1) (ci := 4) rfl rfl rfl) rfl rfl hl.1 rfl (lv_room (Nat.le_of_ble_eq_true rfl)) dX7_about_57 ⟨Nat.le_of_ble_eq_true rfl, Nat.le_of_ble_eq_true rfl⟩) hP hD hS hA [1, 3] [0, 2, 4, 5, 6, 7, 8, 9, 10, 11, 12] rfl rfl (by decide) (by decide) (fun r u H locs hw_3 hP hD hS => ?_)
      have hw_3 := hw_3.symm
      subst hw_3
      have hP : PG G [oC x 7 [.ref xa, .ref ya, .ref za, .ref t, .ref en, .ref vo, .ref se, .ref wk], oC t 4 [.ref tk, .ref tm, .ref to_, .ref tv, .ref tp, .ref tl], aI G tk 40 kF, aI G tm 40 mF, aI G to_ 40 oF, aI G tv 40 vF, oC en 0 [.ref ed, .ref em, .ref eo, .int (nI ec)], aI G ed 80 dF, aJ G em 80 nF, aI G eo 80 bF, oC vo 5 [.ref t, .ref vr, .ref vc, .int (nI vn)], aI G vr 4 rF, aI G vc 4 cF] H := va_P.sub hP [0, 11, 1, 12, 2, 3, 4, 5, 6, 7, 8, 9, 10] rfl
      have hD : va_D A [oC x 7 [.ref xa, .ref ya, .ref za, .ref t, .ref en, .ref vo, .ref se, .ref wk], oC t 4 [.ref tk, .ref tm, .ref to_, .ref tv, .ref tp, .ref tl], aI G tk 40 kF, aI G tm 40 mF, aI G to_ 40 oF, aI G tv 40 vF, oC en 0 [.ref ed, .ref em, .ref eo, .int (nI ec)], aI G ed 80 dF, aJ G em 80 nF, aI G eo 80 bF, oC vo 5 [.ref t, .ref vr, .ref vc, .int (nI vn)], aI G vr 4 rF, aI G vc 4 cF] := va_D.sub hD [0, 11, 1, 12, 2, 3, 4, 5, 6, 7, 8, 9, 10] (by decide) rfl
      refine kRetI (v := (mF (ix i))) hF hr hlk hK hP hD hS hQ rfl () [0, 1, 2, 3, 4, 5, 6, 7, 8, 9, 10, 11, 12] (by decide) rfl (Nat.le_of_ble_eq_true rfl) (Nat.le_of_ble_eq_true rfl) dX7_about_60 ?_
      rw [abC, if_neg (by assumption), if_pos rfl]
    · refine lv_tableIn (tgt := 61) hF.1 hF.2.1 dX7_about_12 (by decide) (by decide) rfl (by decide) ?_
      refine lv_aload_n hF.1 hF.2.1 dX7_about_61 rfl (lv_at hl 0 rfl) ?_
      refine kGet (C := RX7) (T := TX7) (N := 8) (index := 29) hF hK hP (inT inBX7) 0 rfl rfl 3 (by decide) rfl (List.mem_cons_of_mem _ mF_X7_29) rfl dX7_about_62 ?_
      refine lv_iload_n hF.1 hF.2.1 dX7_about_65 rfl (lv_at hl 1 rfl) ?_
      refine kCallI (wr := [oC x 7 [.ref xa, .ref ya, .ref za, .ref t, .ref en, .ref vo, .ref se, .ref wk], aI G tk 40 kF, aI G tm 40 mF, aI G tv 40 vF, oC en 0 [.ref ed, .ref em, .ref eo, .int (nI ec)], aI G ed 80 dF, aJ G em 80 nF, aI G eo 80 bF, oC vo 5 [.ref t, .ref vr, .ref vc, .int (nI vn)], aI G vr 4 rF, aI G vc 4 cF]) (va_runV (As := [.int i]) (rest := []) hF (c_X4_owner l G H.size t tk tm to_ tv tp tl oF i (knC_in (by assumption))) (cwVB 1 hF rfl mL_X7_223 mI_X4_owner mS_X4_owner mN_X4 mC_X4_owner rfl hd_X4_owner rfl rfl ⟨Nat.le_of_ble_eq_true rfl, Nat.le_of_ble_eq_true rfl⟩) (kPre hK hP hD [1, 4] (by decide) rfl (q0 := 1) (ci := 4) rfl rfl rfl) rfl rfl hl.1 rfl (lv_room (Nat.le_of_ble_eq_true rfl)) dX7_about_66 ⟨Nat.le_of_ble_eq_true rfl, Nat.le_of_ble_eq_true rfl⟩) hP hD hS hA [1, 4] [0, 2, 3, 5, 6, 7, 8, 9, 10, 11, 12] rfl rfl (by decide) (by decide) (fun r u H locs hw_4 hP hD hS => ?_)
      have hw_4 := hw_4.symm
      subst hw_4
      have hP : PG G [oC x 7 [.ref xa, .ref ya, .ref za, .ref t, .ref en, .ref vo, .ref se, .ref wk], oC t 4 [.ref tk, .ref tm, .ref to_, .ref tv, .ref tp, .ref tl], aI G tk 40 kF, aI G tm 40 mF, aI G to_ 40 oF, aI G tv 40 vF, oC en 0 [.ref ed, .ref em, .ref eo, .int (nI ec)], aI G ed 80 dF, aJ G em 80 nF, aI G eo 80 bF, oC vo 5 [.ref t, .ref vr, .ref vc, .int (nI vn)], aI G vr 4 rF, aI G vc 4 cF] H := va_P.sub hP [0, 11, 1, 2, 12, 3, 4, 5, 6, 7, 8, 9, 10] rfl
      have hD : va_D A [oC x 7 [.ref xa, .ref ya, .ref za, .ref t, .ref en, .ref vo, .ref se, .ref wk], oC t 4 [.ref tk, .ref tm, .ref to_, .ref tv, .ref tp, .ref tl], aI G tk 40 kF, aI G tm 40 mF, aI G to_ 40 oF, aI G tv 40 vF, oC en 0 [.ref ed, .ref em, .ref eo, .int (nI ec)], aI G ed 80 dF, aJ G em 80 nF, aI G eo 80 bF, oC vo 5 [.ref t, .ref vr, .ref vc, .int (nI vn)], aI G vr 4 rF, aI G vc 4 cF] := va_D.sub hD [0, 11, 1, 2, 12, 3, 4, 5, 6, 7, 8, 9, 10] (by decide) rfl
      refine kRetI (v := (oF (ix i))) hF hr hlk hK hP hD hS hQ rfl () [0, 1, 2, 3, 4, 5, 6, 7, 8, 9, 10, 11, 12] (by decide) rfl (Nat.le_of_ble_eq_true rfl) (Nat.le_of_ble_eq_true rfl) dX7_about_69 ?_
      rw [abC, if_neg (by assumption), if_neg (by decide), if_pos rfl]
    · refine lv_tableIn (tgt := 70) hF.1 hF.2.1 dX7_about_12 (by decide) (by decide) rfl (by decide) ?_
      refine lv_aload_n hF.1 hF.2.1 dX7_about_70 rfl (lv_at hl 0 rfl) ?_
      refine kGet (C := RX7) (T := TX7) (N := 8) (index := 29) hF hK hP (inT inBX7) 0 rfl rfl 3 (by decide) rfl (List.mem_cons_of_mem _ mF_X7_29) rfl dX7_about_71 ?_
      refine lv_iload_n hF.1 hF.2.1 dX7_about_74 rfl (lv_at hl 1 rfl) ?_
      refine kCallI (wr := [oC x 7 [.ref xa, .ref ya, .ref za, .ref t, .ref en, .ref vo, .ref se, .ref wk], aI G tk 40 kF, aI G tm 40 mF, aI G to_ 40 oF, oC en 0 [.ref ed, .ref em, .ref eo, .int (nI ec)], aI G ed 80 dF, aJ G em 80 nF, aI G eo 80 bF, oC vo 5 [.ref t, .ref vr, .ref vc, .int (nI vn)], aI G vr 4 rF, aI G vc 4 cF]) (va_runV (As := [.int i]) (rest := []) hF (c_X4_volumeOf l G H.size t tk tm to_ tv tp tl vF i (knC_in (by assumption))) (cwVB 1 hF rfl mL_X7_122 mI_X4_volumeOf mS_X4_volumeOf mN_X4 mC_X4_volumeOf rfl hd_X4_volumeOf rfl rfl ⟨Nat.le_of_ble_eq_true rfl, Nat.le_of_ble_eq_true rfl⟩) (kPre hK hP hD [1, 5] (by decide) rfl (q0 := 1) (ci := 4) rfl rfl rfl) rfl rfl hl.1 rfl (lv_room (Nat.le_of_ble_eq_true rfl)) dX7_about_75 ⟨Nat.le_of_ble_eq_true rfl, Nat.le_of_ble_eq_true rfl⟩) hP hD hS hA [1, 5] [0, 2, 3, 4, 6, 7, 8, 9, 10, 11, 12] rfl rfl (by decide) (by decide) (fun r u H locs hw_5 hP hD hS => ?_)
      have hw_5 := hw_5.symm
      subst hw_5
      have hP : PG G [oC x 7 [.ref xa, .ref ya, .ref za, .ref t, .ref en, .ref vo, .ref se, .ref wk], oC t 4 [.ref tk, .ref tm, .ref to_, .ref tv, .ref tp, .ref tl], aI G tk 40 kF, aI G tm 40 mF, aI G to_ 40 oF, aI G tv 40 vF, oC en 0 [.ref ed, .ref em, .ref eo, .int (nI ec)], aI G ed 80 dF, aJ G em 80 nF, aI G eo 80 bF, oC vo 5 [.ref t, .ref vr, .ref vc, .int (nI vn)], aI G vr 4 rF, aI G vc 4 cF] H := va_P.sub hP [0, 11, 1, 2, 3, 12, 4, 5, 6, 7, 8, 9, 10] rfl
      have hD : va_D A [oC x 7 [.ref xa, .ref ya, .ref za, .ref t, .ref en, .ref vo, .ref se, .ref wk], oC t 4 [.ref tk, .ref tm, .ref to_, .ref tv, .ref tp, .ref tl], aI G tk 40 kF, aI G tm 40 mF, aI G to_ 40 oF, aI G tv 40 vF, oC en 0 [.ref ed, .ref em, .ref eo, .int (nI ec)], aI G ed 80 dF, aJ G em 80 nF, aI G eo 80 bF, oC vo 5 [.ref t, .ref vr, .ref vc, .int (nI vn)], aI G vr 4 rF, aI G vc 4 cF] := va_D.sub hD [0, 11, 1, 2, 3, 12, 4, 5, 6, 7, 8, 9, 10] (by decide) rfl
      refine kRetI (v := (vF (ix i))) hF hr hlk hK hP hD hS hQ rfl () [0, 1, 2, 3, 4, 5, 6, 7, 8, 9, 10, 11, 12] (by decide) rfl (Nat.le_of_ble_eq_true rfl) (Nat.le_of_ble_eq_true rfl) dX7_about_78 ?_
      rw [abC, if_neg (by assumption), if_neg (by decide), if_neg (by decide), if_pos rfl]
    · refine lv_tableIn (tgt := 79) hF.1 hF.2.1 dX7_about_12 (by decide) (by decide) rfl (by decide) ?_
      refine lv_aload_n hF.1 hF.2.1 dX7_about_79 rfl (lv_at hl 0 rfl) ?_
      refine kGet (C := RX7) (T := TX7) (N := 8) (index := 36) hF hK hP (inT inBX7) 0 rfl rfl 4 (by decide) rfl (List.mem_cons_of_mem _ mF_X7_36) rfl dX7_about_80 ?_
      refine lv_iload_n hF.1 hF.2.1 dX7_about_83 rfl (lv_at hl 1 rfl) ?_
      refine kCallI (wr := [oC x 7 [.ref xa, .ref ya, .ref za, .ref t, .ref en, .ref vo, .ref se, .ref wk], oC t 4 [.ref tk, .ref tm, .ref to_, .ref tv, .ref tp, .ref tl], aI G tk 40 kF, aI G tm 40 mF, aI G to_ 40 oF, aI G tv 40 vF, aI G ed 80 dF, aJ G em 80 nF, oC vo 5 [.ref t, .ref vr, .ref vc, .int (nI vn)], aI G vr 4 rF, aI G vc 4 cF]) (va_runV (As := [.int i]) (rest := []) hF (c_X0_countFor l G H.size en ed em eo ec dF bF nF i (by first | assumption | omega)) (cwVB 1 hF rfl mL_X7_179 mI_X0_countFor mS_X0_countFor mN_X0 mC_X0_countFor rfl hd_X0_countFor rfl rfl ⟨Nat.le_of_ble_eq_true rfl, Nat.le_of_ble_eq_true rfl⟩) (kPre hK hP hD [6, 9] (by decide) rfl (q0 := 6) (ci := 0) rfl rfl rfl) rfl rfl hl.1 rfl (lv_room (Nat.le_of_ble_eq_true rfl)) dX7_about_84 ⟨Nat.le_of_ble_eq_true rfl, Nat.le_of_ble_eq_true rfl⟩) hP hD hS hA [6, 9] [0, 1, 2, 3, 4, 5, 7, 8, 10, 11, 12] rfl rfl (by decide) (by decide) (fun r u H locs hw_6 hP hD hS => ?_)
      have hw_6 := hw_6.symm
      subst hw_6
      have hP : PG G [oC x 7 [.ref xa, .ref ya, .ref za, .ref t, .ref en, .ref vo, .ref se, .ref wk], oC t 4 [.ref tk, .ref tm, .ref to_, .ref tv, .ref tp, .ref tl], aI G tk 40 kF, aI G tm 40 mF, aI G to_ 40 oF, aI G tv 40 vF, oC en 0 [.ref ed, .ref em, .ref eo, .int (nI ec)], aI G ed 80 dF, aJ G em 80 nF, aI G eo 80 bF, oC vo 5 [.ref t, .ref vr, .ref vc, .int (nI vn)], aI G vr 4 rF, aI G vc 4 cF] H := va_P.sub hP [0, 1, 2, 3, 4, 5, 11, 6, 7, 12, 8, 9, 10] rfl
      have hD : va_D A [oC x 7 [.ref xa, .ref ya, .ref za, .ref t, .ref en, .ref vo, .ref se, .ref wk], oC t 4 [.ref tk, .ref tm, .ref to_, .ref tv, .ref tp, .ref tl], aI G tk 40 kF, aI G tm 40 mF, aI G to_ 40 oF, aI G tv 40 vF, oC en 0 [.ref ed, .ref em, .ref eo, .int (nI ec)], aI G ed 80 dF, aJ G em 80 nF, aI G eo 80 bF, oC vo 5 [.ref t, .ref vr, .ref vc, .int (nI vn)], aI G vr 4 rF, aI G vc 4 cF] := va_D.sub hD [0, 1, 2, 3, 4, 5, 11, 6, 7, 12, 8, 9, 10] (by decide) rfl
      have hfc_7 := cntB_le (p := fun j => decide (bF j = i)) ec
      refine kRetI (v := (nI (cntB (fun j => decide (bF j = i)) ec))) hF hr hlk hK hP hD hS hQ rfl () [0, 1, 2, 3, 4, 5, 6, 7, 8, 9, 10, 11, 12] (by decide) rfl (Nat.le_of_ble_eq_true rfl) (Nat.le_of_ble_eq_true rfl) dX7_about_87 ?_
      rw [abC, if_neg (by assumption), if_neg (by decide), if_neg (by decide), if_neg (by decide), if_pos rfl]
    · refine lv_tableIn (tgt := 88) hF.1 hF.2.1 dX7_about_12 (by decide) (by decide) rfl (by decide) ?_
      refine lv_aload_n hF.1 hF.2.1 dX7_about_88 rfl (lv_at hl 0 rfl) ?_
      refine kGet (C := RX7) (T := TX7) (N := 8) (index := 36) hF hK hP (inT inBX7) 0 rfl rfl 4 (by decide) rfl (List.mem_cons_of_mem _ mF_X7_36) rfl dX7_about_89 ?_
      refine lv_iload_n hF.1 hF.2.1 dX7_about_92 rfl (lv_at hl 1 rfl) ?_
      refine kCallI (wr := [oC x 7 [.ref xa, .ref ya, .ref za, .ref t, .ref en, .ref vo, .ref se, .ref wk], oC t 4 [.ref tk, .ref tm, .ref to_, .ref tv, .ref tp, .ref tl], aI G tk 40 kF, aI G tm 40 mF, aI G to_ 40 oF, aI G tv 40 vF, aJ G em 80 nF, aI G eo 80 bF, oC vo 5 [.ref t, .ref vr, .ref vc, .int (nI vn)], aI G vr 4 rF, aI G vc 4 cF]) (va_runV (As := [.int i]) (rest := []) hF (c_X0_countIn l G H.size en ed em eo ec dF bF nF i (by first | assumption | omega)) (cwVB 1 hF rfl mL_X7_194 mI_X0_countIn mS_X0_countIn mN_X0 mC_X0_countIn rfl hd_X0_countIn rfl rfl ⟨Nat.le_of_ble_eq_true rfl, Nat.le_of_ble_eq_true rfl⟩) (kPre hK hP hD [6, 7] (by decide) rfl (q0 := 6) (ci := 0) rfl rfl rfl) rfl rfl hl.1 rfl (lv_room (Nat.le_of_ble_eq_true rfl)) dX7_about_93 ⟨Nat.le_of_ble_eq_true rfl, Nat.le_of_ble_eq_true rfl⟩) hP hD hS hA [6, 7] [0, 1, 2, 3, 4, 5, 8, 9, 10, 11, 12] rfl rfl (by decide) (by decide) (fun r u H locs hw_8 hP hD hS => ?_)
      have hw_8 := hw_8.symm
      subst hw_8
      have hP : PG G [oC x 7 [.ref xa, .ref ya, .ref za, .ref t, .ref en, .ref vo, .ref se, .ref wk], oC t 4 [.ref tk, .ref tm, .ref to_, .ref tv, .ref tp, .ref tl], aI G tk 40 kF, aI G tm 40 mF, aI G to_ 40 oF, aI G tv 40 vF, oC en 0 [.ref ed, .ref em, .ref eo, .int (nI ec)], aI G ed 80 dF, aJ G em 80 nF, aI G eo 80 bF, oC vo 5 [.ref t, .ref vr, .ref vc, .int (nI vn)], aI G vr 4 rF, aI G vc 4 cF] H := va_P.sub hP [0, 1, 2, 3, 4, 5, 11, 12, 6, 7, 8, 9, 10] rfl
      have hD : va_D A [oC x 7 [.ref xa, .ref ya, .ref za, .ref t, .ref en, .ref vo, .ref se, .ref wk], oC t 4 [.ref tk, .ref tm, .ref to_, .ref tv, .ref tp, .ref tl], aI G tk 40 kF, aI G tm 40 mF, aI G to_ 40 oF, aI G tv 40 vF, oC en 0 [.ref ed, .ref em, .ref eo, .int (nI ec)], aI G ed 80 dF, aJ G em 80 nF, aI G eo 80 bF, oC vo 5 [.ref t, .ref vr, .ref vc, .int (nI vn)], aI G vr 4 rF, aI G vc 4 cF] := va_D.sub hD [0, 1, 2, 3, 4, 5, 11, 12, 6, 7, 8, 9, 10] (by decide) rfl
      have hfc_9 := cntB_le (p := fun j => decide (dF j = i)) ec
      refine kRetI (v := (nI (cntB (fun j => decide (dF j = i)) ec))) hF hr hlk hK hP hD hS hQ rfl () [0, 1, 2, 3, 4, 5, 6, 7, 8, 9, 10, 11, 12] (by decide) rfl (Nat.le_of_ble_eq_true rfl) (Nat.le_of_ble_eq_true rfl) dX7_about_96 ?_
      rw [abC, if_neg (by assumption), if_neg (by decide), if_neg (by decide), if_neg (by decide), if_neg (by decide), if_pos rfl]
    · refine lv_tableIn (tgt := 97) hF.1 hF.2.1 dX7_about_12 (by decide) (by decide) rfl (by decide) ?_
      refine lv_aload_n hF.1 hF.2.1 dX7_about_97 rfl (lv_at hl 0 rfl) ?_
      refine kGet (C := RX7) (T := TX7) (N := 8) (index := 45) hF hK hP (inT inBX7) 0 rfl rfl 5 (by decide) rfl (List.mem_cons_of_mem _ mF_X7_45) rfl dX7_about_98 ?_
      refine lv_iload_n hF.1 hF.2.1 dX7_about_101 rfl (lv_at hl 1 rfl) ?_
      refine kCallI (wr := [oC x 7 [.ref xa, .ref ya, .ref za, .ref t, .ref en, .ref vo, .ref se, .ref wk], oC t 4 [.ref tk, .ref tm, .ref to_, .ref tv, .ref tp, .ref tl], aI G tk 40 kF, aI G tm 40 mF, aI G to_ 40 oF, aI G tv 40 vF, oC en 0 [.ref ed, .ref em, .ref eo, .int (nI ec)], aI G ed 80 dF, aJ G em 80 nF, aI G eo 80 bF, aI G vr 4 rF]) (va_runV (As := [.int i]) (rest := []) hF (c_X5_covering l G H.size vo t vr vc vn rF cF i (by first | assumption | omega)) (cwVB 1 hF rfl mL_X7_185 mI_X5_covering mS_X5_covering mN_X5 mC_X5_covering rfl hd_X5_covering rfl rfl ⟨Nat.le_of_ble_eq_true rfl, Nat.le_of_ble_eq_true rfl⟩) (kPre hK hP hD [10, 12] (by decide) rfl (q0 := 10) (ci := 5) rfl rfl rfl) rfl rfl hl.1 rfl (lv_room (Nat.le_of_ble_eq_true rfl)) dX7_about_102 ⟨Nat.le_of_ble_eq_true rfl, Nat.le_of_ble_eq_true rfl⟩) hP hD hS hA [10, 12] [0, 1, 2, 3, 4, 5, 6, 7, 8, 9, 11] rfl rfl (by decide) (by decide) (fun r u H locs hw_10 hP hD hS => ?_)
      have hw_10 := hw_10.symm
      subst hw_10
      have hP : PG G [oC x 7 [.ref xa, .ref ya, .ref za, .ref t, .ref en, .ref vo, .ref se, .ref wk], oC t 4 [.ref tk, .ref tm, .ref to_, .ref tv, .ref tp, .ref tl], aI G tk 40 kF, aI G tm 40 mF, aI G to_ 40 oF, aI G tv 40 vF, oC en 0 [.ref ed, .ref em, .ref eo, .int (nI ec)], aI G ed 80 dF, aJ G em 80 nF, aI G eo 80 bF, oC vo 5 [.ref t, .ref vr, .ref vc, .int (nI vn)], aI G vr 4 rF, aI G vc 4 cF] H := va_P.sub hP [0, 1, 2, 3, 4, 5, 6, 7, 8, 9, 11, 10, 12] rfl
      have hD : va_D A [oC x 7 [.ref xa, .ref ya, .ref za, .ref t, .ref en, .ref vo, .ref se, .ref wk], oC t 4 [.ref tk, .ref tm, .ref to_, .ref tv, .ref tp, .ref tl], aI G tk 40 kF, aI G tm 40 mF, aI G to_ 40 oF, aI G tv 40 vF, oC en 0 [.ref ed, .ref em, .ref eo, .int (nI ec)], aI G ed 80 dF, aJ G em 80 nF, aI G eo 80 bF, oC vo 5 [.ref t, .ref vr, .ref vc, .int (nI vn)], aI G vr 4 rF, aI G vc 4 cF] := va_D.sub hD [0, 1, 2, 3, 4, 5, 6, 7, 8, 9, 11, 10, 12] (by decide) rfl
      have hfc_11 := @covN_lt cF i vn (by first | assumption | omega)
      refine kRetI (v := (nI (covN cF i vn))) hF hr hlk hK hP hD hS hQ rfl () [0, 1, 2, 3, 4, 5, 6, 7, 8, 9, 10, 11, 12] (by decide) rfl (Nat.le_of_ble_eq_true rfl) (Nat.le_of_ble_eq_true rfl) dX7_about_105 ?_
      rw [abC, if_neg (by assumption), if_neg (by decide), if_neg (by decide), if_neg (by decide), if_neg (by decide), if_neg (by decide), if_pos rfl]
    · refine lv_tableOut (tgt := 106) hF.1 hF.2.1 dX7_about_12 hsw (by decide) ?_
      have hsw := tab6_ne hsw
      refine lv_bipush (v := (-11)) hF.1 hF.2.1 dX7_about_106 (by decide) ?_
      refine kRetI (v := (-11)) hF hr hlk hK hP hD hS hQ rfl () [0, 1, 2, 3, 4, 5, 6, 7, 8, 9, 10, 11, 12] (by decide) rfl (Nat.le_of_ble_eq_true rfl) (Nat.le_of_ble_eq_true rfl) dX7_about_108 ?_
      rw [abC, if_neg (by assumption), if_neg hsw.1, if_neg hsw.2.1, if_neg hsw.2.2.1, if_neg hsw.2.2.2.1, if_neg hsw.2.2.2.2.1, if_neg hsw.2.2.2.2.2]
  · refine lv_bipush (v := (-11)) hF.1 hF.2.1 dX7_about_8 (by decide) ?_
    refine kRetI (v := (-11)) hF hr hlk hK hP hD hS hQ rfl () [0, 1, 2, 3, 4, 5, 6, 7, 8, 9, 10, 11, 12] (by decide) rfl (Nat.le_of_ble_eq_true rfl) (Nat.le_of_ble_eq_true rfl) dX7_about_10 ?_
    exact (if_pos (by assumption)).symm
set_option maxHeartbeats 4000000 in
set_option maxRecDepth 100000 in
theorem c_X7_volume (l : Launch) (G : GG) (sz : Nat) (x : Nat) (xa : Nat) (ya : Nat) (za : Nat) (t : Nat) (en : Nat) (vo : Nat) (se : Nat) (wk : Nat) (tk : Nat) (tm : Nat) (to_ : Nat) (tv : Nat) (tp : Nat) (tl : Nat) (kF : Nat → Int32) (mF : Nat → Int32) (oF : Nat → Int32) (vF : Nat → Int32) (pF : Nat → Int32) (vr : Nat) (vc : Nat) (vn : Nat) (rF : Nat → Int32) (cF : Nat → Int32) (hvn : vn ≤ 4) : CtI l G yX7_volume wsX7_volume 1 25 0 0 sz [.ref x] [oC x 7 [.ref xa, .ref ya, .ref za, .ref t, .ref en, .ref vo, .ref se, .ref wk], oC t 4 [.ref tk, .ref tm, .ref to_, .ref tv, .ref tp, .ref tl], aI G tk 40 kF, aI G tm 40 mF, aI G to_ 40 oF, aI G tv 40 vF, aI G tp 40 pF, oC vo 5 [.ref t, .ref vr, .ref vc, .int (nI vn)], aI G vr 4 rF, aI G vc 4 cF] (fun r (u : Int32 × (Nat → Int32) × (Nat → Int32) × (Nat → Int32) × (Nat → Int32) × (Nat → Int32) × (Nat → Int32) × Nat) => match u with | (r0, k2, m2, o2, v2, p2, r2, w2) => r = r0 ∧ (r0, k2, m2, o2, v2, p2, r2, w2) = volC kF mF oF vF pF rF vn) (fun (u : Int32 × (Nat → Int32) × (Nat → Int32) × (Nat → Int32) × (Nat → Int32) × (Nat → Int32) × (Nat → Int32) × Nat) => match u with | (r0, k2, m2, o2, v2, p2, r2, w2) => [oC x 7 [.ref xa, .ref ya, .ref za, .ref t, .ref en, .ref vo, .ref se, .ref wk], oC t 4 [.ref tk, .ref tm, .ref to_, .ref tv, .ref tp, .ref tl], aI G tk 40 k2, aI G tm 40 m2, aI G to_ 40 o2, aI G tv 40 v2, aI G tp 40 p2, oC vo 5 [.ref t, .ref vr, .ref vc, .int (nI w2)], aI G vr 4 r2, aI G vc 4 cF]) := by
  refine kMet (Qc := fun A => va_Qi _ (Bw G A _) A) (cc := cX7_volume) (nL := 3) (ret := some (.int)) (by decide) rfl (Nat.le_of_ble_eq_true rfl) ?_
  intro p e s m args below meth c A Q hF hr hlk hnme hK hP hD hA hS hQ hsz ls hl
  have hl : lv_has ls 3 [(0, .ref x)] := hl
  refine lv_aload_n hF.1 hF.2.1 dX7_volume_0 rfl (lv_at hl 0 rfl) ?_
  refine kGet (C := RX7) (T := TX7) (N := 8) (index := 29) hF hK hP (inT inBX7) 0 rfl rfl 3 (by decide) rfl (List.mem_cons_of_mem _ mF_X7_29) rfl dX7_volume_1 ?_
  refine kCallI (wr := [oC x 7 [.ref xa, .ref ya, .ref za, .ref t, .ref en, .ref vo, .ref se, .ref wk], aI G tm 40 mF, aI G to_ 40 oF, aI G tv 40 vF, aI G tp 40 pF, oC vo 5 [.ref t, .ref vr, .ref vc, .int (nI vn)], aI G vr 4 rF, aI G vc 4 cF]) (va_runV (As := []) (rest := []) hF (c_X4_leastFree l G _ t tk tm to_ tv tp tl kF) (cwVB 0 hF rfl mL_X7_108 mI_X4_leastFree mS_X4_leastFree mN_X4 mC_X4_leastFree rfl hd_X4_leastFree rfl rfl ⟨Nat.le_of_ble_eq_true rfl, Nat.le_of_ble_eq_true rfl⟩) (kPre hK hP hD [1, 2] (by decide) rfl (q0 := 1) (ci := 4) rfl rfl rfl) rfl rfl hl.1 rfl (lv_room (Nat.le_of_ble_eq_true rfl)) dX7_volume_4 ⟨Nat.le_of_ble_eq_true rfl, Nat.le_of_ble_eq_true rfl⟩) hP hD hS hA [1, 2] [0, 3, 4, 5, 6, 7, 8, 9] rfl rfl (by decide) (by decide) (fun r u H locs hw_1 hP hD hS => ?_)
  have hw_1 := hw_1.symm
  subst hw_1
  have hP : PG G [oC x 7 [.ref xa, .ref ya, .ref za, .ref t, .ref en, .ref vo, .ref se, .ref wk], oC t 4 [.ref tk, .ref tm, .ref to_, .ref tv, .ref tp, .ref tl], aI G tk 40 kF, aI G tm 40 mF, aI G to_ 40 oF, aI G tv 40 vF, aI G tp 40 pF, oC vo 5 [.ref t, .ref vr, .ref vc, .int (nI vn)], aI G vr 4 rF, aI G vc 4 cF] H := va_P.sub hP [0, 8, 9, 1, 2, 3, 4, 5, 6, 7] rfl
  have hD : va_D A [oC x 7 [.ref xa, .ref ya, .ref za, .ref t, .ref en, .ref vo, .ref se, .ref wk], oC t 4 [.ref tk, .ref tm, .ref to_, .ref tv, .ref tp, .ref tl], aI G tk 40 kF, aI G tm 40 mF, aI G to_ 40 oF, aI G tv 40 vF, aI G tp 40 pF, oC vo 5 [.ref t, .ref vr, .ref vc, .int (nI vn)], aI G vr 4 rF, aI G vc 4 cF] := va_D.sub hD [0, 8, 9, 1, 2, 3, 4, 5, 6, 7] (by decide) rfl
  refine lv_istore_n (lv' := [(1, .int (rI (scan (fun j => !decide (kF j = nI 0)) 40 0) 40)), (0, .ref x)]) hF.1 hF.2.1 dX7_volume_7 rfl hl (by decide) rfl (fun ls hl => ?_)
  refine lv_iload_n hF.1 hF.2.1 dX7_volume_8 rfl (lv_at hl 0 rfl) ?_
  refine lv_iconst (v := (-1)) hF.1 hF.2.1 dX7_volume_9 (by decide) ?_
  refine lv_icmp_eq (tgt := 23) hF.1 hF.2.1 dX7_volume_10 (by decide) (fun c_2 => ?_) (fun c_2 => ?_)
  · have hJ : 40 ≤ lfN kF := rI_ge c_2
    refine lv_bipush (v := (-10)) hF.1 hF.2.1 dX7_volume_23 (by decide) ?_
    refine kRetI (v := (-10)) hF hr hlk hK hP hD hS hQ rfl ((-10), kF, mF, oF, vF, pF, rF, vn) [0, 1, 2, 3, 4, 5, 6, 7, 8, 9] (by decide) rfl (Nat.le_of_ble_eq_true rfl) (Nat.le_of_ble_eq_true rfl) dX7_volume_25 ?_
    exact ⟨rfl, (if_neg (fun h => by omega)).symm⟩
  · have hJ : lfN kF < 40 := rI_lt c_2
    rw [show scan (fun j => !decide (kF j = nI 0)) 40 0 = lfN kF from rfl, rI_t hJ] at hl
    refine lv_aload_n hF.1 hF.2.1 dX7_volume_13 rfl (lv_at hl 1 rfl) ?_
    refine kGet (C := RX7) (T := TX7) (N := 8) (index := 45) hF hK hP (inT inBX7) 0 rfl rfl 5 (by decide) rfl (List.mem_cons_of_mem _ mF_X7_45) rfl dX7_volume_14 ?_
    refine kCallI (wr := [oC x 7 [.ref xa, .ref ya, .ref za, .ref t, .ref en, .ref vo, .ref se, .ref wk], oC t 4 [.ref tk, .ref tm, .ref to_, .ref tv, .ref tp, .ref tl], aI G tk 40 kF, aI G tm 40 mF, aI G to_ 40 oF, aI G tv 40 vF, aI G tp 40 pF, aI G vr 4 rF, aI G vc 4 cF]) (va_runV (As := []) (rest := []) hF (c_X5_isFull l G H.size vo t vr vc vn rF cF (by first | assumption | omega)) (cwVB 0 hF rfl mL_X7_197 mI_X5_isFull mS_X5_isFull mN_X5 mC_X5_isFull rfl hd_X5_isFull rfl rfl ⟨Nat.le_of_ble_eq_true rfl, Nat.le_of_ble_eq_true rfl⟩) (kPre hK hP hD [7] (by decide) rfl (q0 := 7) (ci := 5) rfl rfl rfl) rfl rfl hl.1 rfl (lv_room (Nat.le_of_ble_eq_true rfl)) dX7_volume_17 ⟨Nat.le_of_ble_eq_true rfl, Nat.le_of_ble_eq_true rfl⟩) hP hD hS hA [7] [0, 1, 2, 3, 4, 5, 6, 8, 9] rfl rfl (by decide) (by decide) (fun r u H locs hw_3 hP hD hS => ?_)
    have hw_3 := hw_3.symm
    subst hw_3
    have hP : PG G [oC x 7 [.ref xa, .ref ya, .ref za, .ref t, .ref en, .ref vo, .ref se, .ref wk], oC t 4 [.ref tk, .ref tm, .ref to_, .ref tv, .ref tp, .ref tl], aI G tk 40 kF, aI G tm 40 mF, aI G to_ 40 oF, aI G tv 40 vF, aI G tp 40 pF, oC vo 5 [.ref t, .ref vr, .ref vc, .int (nI vn)], aI G vr 4 rF, aI G vc 4 cF] H := va_P.sub hP [0, 1, 2, 3, 4, 5, 6, 9, 7, 8] rfl
    have hD : va_D A [oC x 7 [.ref xa, .ref ya, .ref za, .ref t, .ref en, .ref vo, .ref se, .ref wk], oC t 4 [.ref tk, .ref tm, .ref to_, .ref tv, .ref tp, .ref tl], aI G tk 40 kF, aI G tm 40 mF, aI G to_ 40 oF, aI G tv 40 vF, aI G tp 40 pF, oC vo 5 [.ref t, .ref vr, .ref vc, .int (nI vn)], aI G vr 4 rF, aI G vc 4 cF] := va_D.sub hD [0, 1, 2, 3, 4, 5, 6, 9, 7, 8] (by decide) rfl
    refine kIfEqZ (tgt := 26) hF dX7_volume_20 (by decide) (fun c_4 => ?_) (fun c_4 => ?_)
    · refine lv_aload_n hF.1 hF.2.1 dX7_volume_26 rfl (lv_at hl 1 rfl) ?_
      refine kGet (C := RX7) (T := TX7) (N := 8) (index := 45) hF hK hP (inT inBX7) 0 rfl rfl 5 (by decide) rfl (List.mem_cons_of_mem _ mF_X7_45) rfl dX7_volume_27 ?_
      refine lv_iload_n hF.1 hF.2.1 dX7_volume_30 rfl (lv_at hl 0 rfl) ?_
      refine kCallI (wr := [oC x 7 [.ref xa, .ref ya, .ref za, .ref t, .ref en, .ref vo, .ref se, .ref wk], oC t 4 [.ref tk, .ref tm, .ref to_, .ref tv, .ref tp, .ref tl], aI G tk 40 kF, aI G tm 40 mF, aI G to_ 40 oF, aI G tv 40 vF, aI G tp 40 pF, aI G vc 4 cF]) (va_runV (As := [.int (nI (lfN kF))]) (rest := []) hF (c_X5_add l G H.size vo t vr vc vn rF cF (nI (lfN kF)) (by first | assumption | omega)) (cwVB 1 hF rfl mL_X7_65 mI_X5_add mS_X5_add mN_X5 mC_X5_add rfl hd_X5_add rfl rfl ⟨Nat.le_of_ble_eq_true rfl, Nat.le_of_ble_eq_true rfl⟩) (kPre hK hP hD [7, 8] (by decide) rfl (q0 := 7) (ci := 5) rfl rfl rfl) rfl rfl hl.1 rfl (lv_room (Nat.le_of_ble_eq_true rfl)) dX7_volume_31 ⟨Nat.le_of_ble_eq_true rfl, Nat.le_of_ble_eq_true rfl⟩) hP hD hS hA [7, 8] [0, 1, 2, 3, 4, 5, 6, 9] rfl rfl (by decide) (by decide) (fun r u H locs hw_5 hP hD hS => ?_)
      have hw_5 := hw_5.symm
      subst hw_5
      have hP : PG G [oC x 7 [.ref xa, .ref ya, .ref za, .ref t, .ref en, .ref vo, .ref se, .ref wk], oC t 4 [.ref tk, .ref tm, .ref to_, .ref tv, .ref tp, .ref tl], aI G tk 40 kF, aI G tm 40 mF, aI G to_ 40 oF, aI G tv 40 vF, aI G tp 40 pF, oC vo 5 [.ref t, .ref vr, .ref vc, .int (nI (vn + 1))], aI G vr 4 (upd rF vn (nI (lfN kF))), aI G vc 4 cF] H := va_P.sub hP [0, 1, 2, 3, 4, 5, 6, 8, 9, 7] rfl
      have hD : va_D A [oC x 7 [.ref xa, .ref ya, .ref za, .ref t, .ref en, .ref vo, .ref se, .ref wk], oC t 4 [.ref tk, .ref tm, .ref to_, .ref tv, .ref tp, .ref tl], aI G tk 40 kF, aI G tm 40 mF, aI G to_ 40 oF, aI G tv 40 vF, aI G tp 40 pF, oC vo 5 [.ref t, .ref vr, .ref vc, .int (nI (vn + 1))], aI G vr 4 (upd rF vn (nI (lfN kF))), aI G vc 4 cF] := va_D.sub hD [0, 1, 2, 3, 4, 5, 6, 8, 9, 7] (by decide) rfl
      refine lv_istore_n (lv' := [(2, .int (nI vn)), (1, .int (nI (lfN kF))), (0, .ref x)]) hF.1 hF.2.1 dX7_volume_34 rfl hl (by decide) rfl (fun ls hl => ?_)
      refine lv_aload_n hF.1 hF.2.1 dX7_volume_35 rfl (lv_at hl 2 rfl) ?_
      refine kGet (C := RX7) (T := TX7) (N := 8) (index := 29) hF hK hP (inT inBX7) 0 rfl rfl 3 (by decide) rfl (List.mem_cons_of_mem _ mF_X7_29) rfl dX7_volume_36 ?_
      refine lv_iload_n hF.1 hF.2.1 dX7_volume_39 rfl (lv_at hl 1 rfl) ?_
      refine lv_iconst (v := (nI 1)) hF.1 hF.2.1 dX7_volume_40 (by decide) ?_
      refine lv_bipush (v := (nI 15)) hF.1 hF.2.1 dX7_volume_41 (by decide) ?_
      refine lv_iconst (v := (nI 0)) hF.1 hF.2.1 dX7_volume_43 (by decide) ?_
      refine lv_iload_n hF.1 hF.2.1 dX7_volume_44 rfl (lv_at hl 0 rfl) ?_
      refine kCallV (wr := [oC x 7 [.ref xa, .ref ya, .ref za, .ref t, .ref en, .ref vo, .ref se, .ref wk], oC vo 5 [.ref t, .ref vr, .ref vc, .int (nI (vn + 1))], aI G vr 4 (upd rF vn (nI (lfN kF))), aI G vc 4 cF]) (va_runV (As := [.int (nI (lfN kF)), .int (nI 1), .int (nI 15), .int (nI 0), .int (nI vn)]) (rest := []) hF (c_X4_put l G H.size t tk tm to_ tv tp tl kF mF oF vF pF (nI (lfN kF)) (nI 1) (nI 15) (nI 0) (nI vn) (vp_in_nI hJ (by decide))) (cwVB 5 hF rfl mL_X7_69 mI_X4_put mS_X4_put mN_X4 mC_X4_put rfl hd_X4_put rfl rfl ⟨Nat.le_of_ble_eq_true rfl, Nat.le_of_ble_eq_true rfl⟩) (kPre hK hP hD [1, 2, 3, 4, 5, 6] (by decide) rfl (q0 := 1) (ci := 4) rfl rfl rfl) rfl rfl hl.1 rfl (lv_room (Nat.le_of_ble_eq_true rfl)) dX7_volume_45 ⟨Nat.le_of_ble_eq_true rfl, Nat.le_of_ble_eq_true rfl⟩) hP hD hS hA [1, 2, 3, 4, 5, 6] [0, 7, 8, 9] rfl rfl (by decide) (by decide) (fun u H locs hw_6 hP hD hS => ?_)
      have hP : PG G [oC x 7 [.ref xa, .ref ya, .ref za, .ref t, .ref en, .ref vo, .ref se, .ref wk], oC t 4 [.ref tk, .ref tm, .ref to_, .ref tv, .ref tp, .ref tl], aI G tk 40 (upd kF (ix (nI (lfN kF))) (nI 1)), aI G tm 40 (upd mF (ix (nI (lfN kF))) (nI 15)), aI G to_ 40 (upd oF (ix (nI (lfN kF))) (nI 0)), aI G tv 40 (upd vF (ix (nI (lfN kF))) (nI vn)), aI G tp 40 (upd pF (ix (nI (lfN kF))) (nI (lfN kF))), oC vo 5 [.ref t, .ref vr, .ref vc, .int (nI (vn + 1))], aI G vr 4 (upd rF vn (nI (lfN kF))), aI G vc 4 cF] H := va_P.sub hP [0, 4, 5, 6, 7, 8, 9, 1, 2, 3] rfl
      have hD : va_D A [oC x 7 [.ref xa, .ref ya, .ref za, .ref t, .ref en, .ref vo, .ref se, .ref wk], oC t 4 [.ref tk, .ref tm, .ref to_, .ref tv, .ref tp, .ref tl], aI G tk 40 (upd kF (ix (nI (lfN kF))) (nI 1)), aI G tm 40 (upd mF (ix (nI (lfN kF))) (nI 15)), aI G to_ 40 (upd oF (ix (nI (lfN kF))) (nI 0)), aI G tv 40 (upd vF (ix (nI (lfN kF))) (nI vn)), aI G tp 40 (upd pF (ix (nI (lfN kF))) (nI (lfN kF))), oC vo 5 [.ref t, .ref vr, .ref vc, .int (nI (vn + 1))], aI G vr 4 (upd rF vn (nI (lfN kF))), aI G vc 4 cF] := va_D.sub hD [0, 4, 5, 6, 7, 8, 9, 1, 2, 3] (by decide) rfl
      refine lv_iload_n hF.1 hF.2.1 dX7_volume_48 rfl (lv_at hl 0 rfl) ?_
      refine kRetI (v := (nI vn)) hF hr hlk hK hP hD hS hQ rfl ((nI vn), upd kF (ix (nI (lfN kF))) (nI 1), upd mF (ix (nI (lfN kF))) (nI 15), upd oF (ix (nI (lfN kF))) (nI 0), upd vF (ix (nI (lfN kF))) (nI vn), upd pF (ix (nI (lfN kF))) (nI (lfN kF)), upd rF vn (nI (lfN kF)), vn + 1) [0, 1, 2, 3, 4, 5, 6, 7, 8, 9] (by decide) rfl (Nat.le_of_ble_eq_true rfl) (Nat.le_of_ble_eq_true rfl) dX7_volume_49 ?_
      exact ⟨rfl, (if_pos ⟨hJ, by omega⟩).symm⟩
    · refine lv_bipush (v := (-10)) hF.1 hF.2.1 dX7_volume_23 (by decide) ?_
      refine kRetI (v := (-10)) hF hr hlk hK hP hD hS hQ rfl ((-10), kF, mF, oF, vF, pF, rF, vn) [0, 1, 2, 3, 4, 5, 6, 7, 8, 9] (by decide) rfl (Nat.le_of_ble_eq_true rfl) (Nat.le_of_ble_eq_true rfl) dX7_volume_25 ?_
      exact ⟨rfl, (if_neg (fun h => by omega)).symm⟩
