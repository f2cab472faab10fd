set_option maxHeartbeats 4000000 in
set_option maxRecDepth 100000 in
theorem c_X4_leastFree (l : Launch) (G : GG) (sz : Nat) (t tk tm to_ tv tp tl : Nat) (kF : Nat → Int32) : CtI l G yX4_leastFree wsX4_leastFree 0 0 0 0 sz [.ref t] [oC t 4 [.ref tk, .ref tm, .ref to_, .ref tv, .ref tp, .ref tl], aI G tk 40 kF] (fun r (_ : Unit) => r = (rI (scan (fun j => !decide (kF j = nI 0)) 40 0) 40)) (fun (_ : Unit) => [oC t 4 [.ref tk, .ref tm, .ref to_, .ref tv, .ref tp, .ref tl], aI G tk 40 kF]) := by
  refine kMet (Qc := fun A => va_Qi _ (Bw G A _) A) (cc := cX4_leastFree) (nL := 2) (ret := some (.int)) (by decide) rfl (Nat.le_of_ble_eq_true rfl) ?_
  intro p e s m args below meth c A Q hF hr hlk hnme hK hP hD hA hS hQ hsz ls hl
  have hl : lv_has ls 2 [(0, .ref t)] := hl
  refine lv_iconst (v := (nI 0)) hF.1 hF.2.1 dX4_leastFree_0 (by decide) ?_
  refine lv_istore_n (lv' := [(1, .int (nI 0)), (0, .ref t)]) hF.1 hF.2.1 dX4_leastFree_1 rfl hl (by decide) rfl (fun ls hl => ?_)
  have loop_2 : ∀ (n_2 : Nat) (k : Nat), 40 - k < n_2 → (k ≤ 40) → (scan (fun j => !decide (kF j = nI 0)) (40 - k) k = scan (fun j => !decide (kF j = nI 0)) 40 0) → ∀ (H : Heap) (locs : List Loc) (ls : Array Slot), PG G [oC t 4 [.ref tk, .ref tm, .ref to_, .ref tv, .ref tp, .ref tl], aI G tk 40 kF] H → va_D A [oC t 4 [.ref tk, .ref tm, .ref to_, .ref tv, .ref tp, .ref tl], aI G tk 40 kF] → va_S A s.heap H locs → lv_has ls 2 [(1, .int (nI k)), (0, .ref t)] → W p l e (Rm 0 0 0 0) s m args below meth c H locs 0 0 Q (F0 m 2 ls []) := by
    intro n_2
    induction n_2 with
    | zero => intro k hm; exact absurd hm (Nat.not_lt_zero _)
    | succ n_2 ih_2 =>
      intro k hm_2 hk hR H locs ls hP hD hS hl
      refine lv_iload_n hF.1 hF.2.1 dX4_leastFree_2 rfl (lv_at hl 0 rfl) ?_
      refine lv_bipush (v := (nI 40)) hF.1 hF.2.1 dX4_leastFree_3 (by decide) ?_
      refine kGeN (tgt := 25) hF dX4_leastFree_5 (by decide) (by omega) (by omega) (fun c_1 => ?_) (fun c_1 => ?_)
      · refine lv_iconst (v := (-1)) hF.1 hF.2.1 dX4_leastFree_25 (by decide) ?_
        refine kRetI (v := (-1)) hF hr hlk hK hP hD hS hQ rfl () [0, 1] (by decide) rfl (Nat.le_of_ble_eq_true rfl) (Nat.le_of_ble_eq_true rfl) dX4_leastFree_26 ?_
        rw [← hR, scan_e (by omega), rI_f (by omega)]
      · refine lv_aload_n hF.1 hF.2.1 dX4_leastFree_8 rfl (lv_at hl 1 rfl) ?_
        refine kGet (C := RX4) (T := TX4) (N := 6) (index := 9) hF hK hP (inT inBX4) 0 rfl rfl 0 (by decide) rfl (List.mem_cons_of_mem _ mF_X4_9) rfl dX4_leastFree_9 ?_
        refine lv_iload_n hF.1 hF.2.1 dX4_leastFree_12 rfl (lv_at hl 0 rfl) ?_
        refine kIaldN hF hK hP 1 rfl (by omega) (by decide) dX4_leastFree_13 ?_
        refine lv_if_ne (tgt := 19) hF.1 hF.2.1 dX4_leastFree_14 (by decide) (fun c_2 => ?_) (fun c_2 => ?_)
        · refine lv_iinc (v := (nI (k + 1))) (lv' := [(1, .int (nI (k + 1))), (0, .ref t)]) hF.1 hF.2.1 dX4_leastFree_19 hl (k := 0) rfl (nI_inc1 _) (by decide) rfl (fun ls hl => ?_)
          refine lv_goto (tgt := 2) hF.1 hF.2.1 dX4_leastFree_22 (by decide) ?_
          exact ih_2 (k + 1) (by omega) (by first | assumption | omega) (by rw [← hR]; exact (scan_t (by omega) (by simpa using (by assumption))).symm) H locs ls hP hD hS (lv_sub hl [0, 1] rfl)
        · refine lv_iload_n hF.1 hF.2.1 dX4_leastFree_17 rfl (lv_at hl 0 rfl) ?_
          refine kRetI (v := (nI k)) hF hr hlk hK hP hD hS hQ rfl () [0, 1] (by decide) rfl (Nat.le_of_ble_eq_true rfl) (Nat.le_of_ble_eq_true rfl) dX4_leastFree_18 ?_
          rw [← hR, scan_f (by omega) (by simpa using (by assumption)), rI_t (by omega)]
  exact loop_2 _ 0 (Nat.lt_succ_self _) (by first | assumption | omega) (rfl) _ _ _ hP hD hS (lv_sub hl [0, 1] rfl)
set_option maxHeartbeats 4000000 in
set_option maxRecDepth 100000 in
theorem c_X4_put (l : Launch) (G : GG) (sz : Nat) (t tk tm to_ tv tp tl : Nat) (kF mF oF vF pF : Nat → Int32) (i so mo ow vu : Int32) (hi : vp_in i 40) : CtV l G yX4_put wsX4_put 0 0 0 0 sz [.ref t, .int i, .int so, .int mo, .int ow, .int vu] [oC t 4 [.ref tk, .ref tm, .ref to_, .ref tv, .ref tp, .ref tl], aI G tk 40 kF, aI G tm 40 mF, aI G to_ 40 oF, aI G tv 40 vF, aI G tp 40 pF] (fun (_ : Unit) => True) (fun (_ : Unit) => [oC t 4 [.ref tk, .ref tm, .ref to_, .ref tv, .ref tp, .ref tl], aI G tk 40 (upd kF (ix i) so), aI G tm 40 (upd mF (ix i) mo), aI G to_ 40 (upd oF (ix i) ow), aI G tv 40 (upd vF (ix i) vu), aI G tp 40 (upd pF (ix i) i)]) := by
  refine kMet (Qc := fun A => va_Qv _ (Bw G A _) A) (cc := cX4_put) (nL := 6) (ret := none) (by decide) rfl (Nat.le_of_ble_eq_true rfl) ?_
  intro p e s m args below meth c A Q hF hr hlk hnme hK hP hD hA hS hQ hsz ls hl
  have hl : lv_has ls 6 [(0, .ref t), (1, .int i), (2, .int so), (3, .int mo), (4, .int ow), (5, .int vu)] := hl
  refine lv_aload_n hF.1 hF.2.1 dX4_put_0 rfl (lv_at hl 0 rfl) ?_
  refine kGet (C := RX4) (T := TX4) (N := 6) (index := 9) hF hK hP (inT inBX4) 0 rfl rfl 0 (by decide) rfl (List.mem_cons_of_mem _ mF_X4_9) rfl dX4_put_1 ?_
  refine lv_iload_n hF.1 hF.2.1 dX4_put_4 rfl (lv_at hl 1 rfl) ?_
  refine lv_iload_n hF.1 hF.2.1 dX4_put_5 rfl (lv_at hl 2 rfl) ?_
  refine kIast hF hK hP hD hS 1 rfl (by assumption) dX4_put_6 (fun H locs hP hD hS => ?_)
  have hP : PG G [oC t 4 [.ref tk, .ref tm, .ref to_, .ref tv, .ref tp, .ref tl], aI G tk 40 (upd kF (ix i) so), aI G tm 40 mF, aI G to_ 40 oF, aI G tv 40 vF, aI G tp 40 pF] H := hP
  have hD : va_D A [oC t 4 [.ref tk, .ref tm, .ref to_, .ref tv, .ref tp, .ref tl], aI G tk 40 (upd kF (ix i) so), aI G tm 40 mF, aI G to_ 40 oF, aI G tv 40 vF, aI G tp 40 pF] := hD
  refine lv_aload_n hF.1 hF.2.1 dX4_put_7 rfl (lv_at hl 0 rfl) ?_
  refine kGet (C := RX4) (T := TX4) (N := 6) (index := 15) hF hK hP (inT inBX4) 0 rfl rfl 1 (by decide) rfl (List.mem_cons_of_mem _ mF_X4_15) rfl dX4_put_8 ?_
  refine lv_iload_n hF.1 hF.2.1 dX4_put_11 rfl (lv_at hl 1 rfl) ?_
  refine lv_iload_n hF.1 hF.2.1 dX4_put_12 rfl (lv_at hl 3 rfl) ?_
  refine kIast hF hK hP hD hS 2 rfl (by assumption) dX4_put_13 (fun H locs hP hD hS => ?_)
  have hP : PG G [oC t 4 [.ref tk, .ref tm, .ref to_, .ref tv, .ref tp, .ref tl], aI G tk 40 (upd kF (ix i) so), aI G tm 40 (upd mF (ix i) mo), aI G to_ 40 oF, aI G tv 40 vF, aI G tp 40 pF] H := hP
  have hD : va_D A [oC t 4 [.ref tk, .ref tm, .ref to_, .ref tv, .ref tp, .ref tl], aI G tk 40 (upd kF (ix i) so), aI G tm 40 (upd mF (ix i) mo), aI G to_ 40 oF, aI G tv 40 vF, aI G tp 40 pF] := hD
  refine lv_aload_n hF.1 hF.2.1 dX4_put_14 rfl (lv_at hl 0 rfl) ?_
  refine kGet (C := RX4) (T := TX4) (N := 6) (index := 18) hF hK hP (inT inBX4) 0 rfl rfl 2 (by decide) rfl (List.mem_cons_of_mem _ mF_X4_18) rfl dX4_put_15 ?_
  refine lv_iload_n hF.1 hF.2.1 dX4_put_18 rfl (lv_at hl 1 rfl) ?_
  refine lv_iload hF.1 hF.2.1 dX4_put_19 (lv_at hl 4 rfl) ?_
  refine kIast hF hK hP hD hS 3 rfl (by assumption) dX4_put_21 (fun H locs hP hD hS => ?_)
  have hP : PG G [oC t 4 [.ref tk, .ref tm, .ref to_, .ref tv, .ref tp, .ref tl], aI G tk 40 (upd kF (ix i) so), aI G tm 40 (upd mF (ix i) mo), aI G to_ 40 (upd oF (ix i) ow), aI G tv 40 vF, aI G tp 40 pF] H := hP
  have hD : va_D A [oC t 4 [.ref tk, .ref tm, .ref to_, .ref tv, .ref tp, .ref tl], aI G tk 40 (upd kF (ix i) so), aI G tm 40 (upd mF (ix i) mo), aI G to_ 40 (upd oF (ix i) ow), aI G tv 40 vF, aI G tp 40 pF] := hD
  refine lv_aload_n hF.1 hF.2.1 dX4_put_22 rfl (lv_at hl 0 rfl) ?_
  refine kGet (C := RX4) (T := TX4) (N := 6) (index := 21) hF hK hP (inT inBX4) 0 rfl rfl 3 (by decide) rfl (List.mem_cons_of_mem _ mF_X4_21) rfl dX4_put_23 ?_
  refine lv_iload_n hF.1 hF.2.1 dX4_put_26 rfl (lv_at hl 1 rfl) ?_
  refine lv_iload hF.1 hF.2.1 dX4_put_27 (lv_at hl 5 rfl) ?_
  refine kIast hF hK hP hD hS 4 rfl (by assumption) dX4_put_29 (fun H locs hP hD hS => ?_)
  have hP : PG G [oC t 4 [.ref tk, .ref tm, .ref to_, .ref tv, .ref tp, .ref tl], aI G tk 40 (upd kF (ix i) so), aI G tm 40 (upd mF (ix i) mo), aI G to_ 40 (upd oF (ix i) ow), aI G tv 40 (upd vF (ix i) vu), aI G tp 40 pF] H := hP
  have hD : va_D A [oC t 4 [.ref tk, .ref tm, .ref to_, .ref tv, .ref tp, .ref tl], aI G tk 40 (upd kF (ix i) so), aI G tm 40 (upd mF (ix i) mo), aI G to_ 40 (upd oF (ix i) ow), aI G tv 40 (upd vF (ix i) vu), aI G tp 40 pF] := hD
  refine lv_aload_n hF.1 hF.2.1 dX4_put_30 rfl (lv_at hl 0 rfl) ?_
  refine kGet (C := RX4) (T := TX4) (N := 6) (index := 24) hF hK hP (inT inBX4) 0 rfl rfl 4 (by decide) rfl (List.mem_cons_of_mem _ mF_X4_24) rfl dX4_put_31 ?_
  refine lv_iload_n hF.1 hF.2.1 dX4_put_34 rfl (lv_at hl 1 rfl) ?_
  refine lv_iload_n hF.1 hF.2.1 dX4_put_35 rfl (lv_at hl 1 rfl) ?_
  refine kIast hF hK hP hD hS 5 rfl (by assumption) dX4_put_36 (fun H locs hP hD hS => ?_)
  have hP : PG G [oC t 4 [.ref tk, .ref tm, .ref to_, .ref tv, .ref tp, .ref tl], aI G tk 40 (upd kF (ix i) so), aI G tm 40 (upd mF (ix i) mo), aI G to_ 40 (upd oF (ix i) ow), aI G tv 40 (upd vF (ix i) vu), aI G tp 40 (upd pF (ix i) i)] H := hP
  have hD : va_D A [oC t 4 [.ref tk, .ref tm, .ref to_, .ref tv, .ref tp, .ref tl], aI G tk 40 (upd kF (ix i) so), aI G tm 40 (upd mF (ix i) mo), aI G to_ 40 (upd oF (ix i) ow), aI G tv 40 (upd vF (ix i) vu), aI G tp 40 (upd pF (ix i) i)] := hD
  refine kRetV hF hr hlk hK hP hD hS hQ () [0, 1, 2, 3, 4, 5] (by decide) rfl (Nat.le_of_ble_eq_true rfl) (Nat.le_of_ble_eq_true rfl) dX4_put_37 ?_
  exact (by first | rfl | trivial | exact zI_1 (by first | assumption | omega) | exact zI_0 (by first | assumption | omega) | (simp_all; done))
set_option maxHeartbeats 4000000 in
set_option maxRecDepth 100000 in
theorem c_X4_free (l : Launch) (G : GG) (sz : Nat) (t tk tm to_ tv tp tl : Nat) (kF : Nat → Int32) (i : Int32) (hi : vp_in i 40) : CtV l G yX4_free wsX4_free 0 0 0 0 sz [.ref t, .int i] [oC t 4 [.ref tk, .ref tm, .ref to_, .ref tv, .ref tp, .ref tl], aI G tk 40 kF] (fun (_ : Unit) => True) (fun (_ : Unit) => [oC t 4 [.ref tk, .ref tm, .ref to_, .ref tv, .ref tp, .ref tl], aI G tk 40 (upd kF (ix i) (nI 0))]) := by
  refine kMet (Qc := fun A => va_Qv _ (Bw G A _) A) (cc := cX4_free) (nL := 2) (ret := none) (by decide) rfl (Nat.le_of_ble_eq_true rfl) ?_
  intro p e s m args below meth c A Q hF hr hlk hnme hK hP hD hA hS hQ hsz ls hl
  have hl : lv_has ls 2 [(0, .ref t), (1, .int i)] := hl
  refine lv_aload_n hF.1 hF.2.1 dX4_free_0 rfl (lv_at hl 0 rfl) ?_
  refine kGet (C := RX4) (T := TX4) (N := 6) (index := 9) hF hK hP (inT inBX4) 0 rfl rfl 0 (by decide) rfl (List.mem_cons_of_mem _ mF_X4_9) rfl dX4_free_1 ?_
  refine lv_iload_n hF.1 hF.2.1 dX4_free_4 rfl (lv_at hl 1 rfl) ?_
  refine lv_iconst (v := (nI 0)) hF.1 hF.2.1 dX4_free_5 (by decide) ?_
  refine kIast hF hK hP hD hS 1 rfl (by assumption) dX4_free_6 (fun H locs hP hD hS => ?_)
  have hP : PG G [oC t 4 [.ref tk, .ref tm, .ref to_, .ref tv, .ref tp, .ref tl], aI G tk 40 (upd kF (ix i) (nI 0))] H := hP
  have hD : va_D A [oC t 4 [.ref tk, .ref tm, .ref to_, .ref tv, .ref tp, .ref tl], aI G tk 40 (upd kF (ix i) (nI 0))] := hD
  refine kRetV hF hr hlk hK hP hD hS hQ () [0, 1] (by decide) rfl (Nat.le_of_ble_eq_true rfl) (Nat.le_of_ble_eq_true rfl) dX4_free_7 ?_
  exact (by first | rfl | trivial | exact zI_1 (by first | assumption | omega) | exact zI_0 (by first | assumption | omega) | (simp_all; done))
set_option maxHeartbeats 4000000 in
set_option maxRecDepth 100000 in
theorem c_X4_sort (l : Launch) (G : GG) (sz : Nat) (t tk tm to_ tv tp tl : Nat) (kF : Nat → Int32) (i : Int32) (hi : vp_in i 40) : CtI l G yX4_sort wsX4_sort 0 0 0 0 sz [.ref t, .int i] [oC t 4 [.ref tk, .ref tm, .ref to_, .ref tv, .ref tp, .ref tl], aI G tk 40 kF] (fun r (_ : Unit) => r = (kF (ix i))) (fun (_ : Unit) => [oC t 4 [.ref tk, .ref tm, .ref to_, .ref tv, .ref tp, .ref tl], aI G tk 40 kF]) := by
  refine kMet (Qc := fun A => va_Qi _ (Bw G A _) A) (cc := cX4_sort) (nL := 2) (ret := some (.int)) (by decide) rfl (Nat.le_of_ble_eq_true rfl) ?_
  intro p e s m args below meth c A Q hF hr hlk hnme hK hP hD hA hS hQ hsz ls hl
  have hl : lv_has ls 2 [(0, .ref t), (1, .int i)] := hl
  refine lv_aload_n hF.1 hF.2.1 dX4_sort_0 rfl (lv_at hl 0 rfl) ?_
  refine kGet (C := RX4) (T := TX4) (N := 6) (index := 9) hF hK hP (inT inBX4) 0 rfl rfl 0 (by decide) rfl (List.mem_cons_of_mem _ mF_X4_9) rfl dX4_sort_1 ?_
  refine lv_iload_n hF.1 hF.2.1 dX4_sort_4 rfl (lv_at hl 1 rfl) ?_
  refine kIald hF hK hP 1 rfl (by assumption) dX4_sort_5 ?_
  refine kRetI (v := (kF (ix i))) hF hr hlk hK hP hD hS hQ rfl () [0, 1] (by decide) rfl (Nat.le_of_ble_eq_true rfl) (Nat.le_of_ble_eq_true rfl) dX4_sort_6 ?_
  exact (by first | rfl | trivial | exact zI_1 (by first | assumption | omega) | exact zI_0 (by first | assumption | omega) | (simp_all; done))
set_option maxHeartbeats 4000000 in
set_option maxRecDepth 100000 in
theorem c_X4_isDirectory (l : Launch) (G : GG) (sz : Nat) (t tk tm to_ tv tp tl : Nat) (kF : Nat → Int32) (i : Int32) (hi : vp_in i 40) : CtI l G yX4_isDirectory wsX4_isDirectory 0 0 0 0 sz [.ref t, .int i] [oC t 4 [.ref tk, .ref tm, .ref to_, .ref tv, .ref tp, .ref tl], aI G tk 40 kF] (fun r (_ : Unit) => r = (zI (kF (ix i) = nI 1))) (fun (_ : Unit) => [oC t 4 [.ref tk, .ref tm, .ref to_, .ref tv, .ref tp, .ref tl], aI G tk 40 kF]) := by
  refine kMet (Qc := fun A => va_Qi _ (Bw G A _) A) (cc := cX4_isDirectory) (nL := 2) (ret := some (.boolean)) (by decide) rfl (Nat.le_of_ble_eq_true rfl) ?_
  intro p e s m args below meth c A Q hF hr hlk hnme hK hP hD hA hS hQ hsz ls hl
  have hl : lv_has ls 2 [(0, .ref t), (1, .int i)] := hl
  refine lv_aload_n hF.1 hF.2.1 dX4_isDirectory_0 rfl (lv_at hl 0 rfl) ?_
  refine kGet (C := RX4) (T := TX4) (N := 6) (index := 9) hF hK hP (inT inBX4) 0 rfl rfl 0 (by decide) rfl (List.mem_cons_of_mem _ mF_X4_9) rfl dX4_isDirectory_1 ?_
  refine lv_iload_n hF.1 hF.2.1 dX4_isDirectory_4 rfl (lv_at hl 1 rfl) ?_
  refine kIald hF hK hP 1 rfl (by assumption) dX4_isDirectory_5 ?_
  refine lv_iconst (v := (nI 1)) hF.1 hF.2.1 dX4_isDirectory_6 (by decide) ?_
  refine lv_icmp_ne (tgt := 14) hF.1 hF.2.1 dX4_isDirectory_7 (by decide) (fun c_1 => ?_) (fun c_1 => ?_)
  · refine lv_iconst (v := (nI 0)) hF.1 hF.2.1 dX4_isDirectory_14 (by decide) ?_
    refine kRetI (v := (nI 0)) hF hr hlk hK hP hD hS hQ rfl () [0, 1] (by decide) rfl (Nat.le_of_ble_eq_true rfl) (Nat.le_of_ble_eq_true rfl) dX4_isDirectory_15 ?_
    exact (by first | rfl | trivial | exact zI_1 (by first | assumption | omega) | exact zI_0 (by first | assumption | omega) | (simp_all; done))
  · refine lv_iconst (v := (nI 1)) hF.1 hF.2.1 dX4_isDirectory_10 (by decide) ?_
    refine lv_goto (tgt := 15) hF.1 hF.2.1 dX4_isDirectory_11 (by decide) ?_
    refine kRetI (v := (nI 1)) hF hr hlk hK hP hD hS hQ rfl () [0, 1] (by decide) rfl (Nat.le_of_ble_eq_true rfl) (Nat.le_of_ble_eq_true rfl) dX4_isDirectory_15 ?_
    exact (by first | rfl | trivial | exact zI_1 (by first | assumption | omega) | exact zI_0 (by first | assumption | omega) | (simp_all; done))
set_option maxHeartbeats 4000000 in
set_option maxRecDepth 100000 in
theorem c_X4_isLink (l : Launch) (G : GG) (sz : Nat) (t tk tm to_ tv tp tl : Nat) (kF : Nat → Int32) (i : Int32) (hi : vp_in i 40) : CtI l G yX4_isLink wsX4_isLink 0 0 0 0 sz [.ref t, .int i] [oC t 4 [.ref tk, .ref tm, .ref to_, .ref tv, .ref tp, .ref tl], aI G tk 40 kF] (fun r (_ : Unit) => r = (zI (kF (ix i) = nI 3))) (fun (_ : Unit) => [oC t 4 [.ref tk, .ref tm, .ref to_, .ref tv, .ref tp, .ref tl], aI G tk 40 kF]) := by
  refine kMet (Qc := fun A => va_Qi _ (Bw G A _) A) (cc := cX4_isLink) (nL := 2) (ret := some (.boolean)) (by decide) rfl (Nat.le_of_ble_eq_true rfl) ?_
  intro p e s m args below meth c A Q hF hr hlk hnme hK hP hD hA hS hQ hsz ls hl
  have hl : lv_has ls 2 [(0, .ref t), (1, .int i)] := hl
  refine lv_aload_n hF.1 hF.2.1 dX4_isLink_0 rfl (lv_at hl 0 rfl) ?_
  refine kGet (C := RX4) (T := TX4) (N := 6) (index := 9) hF hK hP (inT inBX4) 0 rfl rfl 0 (by decide) rfl (List.mem_cons_of_mem _ mF_X4_9) rfl dX4_isLink_1 ?_
  refine lv_iload_n hF.1 hF.2.1 dX4_isLink_4 rfl (lv_at hl 1 rfl) ?_
  refine kIald hF hK hP 1 rfl (by assumption) dX4_isLink_5 ?_
  refine lv_iconst (v := (nI 3)) hF.1 hF.2.1 dX4_isLink_6 (by decide) ?_
  refine lv_icmp_ne (tgt := 14) hF.1 hF.2.1 dX4_isLink_7 (by decide) (fun c_1 => ?_) (fun c_1 => ?_)
  · refine lv_iconst (v := (nI 0)) hF.1 hF.2.1 dX4_isLink_14 (by decide) ?_
    refine kRetI (v := (nI 0)) hF hr hlk hK hP hD hS hQ rfl () [0, 1] (by decide) rfl (Nat.le_of_ble_eq_true rfl) (Nat.le_of_ble_eq_true rfl) dX4_isLink_15 ?_
    exact (by first | rfl | trivial | exact zI_1 (by first | assumption | omega) | exact zI_0 (by first | assumption | omega) | (simp_all; done))
  · refine lv_iconst (v := (nI 1)) hF.1 hF.2.1 dX4_isLink_10 (by decide) ?_
    refine lv_goto (tgt := 15) hF.1 hF.2.1 dX4_isLink_11 (by decide) ?_
    refine kRetI (v := (nI 1)) hF hr hlk hK hP hD hS hQ rfl () [0, 1] (by decide) rfl (Nat.le_of_ble_eq_true rfl) (Nat.le_of_ble_eq_true rfl) dX4_isLink_15 ?_
    exact (by first | rfl | trivial | exact zI_1 (by first | assumption | omega) | exact zI_0 (by first | assumption | omega) | (simp_all; done))
set_option maxHeartbeats 4000000 in
set_option maxRecDepth 100000 in
theorem c_X4_mode (l : Launch) (G : GG) (sz : Nat) (t tk tm to_ tv tp tl : Nat) (mF : Nat → Int32) (i : Int32) (hi : vp_in i 40) : CtI l G yX4_mode wsX4_mode 0 0 0 0 sz [.ref t, .int i] [oC t 4 [.ref tk, .ref tm, .ref to_, .ref tv, .ref tp, .ref tl], aI G tm 40 mF] (fun r (_ : Unit) => r = (mF (ix i))) (fun (_ : Unit) => [oC t 4 [.ref tk, .ref tm, .ref to_, .ref tv, .ref tp, .ref tl], aI G tm 40 mF]) := by
  refine kMet (Qc := fun A => va_Qi _ (Bw G A _) A) (cc := cX4_mode) (nL := 2) (ret := some (.int)) (by decide) rfl (Nat.le_of_ble_eq_true rfl) ?_
  intro p e s m args below meth c A Q hF hr hlk hnme hK hP hD hA hS hQ hsz ls hl
  have hl : lv_has ls 2 [(0, .ref t), (1, .int i)] := hl
  refine lv_aload_n hF.1 hF.2.1 dX4_mode_0 rfl (lv_at hl 0 rfl) ?_
  refine kGet (C := RX4) (T := TX4) (N := 6) (index := 15) hF hK hP (inT inBX4) 0 rfl rfl 1 (by decide) rfl (List.mem_cons_of_mem _ mF_X4_15) rfl dX4_mode_1 ?_
  refine lv_iload_n hF.1 hF.2.1 dX4_mode_4 rfl (lv_at hl 1 rfl) ?_
  refine kIald hF hK hP 1 rfl (by assumption) dX4_mode_5 ?_
  refine kRetI (v := (mF (ix i))) hF hr hlk hK hP hD hS hQ rfl () [0, 1] (by decide) rfl (Nat.le_of_ble_eq_true rfl) (Nat.le_of_ble_eq_true rfl) dX4_mode_6 ?_
  exact (by first | rfl | trivial | exact zI_1 (by first | assumption | omega) | exact zI_0 (by first | assumption | omega) | (simp_all; done))
set_option maxHeartbeats 4000000 in
set_option maxRecDepth 100000 in
theorem c_X4_setMode (l : Launch) (G : GG) (sz : Nat) (t tk tm to_ tv tp tl : Nat) (mF : Nat → Int32) (i mo : Int32) (hi : vp_in i 40) : CtV l G yX4_setMode wsX4_setMode 0 0 0 0 sz [.ref t, .int i, .int mo] [oC t 4 [.ref tk, .ref tm, .ref to_, .ref tv, .ref tp, .ref tl], aI G tm 40 mF] (fun (_ : Unit) => True) (fun (_ : Unit) => [oC t 4 [.ref tk, .ref tm, .ref to_, .ref tv, .ref tp, .ref tl], aI G tm 40 (upd mF (ix i) mo)]) := by
  refine kMet (Qc := fun A => va_Qv _ (Bw G A _) A) (cc := cX4_setMode) (nL := 3) (ret := none) (by decide) rfl (Nat.le_of_ble_eq_true rfl) ?_
  intro p e s m args below meth c A Q hF hr hlk hnme hK hP hD hA hS hQ hsz ls hl
  have hl : lv_has ls 3 [(0, .ref t), (1, .int i), (2, .int mo)] := hl
  refine lv_aload_n hF.1 hF.2.1 dX4_setMode_0 rfl (lv_at hl 0 rfl) ?_
  refine kGet (C := RX4) (T := TX4) (N := 6) (index := 15) hF hK hP (inT inBX4) 0 rfl rfl 1 (by decide) rfl (List.mem_cons_of_mem _ mF_X4_15) rfl dX4_setMode_1 ?_
  refine lv_iload_n hF.1 hF.2.1 dX4_setMode_4 rfl (lv_at hl 1 rfl) ?_
  refine lv_iload_n hF.1 hF.2.1 dX4_setMode_5 rfl (lv_at hl 2 rfl) ?_
  refine kIast hF hK hP hD hS 1 rfl (by assumption) dX4_setMode_6 (fun H locs hP hD hS => ?_)
  have hP : PG G [oC t 4 [.ref tk, .ref tm, .ref to_, .ref tv, .ref tp, .ref tl], aI G tm 40 (upd mF (ix i) mo)] H := hP
  have hD : va_D A [oC t 4 [.ref tk, .ref tm, .ref to_, .ref tv, .ref tp, .ref tl], aI G tm 40 (upd mF (ix i) mo)] := hD
  refine kRetV hF hr hlk hK hP hD hS hQ () [0, 1] (by decide) rfl (Nat.le_of_ble_eq_true rfl) (Nat.le_of_ble_eq_true rfl) dX4_setMode_7 ?_
  exact (by first | rfl | trivial | exact zI_1 (by first | assumption | omega) | exact zI_0 (by first | assumption | omega) | (simp_all; done))
set_option maxHeartbeats 4000000 in
set_option maxRecDepth 100000 in
theorem c_X4_owner (l : Launch) (G : GG) (sz : Nat) (t tk tm to_ tv tp tl : Nat) (oF : Nat → Int32) (i : Int32) (hi : vp_in i 40) : CtI l G yX4_owner wsX4_owner 0 0 0 0 sz [.ref t, .int i] [oC t 4 [.ref tk, .ref tm, .ref to_, .ref tv, .ref tp, .ref tl], aI G to_ 40 oF] (fun r (_ : Unit) => r = (oF (ix i))) (fun (_ : Unit) => [oC t 4 [.ref tk, .ref tm, .ref to_, .ref tv, .ref tp, .ref tl], aI G to_ 40 oF]) := by
  refine kMet (Qc := fun A => va_Qi _ (Bw G A _) A) (cc := cX4_owner) (nL := 2) (ret := some (.int)) (by decide) rfl (Nat.le_of_ble_eq_true rfl) ?_
  intro p e s m args below meth c A Q hF hr hlk hnme hK hP hD hA hS hQ hsz ls hl
  have hl : lv_has ls 2 [(0, .ref t), (1, .int i)] := hl
  refine lv_aload_n hF.1 hF.2.1 dX4_owner_0 rfl (lv_at hl 0 rfl) ?_
  refine kGet (C := RX4) (T := TX4) (N := 6) (index := 18) hF hK hP (inT inBX4) 0 rfl rfl 2 (by decide) rfl (List.mem_cons_of_mem _ mF_X4_18) rfl dX4_owner_1 ?_
  refine lv_iload_n hF.1 hF.2.1 dX4_owner_4 rfl (lv_at hl 1 rfl) ?_
  refine kIald hF hK hP 1 rfl (by assumption) dX4_owner_5 ?_
  refine kRetI (v := (oF (ix i))) hF hr hlk hK hP hD hS hQ rfl () [0, 1] (by decide) rfl (Nat.le_of_ble_eq_true rfl) (Nat.le_of_ble_eq_true rfl) dX4_owner_6 ?_
  exact (by first | rfl | trivial | exact zI_1 (by first | assumption | omega) | exact zI_0 (by first | assumption | omega) | (simp_all; done))
set_option maxHeartbeats 4000000 in
set_option maxRecDepth 100000 in
theorem c_X4_volumeOf (l : Launch) (G : GG) (sz : Nat) (t tk tm to_ tv tp tl : Nat) (vF : Nat → Int32) (i : Int32) (hi : vp_in i 40) : CtI l G yX4_volumeOf wsX4_volumeOf 0 0 0 0 sz [.ref t, .int i] [oC t 4 [.ref tk, .ref tm, .ref to_, .ref tv, .ref tp, .ref tl], aI G tv 40 vF] (fun r (_ : Unit) => r = (vF (ix i))) (fun (_ : Unit) => [oC t 4 [.ref tk, .ref tm, .ref to_, .ref tv, .ref tp, .ref tl], aI G tv 40 vF]) := by
  refine kMet (Qc := fun A => va_Qi _ (Bw G A _) A) (cc := cX4_volumeOf) (nL := 2) (ret := some (.int)) (by decide) rfl (Nat.le_of_ble_eq_true rfl) ?_
  intro p e s m args below meth c A Q hF hr hlk hnme hK hP hD hA hS hQ hsz ls hl
  have hl : lv_has ls 2 [(0, .ref t), (1, .int i)] := hl
  refine lv_aload_n hF.1 hF.2.1 dX4_volumeOf_0 rfl (lv_at hl 0 rfl) ?_
  refine kGet (C := RX4) (T := TX4) (N := 6) (index := 21) hF hK hP (inT inBX4) 0 rfl rfl 3 (by decide) rfl (List.mem_cons_of_mem _ mF_X4_21) rfl dX4_volumeOf_1 ?_
  refine lv_iload_n hF.1 hF.2.1 dX4_volumeOf_4 rfl (lv_at hl 1 rfl) ?_
  refine kIald hF hK hP 1 rfl (by assumption) dX4_volumeOf_5 ?_
  refine kRetI (v := (vF (ix i))) hF hr hlk hK hP hD hS hQ rfl () [0, 1] (by decide) rfl (Nat.le_of_ble_eq_true rfl) (Nat.le_of_ble_eq_true rfl) dX4_volumeOf_6 ?_
  exact (by first | rfl | trivial | exact zI_1 (by first | assumption | omega) | exact zI_0 (by first | assumption | omega) | (simp_all; done))
set_option maxHeartbeats 4000000 in
set_option maxRecDepth 100000 in
theorem c_X4_parent (l : Launch) (G : GG) (sz : Nat) (t tk tm to_ tv tp tl : Nat) (pF : Nat → Int32) (i : Int32) (hi : vp_in i 40) : CtI l G yX4_parent wsX4_parent 0 0 0 0 sz [.ref t, .int i] [oC t 4 [.ref tk, .ref tm, .ref to_, .ref tv, .ref tp, .ref tl], aI G tp 40 pF] (fun r (_ : Unit) => r = (pF (ix i))) (fun (_ : Unit) => [oC t 4 [.ref tk, .ref tm, .ref to_, .ref tv, .ref tp, .ref tl], aI G tp 40 pF]) := by
  refine kMet (Qc := fun A => va_Qi _ (Bw G A _) A) (cc := cX4_parent) (nL := 2) (ret := some (.int)) (by decide) rfl (Nat.le_of_ble_eq_true rfl) ?_
  intro p e s m args below meth c A Q hF hr hlk hnme hK hP hD hA hS hQ hsz ls hl
  have hl : lv_has ls 2 [(0, .ref t), (1, .int i)] := hl
  refine lv_aload_n hF.1 hF.2.1 dX4_parent_0 rfl (lv_at hl 0 rfl) ?_
  refine kGet (C := RX4) (T := TX4) (N := 6) (index := 24) hF hK hP (inT inBX4) 0 rfl rfl 4 (by decide) rfl (List.mem_cons_of_mem _ mF_X4_24) rfl dX4_parent_1 ?_
  refine lv_iload_n hF.1 hF.2.1 dX4_parent_4 rfl (lv_at hl 1 rfl) ?_
  refine kIald hF hK hP 1 rfl (by assumption) dX4_parent_5 ?_
  refine kRetI (v := (pF (ix i))) hF hr hlk hK hP hD hS hQ rfl () [0, 1] (by decide) rfl (Nat.le_of_ble_eq_true rfl) (Nat.le_of_ble_eq_true rfl) dX4_parent_6 ?_
  exact (by first | rfl | trivial | exact zI_1 (by first | assumption | omega) | exact zI_0 (by first | assumption | omega) | (simp_all; done))
set_option maxHeartbeats 4000000 in
set_option maxRecDepth 100000 in
theorem c_X4_setParent (l : Launch) (G : GG) (sz : Nat) (t tk tm to_ tv tp tl : Nat) (pF : Nat → Int32) (i pa : Int32) (hi : vp_in i 40) : CtV l G yX4_setParent wsX4_setParent 0 0 0 0 sz [.ref t, .int i, .int pa] [oC t 4 [.ref tk, .ref tm, .ref to_, .ref tv, .ref tp, .ref tl], aI G tp 40 pF] (fun (_ : Unit) => True) (fun (_ : Unit) => [oC t 4 [.ref tk, .ref tm, .ref to_, .ref tv, .ref tp, .ref tl], aI G tp 40 (upd pF (ix i) pa)]) := by
  refine kMet (Qc := fun A => va_Qv _ (Bw G A _) A) (cc := cX4_setParent) (nL := 3) (ret := none) (by decide) rfl (Nat.le_of_ble_eq_true rfl) ?_
  intro p e s m args below meth c A Q hF hr hlk hnme hK hP hD hA hS hQ hsz ls hl
  have hl : lv_has ls 3 [(0, .ref t), (1, .int i), (2, .int pa)] := hl
  refine lv_aload_n hF.1 hF.2.1 dX4_setParent_0 rfl (lv_at hl 0 rfl) ?_
  refine kGet (C := RX4) (T := TX4) (N := 6) (index := 24) hF hK hP (inT inBX4) 0 rfl rfl 4 (by decide) rfl (List.mem_cons_of_mem _ mF_X4_24) rfl dX4_setParent_1 ?_
  refine lv_iload_n hF.1 hF.2.1 dX4_setParent_4 rfl (lv_at hl 1 rfl) ?_
  refine lv_iload_n hF.1 hF.2.1 dX4_setParent_5 rfl (lv_at hl 2 rfl) ?_
  refine kIast hF hK hP hD hS 1 rfl (by assumption) dX4_setParent_6 (fun H locs hP hD hS => ?_)
  have hP : PG G [oC t 4 [.ref tk, .ref tm, .ref to_, .ref tv, .ref tp, .ref tl], aI G tp 40 (upd pF (ix i) pa)] H := hP
  have hD : va_D A [oC t 4 [.ref tk, .ref tm, .ref to_, .ref tv, .ref tp, .ref tl], aI G tp 40 (upd pF (ix i) pa)] := hD
  refine kRetV hF hr hlk hK hP hD hS hQ () [0, 1] (by decide) rfl (Nat.le_of_ble_eq_true rfl) (Nat.le_of_ble_eq_true rfl) dX4_setParent_7 ?_
  exact (by first | rfl | trivial | exact zI_1 (by first | assumption | omega) | exact zI_0 (by first | assumption | omega) | (simp_all; done))
set_option maxHeartbeats 4000000 in
set_option maxRecDepth 100000 in
theorem c_X4_target (l : Launch) (G : GG) (sz : Nat) (t tk tm to_ tv tp tl : Nat) (tF : Nat → Option Nat) (i : Int32) (hi : vp_in i 40) : CtQ l G yX4_target wsX4_target 0 0 0 0 sz [.ref t, .int i] [oC t 4 [.ref tk, .ref tm, .ref to_, .ref tv, .ref tp, .ref tl], aL G tl 40 tF] (fun r (_ : Unit) => r = tF (ix i)) (fun (_ : Unit) => [oC t 4 [.ref tk, .ref tm, .ref to_, .ref tv, .ref tp, .ref tl], aL G tl 40 tF]) := by
  refine kMet (Qc := fun A => va_Qq _ (Bw G A _) A) (cc := cX4_target) (nL := 2) (ret := some (.object "MountedPaths$Line")) (by decide) rfl (Nat.le_of_ble_eq_true rfl) ?_
  intro p e s m args below meth c A Q hF hr hlk hnme hK hP hD hA hS hQ hsz ls hl
  have hl : lv_has ls 2 [(0, .ref t), (1, .int i)] := hl
  refine lv_aload_n hF.1 hF.2.1 dX4_target_0 rfl (lv_at hl 0 rfl) ?_
  refine kGet (C := RX4) (T := TX4) (N := 6) (index := 29) hF hK hP (inT inBX4) 0 rfl rfl 5 (by decide) rfl (List.mem_cons_of_mem _ mF_X4_29) rfl dX4_target_1 ?_
  refine lv_iload_n hF.1 hF.2.1 dX4_target_4 rfl (lv_at hl 1 rfl) ?_
  refine kAald hF hK hP 1 rfl (by assumption) dX4_target_5 ?_
  refine kRetQ (v := tF (ix i)) hF hr (Or.inl ⟨_, rfl⟩) hlk hK hP hD hS hQ () [0, 1] (by decide) rfl (by omega) (by omega) dX4_target_6 ?_
  exact (by first | rfl | trivial | exact zI_1 (by first | assumption | omega) | exact zI_0 (by first | assumption | omega) | (simp_all; done))
