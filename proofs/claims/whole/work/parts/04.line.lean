set_option maxHeartbeats 4000000 in
set_option maxRecDepth 100000 in
theorem c_X1_clear (l : Launch) (G : GG) (sz : Nat) (a b n : Nat) (f : Nat → Int32) : CtV l G yX1_clear wsX1_clear 0 0 0 0 sz [.ref a] [oC a 1 [.ref b, .int (nI n)], aC G b 40 f] (fun (_ : Unit) => True) (fun (_ : Unit) => [oC a 1 [.ref b, .int (nI 0)], aC G b 40 f]) := by
  refine kMet (Qc := fun A => va_Qv _ (Bw G A _) A) (cc := cX1_clear) (nL := 1) (ret := none) (by decide) rfl (Nat.le_of_ble_eq_true rfl) ?_
  intro p e s m args below meth c A Q hF hr hlk hnme hK hP hD hA hS hQ hsz ls hl
  have hl : lv_has ls 1 [(0, .ref a)] := hl
  refine lv_aload_n hF.1 hF.2.1 dX1_clear_0 rfl (lv_at hl 0 rfl) ?_
  refine lv_iconst (v := (nI 0)) hF.1 hF.2.1 dX1_clear_1 (by decide) ?_
  refine kPut (C := RX1) (T := TX1) (N := 2) (index := 15) (v := .int (nI 0)) hF hK hP hD hS (inT inBX1) tyX1_ok nmX1 0 rfl rfl 1 (by decide) rfl (List.mem_cons_of_mem _ mF_X1_15) rfl rfl rfl (Nat.le_of_ble_eq_true rfl) dX1_clear_2 (fun H locs hP hD hS => ?_)
  have hP : PG G [oC a 1 [.ref b, .int (nI 0)], aC G b 40 f] H := hP
  have hD : va_D A [oC a 1 [.ref b, .int (nI 0)], aC G b 40 f] := hD
  refine kRetV hF hr hlk hK hP hD hS hQ () [0, 1] (by decide) rfl (Nat.le_of_ble_eq_true rfl) (Nat.le_of_ble_eq_true rfl) dX1_clear_5 ?_
  exact (by first | rfl | trivial | exact zI_1 (by first | assumption | omega) | exact zI_0 (by first | assumption | omega) | (simp_all; done))
set_option maxHeartbeats 4000000 in
set_option maxRecDepth 100000 in
theorem c_X1_size (l : Launch) (G : GG) (sz : Nat) (a b n : Nat) (f : Nat → Int32) : CtI l G yX1_size wsX1_size 0 0 0 0 sz [.ref a] [oC a 1 [.ref b, .int (nI n)], aC G b 40 f] (fun r (_ : Unit) => r = (nI n)) (fun (_ : Unit) => [oC a 1 [.ref b, .int (nI n)], aC G b 40 f]) := by
  refine kMet (Qc := fun A => va_Qi _ (Bw G A _) A) (cc := cX1_size) (nL := 1) (ret := some (.int)) (by decide) rfl (Nat.le_of_ble_eq_true rfl) ?_
  intro p e s m args below meth c A Q hF hr hlk hnme hK hP hD hA hS hQ hsz ls hl
  have hl : lv_has ls 1 [(0, .ref a)] := hl
  refine lv_aload_n hF.1 hF.2.1 dX1_size_0 rfl (lv_at hl 0 rfl) ?_
  refine kGet (C := RX1) (T := TX1) (N := 2) (index := 15) hF hK hP (inT inBX1) 0 rfl rfl 1 (by decide) rfl (List.mem_cons_of_mem _ mF_X1_15) rfl dX1_size_1 ?_
  refine kRetI (v := (nI n)) hF hr hlk hK hP hD hS hQ rfl () [0, 1] (by decide) rfl (Nat.le_of_ble_eq_true rfl) (Nat.le_of_ble_eq_true rfl) dX1_size_4 ?_
  exact (by first | rfl | trivial | exact zI_1 (by first | assumption | omega) | exact zI_0 (by first | assumption | omega) | (simp_all; done))
set_option maxHeartbeats 4000000 in
set_option maxRecDepth 100000 in
theorem c_X1_isEmpty (l : Launch) (G : GG) (sz : Nat) (a b n : Nat) (f : Nat → Int32) (hn : n ≤ 40) : CtI l G yX1_isEmpty wsX1_isEmpty 0 0 0 0 sz [.ref a] [oC a 1 [.ref b, .int (nI n)], aC G b 40 f] (fun r (_ : Unit) => r = (zI (n = 0))) (fun (_ : Unit) => [oC a 1 [.ref b, .int (nI n)], aC G b 40 f]) := by
  refine kMet (Qc := fun A => va_Qi _ (Bw G A _) A) (cc := cX1_isEmpty) (nL := 1) (ret := some (.boolean)) (by decide) rfl (Nat.le_of_ble_eq_true rfl) ?_
  intro p e s m args below meth c A Q hF hr hlk hnme hK hP hD hA hS hQ hsz ls hl
  have hl : lv_has ls 1 [(0, .ref a)] := hl
  refine lv_aload_n hF.1 hF.2.1 dX1_isEmpty_0 rfl (lv_at hl 0 rfl) ?_
  refine kGet (C := RX1) (T := TX1) (N := 2) (index := 15) hF hK hP (inT inBX1) 0 rfl rfl 1 (by decide) rfl (List.mem_cons_of_mem _ mF_X1_15) rfl dX1_isEmpty_1 ?_
  refine kIfNeN (tgt := 11) hF dX1_isEmpty_4 (by decide) (by omega) (fun c_1 => ?_) (fun c_1 => ?_)
  · refine lv_iconst (v := (nI 0)) hF.1 hF.2.1 dX1_isEmpty_11 (by decide) ?_
    refine kRetI (v := (nI 0)) hF hr hlk hK hP hD hS hQ rfl () [0, 1] (by decide) rfl (Nat.le_of_ble_eq_true rfl) (Nat.le_of_ble_eq_true rfl) dX1_isEmpty_12 ?_
    exact (by first | rfl | trivial | exact zI_1 (by first | assumption | omega) | exact zI_0 (by first | assumption | omega) | (simp_all; done))
  · refine lv_iconst (v := (nI 1)) hF.1 hF.2.1 dX1_isEmpty_7 (by decide) ?_
    refine lv_goto (tgt := 12) hF.1 hF.2.1 dX1_isEmpty_8 (by decide) ?_
    refine kRetI (v := (nI 1)) hF hr hlk hK hP hD hS hQ rfl () [0, 1] (by decide) rfl (Nat.le_of_ble_eq_true rfl) (Nat.le_of_ble_eq_true rfl) dX1_isEmpty_12 ?_
    exact (by first | rfl | trivial | exact zI_1 (by first | assumption | omega) | exact zI_0 (by first | assumption | omega) | (simp_all; done))
set_option maxHeartbeats 4000000 in
set_option maxRecDepth 100000 in
theorem c_X1_hasRoom (l : Launch) (G : GG) (sz : Nat) (a b n : Nat) (f : Nat → Int32) (mr : Nat) (hn : n ≤ 40) (hm : mr ≤ 4) : CtI l G yX1_hasRoom wsX1_hasRoom 0 0 0 0 sz [.ref a, .int (nI mr)] [oC a 1 [.ref b, .int (nI n)], aC G b 40 f] (fun r (_ : Unit) => r = (zI (mr + n ≤ 40))) (fun (_ : Unit) => [oC a 1 [.ref b, .int (nI n)], aC G b 40 f]) := by
  refine kMet (Qc := fun A => va_Qi _ (Bw G A _) A) (cc := cX1_hasRoom) (nL := 2) (ret := some (.boolean)) (by decide) rfl (Nat.le_of_ble_eq_true rfl) ?_
  intro p e s m args below meth c A Q hF hr hlk hnme hK hP hD hA hS hQ hsz ls hl
  have hl : lv_has ls 2 [(0, .ref a), (1, .int (nI mr))] := hl
  refine lv_iload_n hF.1 hF.2.1 dX1_hasRoom_0 rfl (lv_at hl 1 rfl) ?_
  refine lv_bipush (v := (nI 40)) hF.1 hF.2.1 dX1_hasRoom_1 (by decide) ?_
  refine lv_aload_n hF.1 hF.2.1 dX1_hasRoom_3 rfl (lv_at hl 0 rfl) ?_
  refine kGet (C := RX1) (T := TX1) (N := 2) (index := 15) hF hK hP (inT inBX1) 0 rfl rfl 1 (by decide) rfl (List.mem_cons_of_mem _ mF_X1_15) rfl dX1_hasRoom_4 ?_
  refine lv_isub hF.1 hF.2.1 dX1_hasRoom_7 ?_
  refine kTop (y := (nI (40 - n))) (pk_sub (by omega)) ?_
  refine kGtN (tgt := 15) hF dX1_hasRoom_8 (by decide) (by omega) (by omega) (fun c_1 => ?_) (fun c_1 => ?_)
  · refine lv_iconst (v := (nI 0)) hF.1 hF.2.1 dX1_hasRoom_15 (by decide) ?_
    refine kRetI (v := (nI 0)) hF hr hlk hK hP hD hS hQ rfl () [0, 1] (by decide) rfl (Nat.le_of_ble_eq_true rfl) (Nat.le_of_ble_eq_true rfl) dX1_hasRoom_16 ?_
    exact (by first | rfl | trivial | exact zI_1 (by first | assumption | omega) | exact zI_0 (by first | assumption | omega) | (simp_all; done))
  · refine lv_iconst (v := (nI 1)) hF.1 hF.2.1 dX1_hasRoom_11 (by decide) ?_
    refine lv_goto (tgt := 16) hF.1 hF.2.1 dX1_hasRoom_12 (by decide) ?_
    refine kRetI (v := (nI 1)) hF hr hlk hK hP hD hS hQ rfl () [0, 1] (by decide) rfl (Nat.le_of_ble_eq_true rfl) (Nat.le_of_ble_eq_true rfl) dX1_hasRoom_16 ?_
    exact (by first | rfl | trivial | exact zI_1 (by first | assumption | omega) | exact zI_0 (by first | assumption | omega) | (simp_all; done))
set_option maxHeartbeats 4000000 in
set_option maxRecDepth 100000 in
theorem c_X1_append (l : Launch) (G : GG) (sz : Nat) (a b n : Nat) (f : Nat → Int32) (ch : Int32) (hn : n < 40) (hc : okC ch) : CtV l G yX1_append wsX1_append 0 0 0 0 sz [.ref a, .int ch] [oC a 1 [.ref b, .int (nI n)], aC G b 40 f] (fun (_ : Unit) => True) (fun (_ : Unit) => [oC a 1 [.ref b, .int (nI (n + 1))], aC G b 40 (upd f n ch)]) := by
  refine kMet (Qc := fun A => va_Qv _ (Bw G A _) A) (cc := cX1_append) (nL := 2) (ret := none) (by decide) rfl (Nat.le_of_ble_eq_true rfl) ?_
  intro p e s m args below meth c A Q hF hr hlk hnme hK hP hD hA hS hQ hsz ls hl
  have hl : lv_has ls 2 [(0, .ref a), (1, .int ch)] := hl
  refine lv_aload_n hF.1 hF.2.1 dX1_append_0 rfl (lv_at hl 0 rfl) ?_
  refine kGet (C := RX1) (T := TX1) (N := 2) (index := 15) hF hK hP (inT inBX1) 0 rfl rfl 1 (by decide) rfl (List.mem_cons_of_mem _ mF_X1_15) rfl dX1_append_1 ?_
  refine lv_bipush (v := (nI 40)) hF.1 hF.2.1 dX1_append_4 (by decide) ?_
  refine kGeN (tgt := 29) hF dX1_append_6 (by decide) (by omega) (by omega) (fun c_1 => ?_) (fun c_1 => ?_)
  · exfalso; omega
  · refine lv_aload_n hF.1 hF.2.1 dX1_append_9 rfl (lv_at hl 0 rfl) ?_
    refine kGet (C := RX1) (T := TX1) (N := 2) (index := 9) hF hK hP (inT inBX1) 0 rfl rfl 0 (by decide) rfl (List.mem_cons_of_mem _ mF_X1_9) rfl dX1_append_10 ?_
    refine lv_aload_n hF.1 hF.2.1 dX1_append_13 rfl (lv_at hl 0 rfl) ?_
    refine kGet (C := RX1) (T := TX1) (N := 2) (index := 15) hF hK hP (inT inBX1) 0 rfl rfl 1 (by decide) rfl (List.mem_cons_of_mem _ mF_X1_15) rfl dX1_append_14 ?_
    refine lv_iload_n hF.1 hF.2.1 dX1_append_17 rfl (lv_at hl 1 rfl) ?_
    refine kCastN hF hK hP hD hS 1 rfl (okC_nar hc) (by omega) (by decide) dX1_append_18 (fun H locs hP hD hS => ?_)
    have hP : PG G [oC a 1 [.ref b, .int (nI n)], aC G b 40 (upd f n ch)] H := hP
    have hD : va_D A [oC a 1 [.ref b, .int (nI n)], aC G b 40 (upd f n ch)] := hD
    refine lv_aload_n hF.1 hF.2.1 dX1_append_19 rfl (lv_at hl 0 rfl) ?_
    refine lv_dup hF.1 hF.2.1 dX1_append_20 rfl ?_
    refine kGet (C := RX1) (T := TX1) (N := 2) (index := 15) hF hK hP (inT inBX1) 0 rfl rfl 1 (by decide) rfl (List.mem_cons_of_mem _ mF_X1_15) rfl dX1_append_21 ?_
    refine lv_iconst (v := (nI 1)) hF.1 hF.2.1 dX1_append_24 (by decide) ?_
    refine lv_iadd hF.1 hF.2.1 dX1_append_25 ?_
    refine kTop (y := (nI (n + 1))) (nI_add _ _) ?_
    refine kPut (C := RX1) (T := TX1) (N := 2) (index := 15) (v := .int (nI (n + 1))) hF hK hP hD hS (inT inBX1) tyX1_ok nmX1 0 rfl rfl 1 (by decide) rfl (List.mem_cons_of_mem _ mF_X1_15) rfl rfl rfl (Nat.le_of_ble_eq_true rfl) dX1_append_26 (fun H locs hP hD hS => ?_)
    have hP : PG G [oC a 1 [.ref b, .int (nI (n + 1))], aC G b 40 (upd f n ch)] H := hP
    have hD : va_D A [oC a 1 [.ref b, .int (nI (n + 1))], aC G b 40 (upd f n ch)] := hD
    refine kRetV hF hr hlk hK hP hD hS hQ () [0, 1] (by decide) rfl (Nat.le_of_ble_eq_true rfl) (Nat.le_of_ble_eq_true rfl) dX1_append_29 ?_
    exact (by first | rfl | trivial | exact zI_1 (by first | assumption | omega) | exact zI_0 (by first | assumption | omega) | (simp_all; done))
set_option maxHeartbeats 4000000 in
set_option maxRecDepth 100000 in
theorem c_X1_mark (l : Launch) (G : GG) (sz : Nat) (a b n : Nat) (f : Nat → Int32) (k : Nat) (hn : n ≤ 40) (hk : k < n) (hf : ∀ j, okC (f j)) : CtI l G yX1_mark wsX1_mark 0 0 0 0 sz [.ref a, .int (nI k)] [oC a 1 [.ref b, .int (nI n)], aC G b 40 f] (fun r (_ : Unit) => r = (f k)) (fun (_ : Unit) => [oC a 1 [.ref b, .int (nI n)], aC G b 40 f]) := by
  refine kMet (Qc := fun A => va_Qi _ (Bw G A _) A) (cc := cX1_mark) (nL := 2) (ret := some (.char)) (by decide) rfl (Nat.le_of_ble_eq_true rfl) ?_
  intro p e s m args below meth c A Q hF hr hlk hnme hK hP hD hA hS hQ hsz ls hl
  have hl : lv_has ls 2 [(0, .ref a), (1, .int (nI k))] := hl
  refine lv_iload_n hF.1 hF.2.1 dX1_mark_0 rfl (lv_at hl 1 rfl) ?_
  refine kIfLtN (tgt := 21) hF dX1_mark_1 (by decide) (by omega) ?_
  refine lv_iload_n hF.1 hF.2.1 dX1_mark_4 rfl (lv_at hl 1 rfl) ?_
  refine lv_aload_n hF.1 hF.2.1 dX1_mark_5 rfl (lv_at hl 0 rfl) ?_
  refine kGet (C := RX1) (T := TX1) (N := 2) (index := 15) hF hK hP (inT inBX1) 0 rfl rfl 1 (by decide) rfl (List.mem_cons_of_mem _ mF_X1_15) rfl dX1_mark_6 ?_
  refine kGeN (tgt := 21) hF dX1_mark_9 (by decide) (by omega) (by omega) (fun c_1 => ?_) (fun c_1 => ?_)
  · exfalso; omega
  · refine lv_aload_n hF.1 hF.2.1 dX1_mark_12 rfl (lv_at hl 0 rfl) ?_
    refine kGet (C := RX1) (T := TX1) (N := 2) (index := 9) hF hK hP (inT inBX1) 0 rfl rfl 0 (by decide) rfl (List.mem_cons_of_mem _ mF_X1_9) rfl dX1_mark_13 ?_
    refine lv_iload_n hF.1 hF.2.1 dX1_mark_16 rfl (lv_at hl 1 rfl) ?_
    refine kCaldN hF hK hP 1 rfl (by omega) (by decide) dX1_mark_17 ?_
    refine lv_goto (tgt := 22) hF.1 hF.2.1 dX1_mark_18 (by decide) ?_
    refine kRetI (v := (f k)) hF hr hlk hK hP hD hS hQ (okC_cn (hf _)) () [0, 1] (by decide) rfl (Nat.le_of_ble_eq_true rfl) (Nat.le_of_ble_eq_true rfl) dX1_mark_22 ?_
    exact (by first | rfl | trivial | exact zI_1 (by first | assumption | omega) | exact zI_0 (by first | assumption | omega) | (simp_all; done))
set_option maxHeartbeats 4000000 in
set_option maxRecDepth 100000 in
theorem c_X1_hasSlashesAlone (l : Launch) (G : GG) (sz : Nat) (a b n : Nat) (f : Nat → Int32) (hn : n ≤ 40) : CtI l G yX1_hasSlashesAlone wsX1_hasSlashesAlone 0 0 0 0 sz [.ref a] [oC a 1 [.ref b, .int (nI n)], aC G b 40 f] (fun r (_ : Unit) => r = (zI (scan (isS f) n 0 = n))) (fun (_ : Unit) => [oC a 1 [.ref b, .int (nI n)], aC G b 40 f]) := by
  refine kMet (Qc := fun A => va_Qi _ (Bw G A _) A) (cc := cX1_hasSlashesAlone) (nL := 2) (ret := some (.boolean)) (by decide) rfl (Nat.le_of_ble_eq_true rfl) ?_
  intro p e s m args below meth c A Q hF hr hlk hnme hK hP hD hA hS hQ hsz ls hl
  have hl : lv_has ls 2 [(0, .ref a)] := hl
  refine lv_iconst (v := (nI 0)) hF.1 hF.2.1 dX1_hasSlashesAlone_0 (by decide) ?_
  refine lv_istore_n (lv' := [(1, .int (nI 0)), (0, .ref a)]) hF.1 hF.2.1 dX1_hasSlashesAlone_1 rfl hl (by decide) rfl (fun ls hl => ?_)
  have loop_2 : ∀ (n_2 : Nat) (k : Nat), n - k < n_2 → (k ≤ n) → (scan (isS f) (n - k) k = scan (isS f) n 0) → ∀ (H : Heap) (locs : List Loc) (ls : Array Slot), PG G [oC a 1 [.ref b, .int (nI n)], aC G b 40 f] H → va_D A [oC a 1 [.ref b, .int (nI n)], aC G b 40 f] → va_S A s.heap H locs → lv_has ls 2 [(1, .int (nI k)), (0, .ref a)] → W p l e (Rm 0 0 0 0) s m args below meth c H locs 0 0 Q (F0 m 2 ls []) := by
    intro n_2
    induction n_2 with
    | zero => intro k hm; exact absurd hm (Nat.not_lt_zero _)
    | succ n_2 ih_2 =>
      intro k hm_2 hk hR H locs ls hP hD hS hl
      refine lv_iload_n hF.1 hF.2.1 dX1_hasSlashesAlone_2 rfl (lv_at hl 0 rfl) ?_
      refine lv_aload_n hF.1 hF.2.1 dX1_hasSlashesAlone_3 rfl (lv_at hl 1 rfl) ?_
      refine kGet (C := RX1) (T := TX1) (N := 2) (index := 15) hF hK hP (inT inBX1) 0 rfl rfl 1 (by decide) rfl (List.mem_cons_of_mem _ mF_X1_15) rfl dX1_hasSlashesAlone_4 ?_
      refine kGeN (tgt := 29) hF dX1_hasSlashesAlone_7 (by decide) (by omega) (by omega) (fun c_1 => ?_) (fun c_1 => ?_)
      · refine lv_iconst (v := (nI 1)) hF.1 hF.2.1 dX1_hasSlashesAlone_29 (by decide) ?_
        refine kRetI (v := (nI 1)) hF hr hlk hK hP hD hS hQ rfl () [0, 1] (by decide) rfl (Nat.le_of_ble_eq_true rfl) (Nat.le_of_ble_eq_true rfl) dX1_hasSlashesAlone_30 ?_
        exact zI_1 (by rw [← hR, scan_e (by omega)]; omega)
      · refine lv_aload_n hF.1 hF.2.1 dX1_hasSlashesAlone_10 rfl (lv_at hl 1 rfl) ?_
        refine kGet (C := RX1) (T := TX1) (N := 2) (index := 9) hF hK hP (inT inBX1) 0 rfl rfl 0 (by decide) rfl (List.mem_cons_of_mem _ mF_X1_9) rfl dX1_hasSlashesAlone_11 ?_
        refine lv_iload_n hF.1 hF.2.1 dX1_hasSlashesAlone_14 rfl (lv_at hl 0 rfl) ?_
        refine kCaldN hF hK hP 1 rfl (by omega) (by decide) dX1_hasSlashesAlone_15 ?_
        refine lv_bipush (v := (nI 47)) hF.1 hF.2.1 dX1_hasSlashesAlone_16 (by decide) ?_
        refine lv_icmp_eq (tgt := 23) hF.1 hF.2.1 dX1_hasSlashesAlone_18 (by decide) (fun c_2 => ?_) (fun c_2 => ?_)
        · refine lv_iinc (v := (nI (k + 1))) (lv' := [(1, .int (nI (k + 1))), (0, .ref a)]) hF.1 hF.2.1 dX1_hasSlashesAlone_23 hl (k := 0) rfl (nI_inc1 _) (by decide) rfl (fun ls hl => ?_)
          refine lv_goto (tgt := 2) hF.1 hF.2.1 dX1_hasSlashesAlone_26 (by decide) ?_
          exact ih_2 (k + 1) (by omega) (by first | assumption | omega) (by rw [← hR]; exact (scan_t (by omega) (decide_eq_true (by assumption))).symm) H locs ls hP hD hS (lv_sub hl [0, 1] rfl)
        · refine lv_iconst (v := (nI 0)) hF.1 hF.2.1 dX1_hasSlashesAlone_21 (by decide) ?_
          refine kRetI (v := (nI 0)) hF hr hlk hK hP hD hS hQ rfl () [0, 1] (by decide) rfl (Nat.le_of_ble_eq_true rfl) (Nat.le_of_ble_eq_true rfl) dX1_hasSlashesAlone_22 ?_
          exact zI_0 (by rw [← hR, scan_f (by omega) (decide_eq_false (by assumption))]; omega)
  exact loop_2 _ 0 (Nat.lt_succ_self _) (by first | assumption | omega) (rfl) _ _ _ hP hD hS (lv_sub hl [0, 1] rfl)
