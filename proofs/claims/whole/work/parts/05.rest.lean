set_option maxHeartbeats 4000000 in
set_option maxRecDepth 100000 in
theorem c_X2_clear (l : Launch) (G : GG) (sz : Nat) (a b st : Nat) (f : Nat → Int32) : CtV l G yX2_clear wsX2_clear 0 0 0 0 sz [.ref a] [oC a 2 [.ref b, .int (nI st)], aC G b 60 f] (fun (_ : Unit) => True) (fun (_ : Unit) => [oC a 2 [.ref b, .int (nI 60)], aC G b 60 f]) := by
  refine kMet (Qc := fun A => va_Qv _ (Bw G A _) A) (cc := cX2_clear) (nL := 1) (ret := none) (by decide) rfl (Nat.le_of_ble_eq_true rfl) ?_
  intro p e s m args below meth c A Q hF hr hlk hnme hK hP hD hA hS hQ hsz ls hl
  have hl : lv_has ls 1 [(0, .ref a)] := hl
  refine lv_aload_n hF.1 hF.2.1 dX2_clear_0 rfl (lv_at hl 0 rfl) ?_
  refine lv_bipush (v := (nI 60)) hF.1 hF.2.1 dX2_clear_1 (by decide) ?_
  refine kPut (C := RX2) (T := TX2) (N := 2) (index := 15) (v := .int (nI 60)) hF hK hP hD hS (inT inBX2) tyX2_ok nmX2 0 rfl rfl 1 (by decide) rfl (List.mem_cons_of_mem _ mF_X2_15) rfl rfl rfl (Nat.le_of_ble_eq_true rfl) dX2_clear_3 (fun H locs hP hD hS => ?_)
  have hP : PG G [oC a 2 [.ref b, .int (nI 60)], aC G b 60 f] H := hP
  have hD : va_D A [oC a 2 [.ref b, .int (nI 60)], aC G b 60 f] := hD
  refine kRetV hF hr hlk hK hP hD hS hQ () [0, 1] (by decide) rfl (Nat.le_of_ble_eq_true rfl) (Nat.le_of_ble_eq_true rfl) dX2_clear_6 ?_
  exact (by first | rfl | trivial | exact zI_1 (by first | assumption | omega) | exact zI_0 (by first | assumption | omega) | (simp_all; done))
set_option maxHeartbeats 4000000 in
set_option maxRecDepth 100000 in
theorem c_X2_size (l : Launch) (G : GG) (sz : Nat) (a b st : Nat) (f : Nat → Int32) (hs : st ≤ 60) : CtI l G yX2_size wsX2_size 0 0 0 0 sz [.ref a] [oC a 2 [.ref b, .int (nI st)], aC G b 60 f] (fun r (_ : Unit) => r = (nI (60 - st))) (fun (_ : Unit) => [oC a 2 [.ref b, .int (nI st)], aC G b 60 f]) := by
  refine kMet (Qc := fun A => va_Qi _ (Bw G A _) A) (cc := cX2_size) (nL := 1) (ret := some (.int)) (by decide) rfl (Nat.le_of_ble_eq_true rfl) ?_
  intro p e s m args below meth c A Q hF hr hlk hnme hK hP hD hA hS hQ hsz ls hl
  have hl : lv_has ls 1 [(0, .ref a)] := hl
  refine lv_bipush (v := (nI 60)) hF.1 hF.2.1 dX2_size_0 (by decide) ?_
  refine lv_aload_n hF.1 hF.2.1 dX2_size_2 rfl (lv_at hl 0 rfl) ?_
  refine kGet (C := RX2) (T := TX2) (N := 2) (index := 15) hF hK hP (inT inBX2) 0 rfl rfl 1 (by decide) rfl (List.mem_cons_of_mem _ mF_X2_15) rfl dX2_size_3 ?_
  refine lv_isub hF.1 hF.2.1 dX2_size_6 ?_
  refine kTop (y := (nI (60 - st))) (pk_sub (by omega)) ?_
  refine kRetI (v := (nI (60 - st))) hF hr hlk hK hP hD hS hQ rfl () [0, 1] (by decide) rfl (Nat.le_of_ble_eq_true rfl) (Nat.le_of_ble_eq_true rfl) dX2_size_7 ?_
  exact (by first | rfl | trivial | exact zI_1 (by first | assumption | omega) | exact zI_0 (by first | assumption | omega) | (simp_all; done))
set_option maxHeartbeats 4000000 in
set_option maxRecDepth 100000 in
theorem c_X2_isEmpty (l : Launch) (G : GG) (sz : Nat) (a b st : Nat) (f : Nat → Int32) (hs : st ≤ 60) : CtI l G yX2_isEmpty wsX2_isEmpty 0 0 0 0 sz [.ref a] [oC a 2 [.ref b, .int (nI st)], aC G b 60 f] (fun r (_ : Unit) => r = (zI (60 ≤ st))) (fun (_ : Unit) => [oC a 2 [.ref b, .int (nI st)], aC G b 60 f]) := by
  refine kMet (Qc := fun A => va_Qi _ (Bw G A _) A) (cc := cX2_isEmpty) (nL := 1) (ret := some (.boolean)) (by decide) rfl (Nat.le_of_ble_eq_true rfl) ?_
  intro p e s m args below meth c A Q hF hr hlk hnme hK hP hD hA hS hQ hsz ls hl
  have hl : lv_has ls 1 [(0, .ref a)] := hl
  refine lv_aload_n hF.1 hF.2.1 dX2_isEmpty_0 rfl (lv_at hl 0 rfl) ?_
  refine kGet (C := RX2) (T := TX2) (N := 2) (index := 15) hF hK hP (inT inBX2) 0 rfl rfl 1 (by decide) rfl (List.mem_cons_of_mem _ mF_X2_15) rfl dX2_isEmpty_1 ?_
  refine lv_bipush (v := (nI 60)) hF.1 hF.2.1 dX2_isEmpty_4 (by decide) ?_
  refine kLtN (tgt := 13) hF dX2_isEmpty_6 (by decide) (by omega) (by omega) (fun c_1 => ?_) (fun c_1 => ?_)
  · refine lv_iconst (v := (nI 0)) hF.1 hF.2.1 dX2_isEmpty_13 (by decide) ?_
    refine kRetI (v := (nI 0)) hF hr hlk hK hP hD hS hQ rfl () [0, 1] (by decide) rfl (Nat.le_of_ble_eq_true rfl) (Nat.le_of_ble_eq_true rfl) dX2_isEmpty_14 ?_
    exact (by first | rfl | trivial | exact zI_1 (by first | assumption | omega) | exact zI_0 (by first | assumption | omega) | (simp_all; done))
  · refine lv_iconst (v := (nI 1)) hF.1 hF.2.1 dX2_isEmpty_9 (by decide) ?_
    refine lv_goto (tgt := 14) hF.1 hF.2.1 dX2_isEmpty_10 (by decide) ?_
    refine kRetI (v := (nI 1)) hF hr hlk hK hP hD hS hQ rfl () [0, 1] (by decide) rfl (Nat.le_of_ble_eq_true rfl) (Nat.le_of_ble_eq_true rfl) dX2_isEmpty_14 ?_
    exact (by first | rfl | trivial | exact zI_1 (by first | assumption | omega) | exact zI_0 (by first | assumption | omega) | (simp_all; done))
set_option maxHeartbeats 4000000 in
set_option maxRecDepth 100000 in
theorem c_X2_beginsWithSlash (l : Launch) (G : GG) (sz : Nat) (a b st : Nat) (f : Nat → Int32) (hs : st ≤ 60) : CtI l G yX2_beginsWithSlash wsX2_beginsWithSlash 0 0 0 0 sz [.ref a] [oC a 2 [.ref b, .int (nI st)], aC G b 60 f] (fun r (_ : Unit) => r = (zI (st < 60 ∧ f st = nI 47))) (fun (_ : Unit) => [oC a 2 [.ref b, .int (nI st)], aC G b 60 f]) := by
  refine kMet (Qc := fun A => va_Qi _ (Bw G A _) A) (cc := cX2_beginsWithSlash) (nL := 1) (ret := some (.boolean)) (by decide) rfl (Nat.le_of_ble_eq_true rfl) ?_
  intro p e s m args below meth c A Q hF hr hlk hnme hK hP hD hA hS hQ hsz ls hl
  have hl : lv_has ls 1 [(0, .ref a)] := hl
  refine lv_aload_n hF.1 hF.2.1 dX2_beginsWithSlash_0 rfl (lv_at hl 0 rfl) ?_
  refine kGet (C := RX2) (T := TX2) (N := 2) (index := 15) hF hK hP (inT inBX2) 0 rfl rfl 1 (by decide) rfl (List.mem_cons_of_mem _ mF_X2_15) rfl dX2_beginsWithSlash_1 ?_
  refine lv_bipush (v := (nI 60)) hF.1 hF.2.1 dX2_beginsWithSlash_4 (by decide) ?_
  refine kGeN (tgt := 27) hF dX2_beginsWithSlash_6 (by decide) (by omega) (by omega) (fun c_1 => ?_) (fun c_1 => ?_)
  · refine lv_iconst (v := (nI 0)) hF.1 hF.2.1 dX2_beginsWithSlash_27 (by decide) ?_
    refine kRetI (v := (nI 0)) hF hr hlk hK hP hD hS hQ rfl () [0, 1] (by decide) rfl (Nat.le_of_ble_eq_true rfl) (Nat.le_of_ble_eq_true rfl) dX2_beginsWithSlash_28 ?_
    exact zI_0 (fun h => by first | exact absurd h.2 (by assumption) | omega)
  · refine lv_aload_n hF.1 hF.2.1 dX2_beginsWithSlash_9 rfl (lv_at hl 0 rfl) ?_
    refine kGet (C := RX2) (T := TX2) (N := 2) (index := 9) hF hK hP (inT inBX2) 0 rfl rfl 0 (by decide) rfl (List.mem_cons_of_mem _ mF_X2_9) rfl dX2_beginsWithSlash_10 ?_
    refine lv_aload_n hF.1 hF.2.1 dX2_beginsWithSlash_13 rfl (lv_at hl 0 rfl) ?_
    refine kGet (C := RX2) (T := TX2) (N := 2) (index := 15) hF hK hP (inT inBX2) 0 rfl rfl 1 (by decide) rfl (List.mem_cons_of_mem _ mF_X2_15) rfl dX2_beginsWithSlash_14 ?_
    refine kCaldN hF hK hP 1 rfl (by omega) (by decide) dX2_beginsWithSlash_17 ?_
    refine lv_bipush (v := (nI 47)) hF.1 hF.2.1 dX2_beginsWithSlash_18 (by decide) ?_
    refine lv_icmp_ne (tgt := 27) hF.1 hF.2.1 dX2_beginsWithSlash_20 (by decide) (fun c_2 => ?_) (fun c_2 => ?_)
    · refine lv_iconst (v := (nI 0)) hF.1 hF.2.1 dX2_beginsWithSlash_27 (by decide) ?_
      refine kRetI (v := (nI 0)) hF hr hlk hK hP hD hS hQ rfl () [0, 1] (by decide) rfl (Nat.le_of_ble_eq_true rfl) (Nat.le_of_ble_eq_true rfl) dX2_beginsWithSlash_28 ?_
      exact zI_0 (fun h => by first | exact absurd h.2 (by assumption) | omega)
    · refine lv_iconst (v := (nI 1)) hF.1 hF.2.1 dX2_beginsWithSlash_23 (by decide) ?_
      refine lv_goto (tgt := 28) hF.1 hF.2.1 dX2_beginsWithSlash_24 (by decide) ?_
      refine kRetI (v := (nI 1)) hF hr hlk hK hP hD hS hQ rfl () [0, 1] (by decide) rfl (Nat.le_of_ble_eq_true rfl) (Nat.le_of_ble_eq_true rfl) dX2_beginsWithSlash_28 ?_
      exact zI_1 ⟨by omega, by assumption⟩
set_option maxHeartbeats 4000000 in
set_option maxRecDepth 100000 in
theorem c_X2_hasSlashesAlone (l : Launch) (G : GG) (sz : Nat) (a b st : Nat) (f : Nat → Int32) (hs : st ≤ 60) : CtI l G yX2_hasSlashesAlone wsX2_hasSlashesAlone 0 0 0 0 sz [.ref a] [oC a 2 [.ref b, .int (nI st)], aC G b 60 f] (fun r (_ : Unit) => r = (zI (scan (isS f) (60 - st) st = 60))) (fun (_ : Unit) => [oC a 2 [.ref b, .int (nI st)], aC G b 60 f]) := by
  refine kMet (Qc := fun A => va_Qi _ (Bw G A _) A) (cc := cX2_hasSlashesAlone) (nL := 2) (ret := some (.boolean)) (by decide) rfl (Nat.le_of_ble_eq_true rfl) ?_
  intro p e s m args below meth c A Q hF hr hlk hnme hK hP hD hA hS hQ hsz ls hl
  have hl : lv_has ls 2 [(0, .ref a)] := hl
  refine lv_aload_n hF.1 hF.2.1 dX2_hasSlashesAlone_0 rfl (lv_at hl 0 rfl) ?_
  refine kGet (C := RX2) (T := TX2) (N := 2) (index := 15) hF hK hP (inT inBX2) 0 rfl rfl 1 (by decide) rfl (List.mem_cons_of_mem _ mF_X2_15) rfl dX2_hasSlashesAlone_1 ?_
  refine lv_istore_n (lv' := [(1, .int (nI st)), (0, .ref a)]) hF.1 hF.2.1 dX2_hasSlashesAlone_4 rfl hl (by decide) rfl (fun ls hl => ?_)
  have loop_5 : ∀ (n_5 : Nat) (k : Nat), 60 - k < n_5 → (k ≤ 60) → (scan (isS f) (60 - k) k = scan (isS f) (60 - st) st) → ∀ (H : Heap) (locs : List Loc) (ls : Array Slot), PG G [oC a 2 [.ref b, .int (nI st)], aC G b 60 f] H → va_D A [oC a 2 [.ref b, .int (nI st)], aC G b 60 f] → va_S A s.heap H locs → lv_has ls 2 [(1, .int (nI k)), (0, .ref a)] → W p l e (Rm 0 0 0 0) s m args below meth c H locs 0 0 Q (F0 m 5 ls []) := by
    intro n_5
    induction n_5 with
    | zero => intro k hm; exact absurd hm (Nat.not_lt_zero _)
    | succ n_5 ih_5 =>
      intro k hm_5 hk hR H locs ls hP hD hS hl
      refine lv_iload_n hF.1 hF.2.1 dX2_hasSlashesAlone_5 rfl (lv_at hl 0 rfl) ?_
      refine lv_bipush (v := (nI 60)) hF.1 hF.2.1 dX2_hasSlashesAlone_6 (by decide) ?_
      refine kGeN (tgt := 30) hF dX2_hasSlashesAlone_8 (by decide) (by omega) (by omega) (fun c_1 => ?_) (fun c_1 => ?_)
      · refine lv_iconst (v := (nI 1)) hF.1 hF.2.1 dX2_hasSlashesAlone_30 (by decide) ?_
        refine kRetI (v := (nI 1)) hF hr hlk hK hP hD hS hQ rfl () [0, 1] (by decide) rfl (Nat.le_of_ble_eq_true rfl) (Nat.le_of_ble_eq_true rfl) dX2_hasSlashesAlone_31 ?_
        exact zI_1 (by rw [← hR, scan_e (by omega)]; omega)
      · refine lv_aload_n hF.1 hF.2.1 dX2_hasSlashesAlone_11 rfl (lv_at hl 1 rfl) ?_
        refine kGet (C := RX2) (T := TX2) (N := 2) (index := 9) hF hK hP (inT inBX2) 0 rfl rfl 0 (by decide) rfl (List.mem_cons_of_mem _ mF_X2_9) rfl dX2_hasSlashesAlone_12 ?_
        refine lv_iload_n hF.1 hF.2.1 dX2_hasSlashesAlone_15 rfl (lv_at hl 0 rfl) ?_
        refine kCaldN hF hK hP 1 rfl (by omega) (by decide) dX2_hasSlashesAlone_16 ?_
        refine lv_bipush (v := (nI 47)) hF.1 hF.2.1 dX2_hasSlashesAlone_17 (by decide) ?_
        refine lv_icmp_eq (tgt := 24) hF.1 hF.2.1 dX2_hasSlashesAlone_19 (by decide) (fun c_2 => ?_) (fun c_2 => ?_)
        · refine lv_iinc (v := (nI (k + 1))) (lv' := [(1, .int (nI (k + 1))), (0, .ref a)]) hF.1 hF.2.1 dX2_hasSlashesAlone_24 hl (k := 0) rfl (nI_inc1 _) (by decide) rfl (fun ls hl => ?_)
          refine lv_goto (tgt := 5) hF.1 hF.2.1 dX2_hasSlashesAlone_27 (by decide) ?_
          exact ih_5 (k + 1) (by omega) (by first | assumption | omega) (by rw [← hR]; exact (scan_t (by omega) (decide_eq_true (by assumption))).symm) H locs ls hP hD hS (lv_sub hl [0, 1] rfl)
        · refine lv_iconst (v := (nI 0)) hF.1 hF.2.1 dX2_hasSlashesAlone_22 (by decide) ?_
          refine kRetI (v := (nI 0)) hF hr hlk hK hP hD hS hQ rfl () [0, 1] (by decide) rfl (Nat.le_of_ble_eq_true rfl) (Nat.le_of_ble_eq_true rfl) dX2_hasSlashesAlone_23 ?_
          exact zI_0 (by rw [← hR, scan_f (by omega) (decide_eq_false (by assumption))]; omega)
  exact loop_5 _ st (Nat.lt_succ_self _) (by first | assumption | omega) (rfl) _ _ _ hP hD hS (lv_sub hl [0, 1] rfl)
set_option maxHeartbeats 4000000 in
set_option maxRecDepth 100000 in
theorem c_X2_take (l : Launch) (G : GG) (sz : Nat) (a b st : Nat) (f : Nat → Int32) (hs : st < 60) (hf : ∀ j, okC (f j)) : CtI l G yX2_take wsX2_take 0 0 0 0 sz [.ref a] [oC a 2 [.ref b, .int (nI st)], aC G b 60 f] (fun r (_ : Unit) => r = (f st)) (fun (_ : Unit) => [oC a 2 [.ref b, .int (nI (st + 1))], aC G b 60 f]) := by
  refine kMet (Qc := fun A => va_Qi _ (Bw G A _) A) (cc := cX2_take) (nL := 2) (ret := some (.char)) (by decide) rfl (Nat.le_of_ble_eq_true rfl) ?_
  intro p e s m args below meth c A Q hF hr hlk hnme hK hP hD hA hS hQ hsz ls hl
  have hl : lv_has ls 2 [(0, .ref a)] := hl
  refine lv_aload_n hF.1 hF.2.1 dX2_take_0 rfl (lv_at hl 0 rfl) ?_
  refine kGet (C := RX2) (T := TX2) (N := 2) (index := 15) hF hK hP (inT inBX2) 0 rfl rfl 1 (by decide) rfl (List.mem_cons_of_mem _ mF_X2_15) rfl dX2_take_1 ?_
  refine lv_bipush (v := (nI 60)) hF.1 hF.2.1 dX2_take_4 (by decide) ?_
  refine kLtN (tgt := 11) hF dX2_take_6 (by decide) (by omega) (by omega) (fun c_1 => ?_) (fun c_1 => ?_)
  · refine lv_aload_n hF.1 hF.2.1 dX2_take_11 rfl (lv_at hl 0 rfl) ?_
    refine kGet (C := RX2) (T := TX2) (N := 2) (index := 9) hF hK hP (inT inBX2) 0 rfl rfl 0 (by decide) rfl (List.mem_cons_of_mem _ mF_X2_9) rfl dX2_take_12 ?_
    refine lv_aload_n hF.1 hF.2.1 dX2_take_15 rfl (lv_at hl 0 rfl) ?_
    refine kGet (C := RX2) (T := TX2) (N := 2) (index := 15) hF hK hP (inT inBX2) 0 rfl rfl 1 (by decide) rfl (List.mem_cons_of_mem _ mF_X2_15) rfl dX2_take_16 ?_
    refine kCaldN hF hK hP 1 rfl (by omega) (by decide) dX2_take_19 ?_
    refine lv_istore_n (lv' := [(1, .int (f st)), (0, .ref a)]) hF.1 hF.2.1 dX2_take_20 rfl hl (by decide) rfl (fun ls hl => ?_)
    refine lv_aload_n hF.1 hF.2.1 dX2_take_21 rfl (lv_at hl 1 rfl) ?_
    refine lv_dup hF.1 hF.2.1 dX2_take_22 rfl ?_
    refine kGet (C := RX2) (T := TX2) (N := 2) (index := 15) hF hK hP (inT inBX2) 0 rfl rfl 1 (by decide) rfl (List.mem_cons_of_mem _ mF_X2_15) rfl dX2_take_23 ?_
    refine lv_iconst (v := (nI 1)) hF.1 hF.2.1 dX2_take_26 (by decide) ?_
    refine lv_iadd hF.1 hF.2.1 dX2_take_27 ?_
    refine kTop (y := (nI (st + 1))) (nI_add _ _) ?_
    refine kPut (C := RX2) (T := TX2) (N := 2) (index := 15) (v := .int (nI (st + 1))) hF hK hP hD hS (inT inBX2) tyX2_ok nmX2 0 rfl rfl 1 (by decide) rfl (List.mem_cons_of_mem _ mF_X2_15) rfl rfl rfl (Nat.le_of_ble_eq_true rfl) dX2_take_28 (fun H locs hP hD hS => ?_)
    have hP : PG G [oC a 2 [.ref b, .int (nI (st + 1))], aC G b 60 f] H := hP
    have hD : va_D A [oC a 2 [.ref b, .int (nI (st + 1))], aC G b 60 f] := hD
    refine lv_iload_n hF.1 hF.2.1 dX2_take_31 rfl (lv_at hl 0 rfl) ?_
    refine kRetI (v := (f st)) hF hr hlk hK hP hD hS hQ (okC_cn (hf _)) () [0, 1] (by decide) rfl (Nat.le_of_ble_eq_true rfl) (Nat.le_of_ble_eq_true rfl) dX2_take_32 ?_
    exact (by first | rfl | trivial | exact zI_1 (by first | assumption | omega) | exact zI_0 (by first | assumption | omega) | (simp_all; done))
  · exfalso; omega
set_option maxHeartbeats 4000000 in
set_option maxRecDepth 100000 in
theorem c_X2_putBefore (l : Launch) (G : GG) (sz : Nat) (a b st : Nat) (f : Nat → Int32) (ch : Int32) (hs : st ≤ 60) (h0 : 0 < st) (hc : okC ch) : CtV l G yX2_putBefore wsX2_putBefore 0 0 0 0 sz [.ref a, .int ch] [oC a 2 [.ref b, .int (nI st)], aC G b 60 f] (fun (_ : Unit) => True) (fun (_ : Unit) => [oC a 2 [.ref b, .int (nI (st - 1))], aC G b 60 (upd f (st - 1) ch)]) := by
  refine kMet (Qc := fun A => va_Qv _ (Bw G A _) A) (cc := cX2_putBefore) (nL := 2) (ret := none) (by decide) rfl (Nat.le_of_ble_eq_true rfl) ?_
  intro p e s m args below meth c A Q hF hr hlk hnme hK hP hD hA hS hQ hsz ls hl
  have hl : lv_has ls 2 [(0, .ref a), (1, .int ch)] := hl
  refine lv_aload_n hF.1 hF.2.1 dX2_putBefore_0 rfl (lv_at hl 0 rfl) ?_
  refine kGet (C := RX2) (T := TX2) (N := 2) (index := 15) hF hK hP (inT inBX2) 0 rfl rfl 1 (by decide) rfl (List.mem_cons_of_mem _ mF_X2_15) rfl dX2_putBefore_1 ?_
  refine kIfLeN (tgt := 27) hF dX2_putBefore_4 (by decide) (by omega) (fun c_1 => ?_) (fun c_1 => ?_)
  · exfalso; omega
  · refine lv_aload_n hF.1 hF.2.1 dX2_putBefore_7 rfl (lv_at hl 0 rfl) ?_
    refine lv_dup hF.1 hF.2.1 dX2_putBefore_8 rfl ?_
    refine kGet (C := RX2) (T := TX2) (N := 2) (index := 15) hF hK hP (inT inBX2) 0 rfl rfl 1 (by decide) rfl (List.mem_cons_of_mem _ mF_X2_15) rfl dX2_putBefore_9 ?_
    refine lv_iconst (v := (nI 1)) hF.1 hF.2.1 dX2_putBefore_12 (by decide) ?_
    refine lv_isub hF.1 hF.2.1 dX2_putBefore_13 ?_
    refine kTop (y := (nI (st - 1))) (pk_sub (by omega)) ?_
    refine kPut (C := RX2) (T := TX2) (N := 2) (index := 15) (v := .int (nI (st - 1))) hF hK hP hD hS (inT inBX2) tyX2_ok nmX2 0 rfl rfl 1 (by decide) rfl (List.mem_cons_of_mem _ mF_X2_15) rfl rfl rfl (Nat.le_of_ble_eq_true rfl) dX2_putBefore_14 (fun H locs hP hD hS => ?_)
    have hP : PG G [oC a 2 [.ref b, .int (nI (st - 1))], aC G b 60 f] H := hP
    have hD : va_D A [oC a 2 [.ref b, .int (nI (st - 1))], aC G b 60 f] := hD
    refine lv_aload_n hF.1 hF.2.1 dX2_putBefore_17 rfl (lv_at hl 0 rfl) ?_
    refine kGet (C := RX2) (T := TX2) (N := 2) (index := 9) hF hK hP (inT inBX2) 0 rfl rfl 0 (by decide) rfl (List.mem_cons_of_mem _ mF_X2_9) rfl dX2_putBefore_18 ?_
    refine lv_aload_n hF.1 hF.2.1 dX2_putBefore_21 rfl (lv_at hl 0 rfl) ?_
    refine kGet (C := RX2) (T := TX2) (N := 2) (index := 15) hF hK hP (inT inBX2) 0 rfl rfl 1 (by decide) rfl (List.mem_cons_of_mem _ mF_X2_15) rfl dX2_putBefore_22 ?_
    refine lv_iload_n hF.1 hF.2.1 dX2_putBefore_25 rfl (lv_at hl 1 rfl) ?_
    refine kCastN hF hK hP hD hS 1 rfl (okC_nar hc) (by omega) (by decide) dX2_putBefore_26 (fun H locs hP hD hS => ?_)
    have hP : PG G [oC a 2 [.ref b, .int (nI (st - 1))], aC G b 60 (upd f (st - 1) ch)] H := hP
    have hD : va_D A [oC a 2 [.ref b, .int (nI (st - 1))], aC G b 60 (upd f (st - 1) ch)] := hD
    refine kRetV hF hr hlk hK hP hD hS hQ () [0, 1] (by decide) rfl (Nat.le_of_ble_eq_true rfl) (Nat.le_of_ble_eq_true rfl) dX2_putBefore_27 ?_
    exact (by first | rfl | trivial | exact zI_1 (by first | assumption | omega) | exact zI_0 (by first | assumption | omega) | (simp_all; done))
