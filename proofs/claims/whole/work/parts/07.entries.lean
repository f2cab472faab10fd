set_option maxHeartbeats 4000000 in
set_option maxRecDepth 100000 in
theorem c_X0_isFull (l : Launch) (G : GG) (sz : Nat) (en ed em eo ec : Nat) (dF bF : Nat → Int32) (nF : Nat → Int64) (hec : ec ≤ 80) : CtI l G yX0_isFull wsX0_isFull 0 0 0 0 sz [.ref en] [oC en 0 [.ref ed, .ref em, .ref eo, .int (nI ec)]] (fun r (_ : Unit) => r = (zI (80 ≤ ec))) (fun (_ : Unit) => [oC en 0 [.ref ed, .ref em, .ref eo, .int (nI ec)]]) := by
  refine kMet (Qc := fun A => va_Qi _ (Bw G A _) A) (cc := cX0_isFull) (nL := 1) (ret := some (.boolean)) (by decide) rfl (Nat.le_of_ble_eq_true rfl) ?_
  intro p e s m args below meth c A Q hF hr hlk hnme hK hP hD hA hS hQ hsz ls hl
  have hl : lv_has ls 1 [(0, .ref en)] := hl
  refine lv_aload_n hF.1 hF.2.1 dX0_isFull_0 rfl (lv_at hl 0 rfl) ?_
  refine kGet (C := RX0) (T := TX0) (N := 4) (index := 22) hF hK hP (inT inBX0) 0 rfl rfl 3 (by decide) rfl (List.mem_cons_of_mem _ mF_X0_22) rfl dX0_isFull_1 ?_
  refine lv_bipush (v := (nI 80)) hF.1 hF.2.1 dX0_isFull_4 (by decide) ?_
  refine kLtN (tgt := 13) hF dX0_isFull_6 (by decide) (by omega) (by omega) (fun c_1 => ?_) (fun c_1 => ?_)
  · refine lv_iconst (v := (nI 0)) hF.1 hF.2.1 dX0_isFull_13 (by decide) ?_
    refine kRetI (v := (nI 0)) hF hr hlk hK hP hD hS hQ rfl () [0] (by decide) rfl (Nat.le_of_ble_eq_true rfl) (Nat.le_of_ble_eq_true rfl) dX0_isFull_14 ?_
    exact (by first | rfl | trivial | exact zI_1 (by first | assumption | omega) | exact zI_0 (by first | assumption | omega) | (simp_all; done))
  · refine lv_iconst (v := (nI 1)) hF.1 hF.2.1 dX0_isFull_9 (by decide) ?_
    refine lv_goto (tgt := 14) hF.1 hF.2.1 dX0_isFull_10 (by decide) ?_
    refine kRetI (v := (nI 1)) hF hr hlk hK hP hD hS hQ rfl () [0] (by decide) rfl (Nat.le_of_ble_eq_true rfl) (Nat.le_of_ble_eq_true rfl) dX0_isFull_14 ?_
    exact (by first | rfl | trivial | exact zI_1 (by first | assumption | omega) | exact zI_0 (by first | assumption | omega) | (simp_all; done))
set_option maxHeartbeats 4000000 in
set_option maxRecDepth 100000 in
theorem c_X0_add (l : Launch) (G : GG) (sz : Nat) (en ed em eo ec : Nat) (dF bF : Nat → Int32) (nF : Nat → Int64) (d ob : Int32) (nm : Int64) (hec : ec < 80) : CtV l G yX0_add wsX0_add 0 0 0 0 sz [.ref en, .int d, .long nm, .int ob] [oC en 0 [.ref ed, .ref em, .ref eo, .int (nI ec)], aI G ed 80 dF, aJ G em 80 nF, aI G eo 80 bF] (fun (_ : Unit) => True) (fun (_ : Unit) => [oC en 0 [.ref ed, .ref em, .ref eo, .int (nI (ec + 1))], aI G ed 80 (upd dF ec d), aJ G em 80 (vp_updL nF ec nm), aI G eo 80 (upd bF ec ob)]) := by
  refine kMet (Qc := fun A => va_Qv _ (Bw G A _) A) (cc := cX0_add) (nL := 5) (ret := none) (by decide) rfl (Nat.le_of_ble_eq_true rfl) ?_
  intro p e s m args below meth c A Q hF hr hlk hnme hK hP hD hA hS hQ hsz ls hl
  have hl : lv_has ls 5 [(0, .ref en), (1, .int d), (2, .long nm), (4, .int ob)] := hl
  refine lv_aload_n hF.1 hF.2.1 dX0_add_0 rfl (lv_at hl 0 rfl) ?_
  refine kGet (C := RX0) (T := TX0) (N := 4) (index := 22) hF hK hP (inT inBX0) 0 rfl rfl 3 (by decide) rfl (List.mem_cons_of_mem _ mF_X0_22) rfl dX0_add_1 ?_
  refine lv_bipush (v := (nI 80)) hF.1 hF.2.1 dX0_add_4 (by decide) ?_
  refine kGeN (tgt := 50) hF dX0_add_6 (by decide) (by omega) (by omega) (fun c_1 => ?_) (fun c_1 => ?_)
  · exfalso; omega
  · refine lv_aload_n hF.1 hF.2.1 dX0_add_9 rfl (lv_at hl 0 rfl) ?_
    refine kGet (C := RX0) (T := TX0) (N := 4) (index := 9) hF hK hP (inT inBX0) 0 rfl rfl 0 (by decide) rfl (List.mem_cons_of_mem _ mF_X0_9) rfl dX0_add_10 ?_
    refine lv_aload_n hF.1 hF.2.1 dX0_add_13 rfl (lv_at hl 0 rfl) ?_
    refine kGet (C := RX0) (T := TX0) (N := 4) (index := 22) hF hK hP (inT inBX0) 0 rfl rfl 3 (by decide) rfl (List.mem_cons_of_mem _ mF_X0_22) rfl dX0_add_14 ?_
    refine lv_iload_n hF.1 hF.2.1 dX0_add_17 rfl (lv_at hl 1 rfl) ?_
    refine kIastN hF hK hP hD hS 1 rfl (by omega) (by decide) dX0_add_18 (fun H locs hP hD hS => ?_)
    have hP : PG G [oC en 0 [.ref ed, .ref em, .ref eo, .int (nI ec)], aI G ed 80 (upd dF ec d), aJ G em 80 nF, aI G eo 80 bF] H := hP
    have hD : va_D A [oC en 0 [.ref ed, .ref em, .ref eo, .int (nI ec)], aI G ed 80 (upd dF ec d), aJ G em 80 nF, aI G eo 80 bF] := hD
    refine lv_aload_n hF.1 hF.2.1 dX0_add_19 rfl (lv_at hl 0 rfl) ?_
    refine kGet (C := RX0) (T := TX0) (N := 4) (index := 15) hF hK hP (inT inBX0) 0 rfl rfl 1 (by decide) rfl (List.mem_cons_of_mem _ mF_X0_15) rfl dX0_add_20 ?_
    refine lv_aload_n hF.1 hF.2.1 dX0_add_23 rfl (lv_at hl 0 rfl) ?_
    refine kGet (C := RX0) (T := TX0) (N := 4) (index := 22) hF hK hP (inT inBX0) 0 rfl rfl 3 (by decide) rfl (List.mem_cons_of_mem _ mF_X0_22) rfl dX0_add_24 ?_
    refine lv_lload_n hF.1 hF.2.1 dX0_add_27 rfl (lv_at hl 2 rfl) ?_
    refine kLastN hF hK hP hD hS 2 rfl (by omega) (by decide) dX0_add_28 (fun H locs hP hD hS => ?_)
    have hP : PG G [oC en 0 [.ref ed, .ref em, .ref eo, .int (nI ec)], aI G ed 80 (upd dF ec d), aJ G em 80 (vp_updL nF ec nm), aI G eo 80 bF] H := hP
    have hD : va_D A [oC en 0 [.ref ed, .ref em, .ref eo, .int (nI ec)], aI G ed 80 (upd dF ec d), aJ G em 80 (vp_updL nF ec nm), aI G eo 80 bF] := hD
    refine lv_aload_n hF.1 hF.2.1 dX0_add_29 rfl (lv_at hl 0 rfl) ?_
    refine kGet (C := RX0) (T := TX0) (N := 4) (index := 19) hF hK hP (inT inBX0) 0 rfl rfl 2 (by decide) rfl (List.mem_cons_of_mem _ mF_X0_19) rfl dX0_add_30 ?_
    refine lv_aload_n hF.1 hF.2.1 dX0_add_33 rfl (lv_at hl 0 rfl) ?_
    refine kGet (C := RX0) (T := TX0) (N := 4) (index := 22) hF hK hP (inT inBX0) 0 rfl rfl 3 (by decide) rfl (List.mem_cons_of_mem _ mF_X0_22) rfl dX0_add_34 ?_
    refine lv_iload hF.1 hF.2.1 dX0_add_37 (lv_at hl 3 rfl) ?_
    refine kIastN hF hK hP hD hS 3 rfl (by omega) (by decide) dX0_add_39 (fun H locs hP hD hS => ?_)
    have hP : PG G [oC en 0 [.ref ed, .ref em, .ref eo, .int (nI ec)], aI G ed 80 (upd dF ec d), aJ G em 80 (vp_updL nF ec nm), aI G eo 80 (upd bF ec ob)] H := hP
    have hD : va_D A [oC en 0 [.ref ed, .ref em, .ref eo, .int (nI ec)], aI G ed 80 (upd dF ec d), aJ G em 80 (vp_updL nF ec nm), aI G eo 80 (upd bF ec ob)] := hD
    refine lv_aload_n hF.1 hF.2.1 dX0_add_40 rfl (lv_at hl 0 rfl) ?_
    refine lv_dup hF.1 hF.2.1 dX0_add_41 rfl ?_
    refine kGet (C := RX0) (T := TX0) (N := 4) (index := 22) hF hK hP (inT inBX0) 0 rfl rfl 3 (by decide) rfl (List.mem_cons_of_mem _ mF_X0_22) rfl dX0_add_42 ?_
    refine lv_iconst (v := (nI 1)) hF.1 hF.2.1 dX0_add_45 (by decide) ?_
    refine lv_iadd hF.1 hF.2.1 dX0_add_46 ?_
    refine kTop (y := (nI (ec + 1))) (nI_add _ _) ?_
    refine kPut (C := RX0) (T := TX0) (N := 4) (index := 22) (v := .int (nI (ec + 1))) hF hK hP hD hS (inT inBX0) tyX0_ok nmX0 0 rfl rfl 3 (by decide) rfl (List.mem_cons_of_mem _ mF_X0_22) rfl rfl rfl (Nat.le_of_ble_eq_true rfl) dX0_add_47 (fun H locs hP hD hS => ?_)
    have hP : PG G [oC en 0 [.ref ed, .ref em, .ref eo, .int (nI (ec + 1))], aI G ed 80 (upd dF ec d), aJ G em 80 (vp_updL nF ec nm), aI G eo 80 (upd bF ec ob)] H := hP
    have hD : va_D A [oC en 0 [.ref ed, .ref em, .ref eo, .int (nI (ec + 1))], aI G ed 80 (upd dF ec d), aJ G em 80 (vp_updL nF ec nm), aI G eo 80 (upd bF ec ob)] := hD
    refine kRetV hF hr hlk hK hP hD hS hQ () [0, 1, 2, 3] (by decide) rfl (Nat.le_of_ble_eq_true rfl) (Nat.le_of_ble_eq_true rfl) dX0_add_50 ?_
    exact (by first | rfl | trivial | exact zI_1 (by first | assumption | omega) | exact zI_0 (by first | assumption | omega) | (simp_all; done))
set_option maxHeartbeats 4000000 in
set_option maxRecDepth 100000 in
theorem c_X0_drop (l : Launch) (G : GG) (sz : Nat) (en ed em eo ec : Nat) (dF bF : Nat → Int32) (nF : Nat → Int64) (pl : Nat) (hec : ec ≤ 80) (hp : pl < ec) : CtV l G yX0_drop wsX0_drop 0 0 0 0 sz [.ref en, .int (nI pl)] [oC en 0 [.ref ed, .ref em, .ref eo, .int (nI ec)], aI G ed 80 dF, aJ G em 80 nF, aI G eo 80 bF] (fun (_ : Unit) => True) (fun (_ : Unit) => [oC en 0 [.ref ed, .ref em, .ref eo, .int (nI (ec - 1))], aI G ed 80 (shf dF pl (ec - 1)), aJ G em 80 (shf nF pl (ec - 1)), aI G eo 80 (shf bF pl (ec - 1))]) := by
  refine kMet (Qc := fun A => va_Qv _ (Bw G A _) A) (cc := cX0_drop) (nL := 3) (ret := none) (by decide) rfl (Nat.le_of_ble_eq_true rfl) ?_
  intro p e s m args below meth c A Q hF hr hlk hnme hK hP hD hA hS hQ hsz ls hl
  have hl : lv_has ls 3 [(0, .ref en), (1, .int (nI pl))] := hl
  refine lv_iload_n hF.1 hF.2.1 dX0_drop_0 rfl (lv_at hl 1 rfl) ?_
  refine kIfLtN (tgt := 12) hF dX0_drop_1 (by decide) (by omega) ?_
  refine lv_iload_n hF.1 hF.2.1 dX0_drop_4 rfl (lv_at hl 1 rfl) ?_
  refine lv_aload_n hF.1 hF.2.1 dX0_drop_5 rfl (lv_at hl 0 rfl) ?_
  refine kGet (C := RX0) (T := TX0) (N := 4) (index := 22) hF hK hP (inT inBX0) 0 rfl rfl 3 (by decide) rfl (List.mem_cons_of_mem _ mF_X0_22) rfl dX0_drop_6 ?_
  refine kLtN (tgt := 13) hF dX0_drop_9 (by decide) (by omega) (by omega) (fun c_1 => ?_) (fun c_1 => ?_)
  · refine lv_aload_n hF.1 hF.2.1 dX0_drop_13 rfl (lv_at hl 0 rfl) ?_
    refine lv_dup hF.1 hF.2.1 dX0_drop_14 rfl ?_
    refine kGet (C := RX0) (T := TX0) (N := 4) (index := 22) hF hK hP (inT inBX0) 0 rfl rfl 3 (by decide) rfl (List.mem_cons_of_mem _ mF_X0_22) rfl dX0_drop_15 ?_
    refine lv_iconst (v := (nI 1)) hF.1 hF.2.1 dX0_drop_18 (by decide) ?_
    refine lv_isub hF.1 hF.2.1 dX0_drop_19 ?_
    refine kTop (y := (nI (ec - 1))) (pk_sub (by omega)) ?_
    refine kPut (C := RX0) (T := TX0) (N := 4) (index := 22) (v := .int (nI (ec - 1))) hF hK hP hD hS (inT inBX0) tyX0_ok nmX0 0 rfl rfl 3 (by decide) rfl (List.mem_cons_of_mem _ mF_X0_22) rfl rfl rfl (Nat.le_of_ble_eq_true rfl) dX0_drop_20 (fun H locs hP hD hS => ?_)
    have hP : PG G [oC en 0 [.ref ed, .ref em, .ref eo, .int (nI (ec - 1))], aI G ed 80 dF, aJ G em 80 nF, aI G eo 80 bF] H := hP
    have hD : va_D A [oC en 0 [.ref ed, .ref em, .ref eo, .int (nI (ec - 1))], aI G ed 80 dF, aJ G em 80 nF, aI G eo 80 bF] := hD
    refine lv_iload_n hF.1 hF.2.1 dX0_drop_23 rfl (lv_at hl 1 rfl) ?_
    refine lv_istore_n (lv' := [(2, .int (nI pl)), (0, .ref en), (1, .int (nI pl))]) hF.1 hF.2.1 dX0_drop_24 rfl hl (by decide) rfl (fun ls hl => ?_)
    have loop_25 : ∀ (n_25 : Nat) (k : Nat) (d1 : Nat → Int32) (n1 : Nat → Int64) (b1 : Nat → Int32), ec - k < n_25 → (pl ≤ k ∧ k ≤ ec - 1) → (d1 = shf dF pl k) → (n1 = shf nF pl k) → (b1 = shf bF pl k) → ∀ (H : Heap) (locs : List Loc) (ls : Array Slot), PG G [oC en 0 [.ref ed, .ref em, .ref eo, .int (nI (ec - 1))], aI G ed 80 d1, aJ G em 80 n1, aI G eo 80 b1] H → va_D A [oC en 0 [.ref ed, .ref em, .ref eo, .int (nI (ec - 1))], aI G ed 80 d1, aJ G em 80 n1, aI G eo 80 b1] → va_S A s.heap H locs → lv_has ls 3 [(2, .int (nI k)), (0, .ref en), (1, .int (nI pl))] → W p l e (Rm 0 0 0 0) s m args below meth c H locs 0 0 Q (F0 m 25 ls []) := by
      intro n_25
      induction n_25 with
      | zero => intro k d1 n1 b1 hm; exact absurd hm (Nat.not_lt_zero _)
      | succ n_25 ih_25 =>
        intro k d1 n1 b1 hm_25 hk hd hn hb H locs ls hP hD hS hl
        refine lv_iload_n hF.1 hF.2.1 dX0_drop_25 rfl (lv_at hl 0 rfl) ?_
        refine lv_aload_n hF.1 hF.2.1 dX0_drop_26 rfl (lv_at hl 1 rfl) ?_
        refine kGet (C := RX0) (T := TX0) (N := 4) (index := 22) hF hK hP (inT inBX0) 0 rfl rfl 3 (by decide) rfl (List.mem_cons_of_mem _ mF_X0_22) rfl dX0_drop_27 ?_
        refine kGeN (tgt := 81) hF dX0_drop_30 (by decide) (by omega) (by omega) (fun c_2 => ?_) (fun c_2 => ?_)
        · rw [hd, hn, hb, show k = ec - 1 by omega] at hP hD
          refine kRetV hF hr hlk hK hP hD hS hQ () [0, 1, 2, 3] (by decide) rfl (Nat.le_of_ble_eq_true rfl) (Nat.le_of_ble_eq_true rfl) dX0_drop_81 ?_
          trivial
        · refine lv_aload_n hF.1 hF.2.1 dX0_drop_33 rfl (lv_at hl 1 rfl) ?_
          refine kGet (C := RX0) (T := TX0) (N := 4) (index := 9) hF hK hP (inT inBX0) 0 rfl rfl 0 (by decide) rfl (List.mem_cons_of_mem _ mF_X0_9) rfl dX0_drop_34 ?_
          refine lv_iload_n hF.1 hF.2.1 dX0_drop_37 rfl (lv_at hl 0 rfl) ?_
          refine lv_aload_n hF.1 hF.2.1 dX0_drop_38 rfl (lv_at hl 1 rfl) ?_
          refine kGet (C := RX0) (T := TX0) (N := 4) (index := 9) hF hK hP (inT inBX0) 0 rfl rfl 0 (by decide) rfl (List.mem_cons_of_mem _ mF_X0_9) rfl dX0_drop_39 ?_
          refine lv_iload_n hF.1 hF.2.1 dX0_drop_42 rfl (lv_at hl 0 rfl) ?_
          refine lv_iconst (v := (nI 1)) hF.1 hF.2.1 dX0_drop_43 (by decide) ?_
          refine lv_iadd hF.1 hF.2.1 dX0_drop_44 ?_
          refine kTop (y := (nI (k + 1))) (nI_add _ _) ?_
          refine kIaldN hF hK hP 1 rfl (by omega) (by decide) dX0_drop_45 ?_
          refine kIastN hF hK hP hD hS 1 rfl (by omega) (by decide) dX0_drop_46 (fun H locs hP hD hS => ?_)
          have hP : PG G [oC en 0 [.ref ed, .ref em, .ref eo, .int (nI (ec - 1))], aI G ed 80 (upd d1 k (d1 (k + 1))), aJ G em 80 n1, aI G eo 80 b1] H := hP
          have hD : va_D A [oC en 0 [.ref ed, .ref em, .ref eo, .int (nI (ec - 1))], aI G ed 80 (upd d1 k (d1 (k + 1))), aJ G em 80 n1, aI G eo 80 b1] := hD
          refine lv_aload_n hF.1 hF.2.1 dX0_drop_47 rfl (lv_at hl 1 rfl) ?_
          refine kGet (C := RX0) (T := TX0) (N := 4) (index := 15) hF hK hP (inT inBX0) 0 rfl rfl 1 (by decide) rfl (List.mem_cons_of_mem _ mF_X0_15) rfl dX0_drop_48 ?_
          refine lv_iload_n hF.1 hF.2.1 dX0_drop_51 rfl (lv_at hl 0 rfl) ?_
          refine lv_aload_n hF.1 hF.2.1 dX0_drop_52 rfl (lv_at hl 1 rfl) ?_
          refine kGet (C := RX0) (T := TX0) (N := 4) (index := 15) hF hK hP (inT inBX0) 0 rfl rfl 1 (by decide) rfl (List.mem_cons_of_mem _ mF_X0_15) rfl dX0_drop_53 ?_
          refine lv_iload_n hF.1 hF.2.1 dX0_drop_56 rfl (lv_at hl 0 rfl) ?_
          refine lv_iconst (v := (nI 1)) hF.1 hF.2.1 dX0_drop_57 (by decide) ?_
          refine lv_iadd hF.1 hF.2.1 dX0_drop_58 ?_
          refine kTop (y := (nI (k + 1))) (nI_add _ _) ?_
          refine kLaldN hF hK hP 2 rfl (by omega) (by decide) dX0_drop_59 ?_
          refine kLastN hF hK hP hD hS 2 rfl (by omega) (by decide) dX0_drop_60 (fun H locs hP hD hS => ?_)
          have hP : PG G [oC en 0 [.ref ed, .ref em, .ref eo, .int (nI (ec - 1))], aI G ed 80 (upd d1 k (d1 (k + 1))), aJ G em 80 (vp_updL n1 k (n1 (k + 1))), aI G eo 80 b1] H := hP
          have hD : va_D A [oC en 0 [.ref ed, .ref em, .ref eo, .int (nI (ec - 1))], aI G ed 80 (upd d1 k (d1 (k + 1))), aJ G em 80 (vp_updL n1 k (n1 (k + 1))), aI G eo 80 b1] := hD
          refine lv_aload_n hF.1 hF.2.1 dX0_drop_61 rfl (lv_at hl 1 rfl) ?_
          refine kGet (C := RX0) (T := TX0) (N := 4) (index := 19) hF hK hP (inT inBX0) 0 rfl rfl 2 (by decide) rfl (List.mem_cons_of_mem _ mF_X0_19) rfl dX0_drop_62 ?_
          refine lv_iload_n hF.1 hF.2.1 dX0_drop_65 rfl (lv_at hl 0 rfl) ?_
          refine lv_aload_n hF.1 hF.2.1 dX0_drop_66 rfl (lv_at hl 1 rfl) ?_
          refine kGet (C := RX0) (T := TX0) (N := 4) (index := 19) hF hK hP (inT inBX0) 0 rfl rfl 2 (by decide) rfl (List.mem_cons_of_mem _ mF_X0_19) rfl dX0_drop_67 ?_
          refine lv_iload_n hF.1 hF.2.1 dX0_drop_70 rfl (lv_at hl 0 rfl) ?_
          refine lv_iconst (v := (nI 1)) hF.1 hF.2.1 dX0_drop_71 (by decide) ?_
          refine lv_iadd hF.1 hF.2.1 dX0_drop_72 ?_
          refine kTop (y := (nI (k + 1))) (nI_add _ _) ?_
          refine kIaldN hF hK hP 3 rfl (by omega) (by decide) dX0_drop_73 ?_
          refine kIastN hF hK hP hD hS 3 rfl (by omega) (by decide) dX0_drop_74 (fun H locs hP hD hS => ?_)
          have hP : PG G [oC en 0 [.ref ed, .ref em, .ref eo, .int (nI (ec - 1))], aI G ed 80 (upd d1 k (d1 (k + 1))), aJ G em 80 (vp_updL n1 k (n1 (k + 1))), aI G eo 80 (upd b1 k (b1 (k + 1)))] H := hP
          have hD : va_D A [oC en 0 [.ref ed, .ref em, .ref eo, .int (nI (ec - 1))], aI G ed 80 (upd d1 k (d1 (k + 1))), aJ G em 80 (vp_updL n1 k (n1 (k + 1))), aI G eo 80 (upd b1 k (b1 (k + 1)))] := hD
          refine lv_iinc (v := (nI (k + 1))) (lv' := [(2, .int (nI (k + 1))), (0, .ref en), (1, .int (nI pl))]) hF.1 hF.2.1 dX0_drop_75 hl (k := 0) rfl (nI_inc1 _) (by decide) rfl (fun ls hl => ?_)
          refine lv_goto (tgt := 25) hF.1 hF.2.1 dX0_drop_78 (by decide) ?_
          exact ih_25 (k + 1) (upd d1 k (d1 (k + 1))) (vp_updL n1 k (n1 (k + 1))) (upd b1 k (b1 (k + 1))) (by omega) (by omega) (by rw [hd]; exact shf_s (by omega)) (by rw [hn]; exact shf_sL (by omega)) (by rw [hb]; exact shf_s (by omega)) H locs ls hP hD hS (lv_sub hl [0, 1, 2] rfl)
    exact loop_25 _ pl dF nF bF (Nat.lt_succ_self _) (by omega) ((shf_0 _ _).symm) ((shf_0 _ _).symm) ((shf_0 _ _).symm) _ _ _ hP hD hS (lv_sub hl [0, 1, 2] rfl)
  · exfalso; omega
set_option maxHeartbeats 4000000 in
set_option maxRecDepth 100000 in
theorem c_X0_object (l : Launch) (G : GG) (sz : Nat) (en ed em eo ec : Nat) (dF bF : Nat → Int32) (nF : Nat → Int64) (k : Nat) (hi : k < 80) : CtI l G yX0_object wsX0_object 0 0 0 0 sz [.ref en, .int (nI k)] [oC en 0 [.ref ed, .ref em, .ref eo, .int (nI ec)], aI G eo 80 bF] (fun r (_ : Unit) => r = (bF k)) (fun (_ : Unit) => [oC en 0 [.ref ed, .ref em, .ref eo, .int (nI ec)], aI G eo 80 bF]) := by
  refine kMet (Qc := fun A => va_Qi _ (Bw G A _) A) (cc := cX0_object) (nL := 2) (ret := some (.int)) (by decide) rfl (Nat.le_of_ble_eq_true rfl) ?_
  intro p e s m args below meth c A Q hF hr hlk hnme hK hP hD hA hS hQ hsz ls hl
  have hl : lv_has ls 2 [(0, .ref en), (1, .int (nI k))] := hl
  refine lv_aload_n hF.1 hF.2.1 dX0_object_0 rfl (lv_at hl 0 rfl) ?_
  refine kGet (C := RX0) (T := TX0) (N := 4) (index := 19) hF hK hP (inT inBX0) 0 rfl rfl 2 (by decide) rfl (List.mem_cons_of_mem _ mF_X0_19) rfl dX0_object_1 ?_
  refine lv_iload_n hF.1 hF.2.1 dX0_object_4 rfl (lv_at hl 1 rfl) ?_
  refine kIaldN hF hK hP 1 rfl (by omega) (by decide) dX0_object_5 ?_
  refine kRetI (v := (bF k)) hF hr hlk hK hP hD hS hQ rfl () [0, 1] (by decide) rfl (Nat.le_of_ble_eq_true rfl) (Nat.le_of_ble_eq_true rfl) dX0_object_6 ?_
  exact (by first | rfl | trivial | exact zI_1 (by first | assumption | omega) | exact zI_0 (by first | assumption | omega) | (simp_all; done))
set_option maxHeartbeats 4000000 in
set_option maxRecDepth 100000 in
theorem c_X0_find (l : Launch) (G : GG) (sz : Nat) (en ed em eo ec : Nat) (dF bF : Nat → Int32) (nF : Nat → Int64) (d : Int32) (nm : Int64) (hec : ec ≤ 80) : CtI l G yX0_find wsX0_find 0 0 0 0 sz [.ref en, .int d, .long nm] [oC en 0 [.ref ed, .ref em, .ref eo, .int (nI ec)], aI G ed 80 dF, aJ G em 80 nF] (fun r (_ : Unit) => r = (rI (fndE dF nF d nm ec) ec)) (fun (_ : Unit) => [oC en 0 [.ref ed, .ref em, .ref eo, .int (nI ec)], aI G ed 80 dF, aJ G em 80 nF]) := by
  refine kMet (Qc := fun A => va_Qi _ (Bw G A _) A) (cc := cX0_find) (nL := 5) (ret := some (.int)) (by decide) rfl (Nat.le_of_ble_eq_true rfl) ?_
  intro p e s m args below meth c A Q hF hr hlk hnme hK hP hD hA hS hQ hsz ls hl
  have hl : lv_has ls 5 [(0, .ref en), (1, .int d), (2, .long nm)] := hl
  refine lv_iconst (v := (nI 0)) hF.1 hF.2.1 dX0_find_0 (by decide) ?_
  refine lv_istore (lv' := [(4, .int (nI 0)), (0, .ref en), (1, .int d), (2, .long nm)]) hF.1 hF.2.1 dX0_find_1 hl (by decide) rfl (fun ls hl => ?_)
  have loop_3 : ∀ (n_3 : Nat) (k : Nat), ec - k < n_3 → (0 ≤ k ∧ k ≤ ec) → (scan (fun j => !(decide (dF j = d) && decide (nF j = nm))) (ec - k) k = scan (fun j => !(decide (dF j = d) && decide (nF j = nm))) (ec - 0) 0) → ∀ (H : Heap) (locs : List Loc) (ls : Array Slot), PG G [oC en 0 [.ref ed, .ref em, .ref eo, .int (nI ec)], aI G ed 80 dF, aJ G em 80 nF] H → va_D A [oC en 0 [.ref ed, .ref em, .ref eo, .int (nI ec)], aI G ed 80 dF, aJ G em 80 nF] → va_S A s.heap H locs → lv_has ls 5 [(4, .int (nI k)), (0, .ref en), (1, .int d), (2, .long nm)] → W p l e (Rm 0 0 0 0) s m args below meth c H locs 0 0 Q (F0 m 3 ls []) := by
    intro n_3
    induction n_3 with
    | zero => intro k hm; exact absurd hm (Nat.not_lt_zero _)
    | succ n_3 ih_3 =>
      intro k hm_3 hk hR H locs ls hP hD hS hl
      refine lv_iload hF.1 hF.2.1 dX0_find_3 (lv_at hl 0 rfl) ?_
      refine lv_aload_n hF.1 hF.2.1 dX0_find_5 rfl (lv_at hl 1 rfl) ?_
      refine kGet (C := RX0) (T := TX0) (N := 4) (index := 22) hF hK hP (inT inBX0) 0 rfl rfl 3 (by decide) rfl (List.mem_cons_of_mem _ mF_X0_22) rfl dX0_find_6 ?_
      refine kGeN (tgt := 44) hF dX0_find_9 (by decide) (by omega) (by omega) (fun c_1 => ?_) (fun c_1 => ?_)
      · refine lv_iconst (v := (-1)) hF.1 hF.2.1 dX0_find_44 (by decide) ?_
        refine kRetI (v := (-1)) hF hr hlk hK hP hD hS hQ rfl () [0, 1, 2] (by decide) rfl (Nat.le_of_ble_eq_true rfl) (Nat.le_of_ble_eq_true rfl) dX0_find_45 ?_
        rw [show fndE dF nF d nm ec = _ from hR.symm, scan_e (by omega), rI_f (by omega)]
      · refine lv_aload_n hF.1 hF.2.1 dX0_find_12 rfl (lv_at hl 1 rfl) ?_
        refine kGet (C := RX0) (T := TX0) (N := 4) (index := 9) hF hK hP (inT inBX0) 0 rfl rfl 0 (by decide) rfl (List.mem_cons_of_mem _ mF_X0_9) rfl dX0_find_13 ?_
        refine lv_iload hF.1 hF.2.1 dX0_find_16 (lv_at hl 0 rfl) ?_
        refine kIaldN hF hK hP 1 rfl (by omega) (by decide) dX0_find_18 ?_
        refine lv_iload_n hF.1 hF.2.1 dX0_find_19 rfl (lv_at hl 2 rfl) ?_
        refine lv_icmp_ne (tgt := 38) hF.1 hF.2.1 dX0_find_20 (by decide) (fun c_2 => ?_) (fun c_2 => ?_)
        · refine lv_iinc (v := (nI (k + 1))) (lv' := [(4, .int (nI (k + 1))), (0, .ref en), (1, .int d), (2, .long nm)]) hF.1 hF.2.1 dX0_find_38 hl (k := 0) rfl (nI_inc1 _) (by decide) rfl (fun ls hl => ?_)
          refine lv_goto (tgt := 3) hF.1 hF.2.1 dX0_find_41 (by decide) ?_
          exact ih_3 (k + 1) (by omega) (by omega) (by rw [← hR]; exact (scan_t (by omega) (by simp [*])).symm) H locs ls hP hD hS (lv_sub hl [0, 1, 2, 3] rfl)
        · refine lv_aload_n hF.1 hF.2.1 dX0_find_23 rfl (lv_at hl 1 rfl) ?_
          refine kGet (C := RX0) (T := TX0) (N := 4) (index := 15) hF hK hP (inT inBX0) 0 rfl rfl 1 (by decide) rfl (List.mem_cons_of_mem _ mF_X0_15) rfl dX0_find_24 ?_
          refine lv_iload hF.1 hF.2.1 dX0_find_27 (lv_at hl 0 rfl) ?_
          refine kLaldN hF hK hP 2 rfl (by omega) (by decide) dX0_find_29 ?_
          refine lv_lload_n hF.1 hF.2.1 dX0_find_30 rfl (lv_at hl 3 rfl) ?_
          refine W.lcmp hF.1 hF.2.1 dX0_find_31 ?_
          refine kIfNeC (tgt := 38) hF dX0_find_32 (by decide) (fun c_3 => ?_) (fun c_3 => ?_)
          · refine lv_iinc (v := (nI (k + 1))) (lv' := [(4, .int (nI (k + 1))), (0, .ref en), (1, .int d), (2, .long nm)]) hF.1 hF.2.1 dX0_find_38 hl (k := 0) rfl (nI_inc1 _) (by decide) rfl (fun ls hl => ?_)
            refine lv_goto (tgt := 3) hF.1 hF.2.1 dX0_find_41 (by decide) ?_
            exact ih_3 (k + 1) (by omega) (by omega) (by rw [← hR]; exact (scan_t (by omega) (by simp [*])).symm) H locs ls hP hD hS (lv_sub hl [0, 1, 2, 3] rfl)
          · refine lv_iload hF.1 hF.2.1 dX0_find_35 (lv_at hl 0 rfl) ?_
            refine kRetI (v := (nI k)) hF hr hlk hK hP hD hS hQ rfl () [0, 1, 2] (by decide) rfl (Nat.le_of_ble_eq_true rfl) (Nat.le_of_ble_eq_true rfl) dX0_find_37 ?_
            rw [show fndE dF nF d nm ec = _ from hR.symm, scan_f (by omega) (by simp [*]), rI_t (by omega)]
  exact loop_3 _ 0 (Nat.lt_succ_self _) (by omega) (rfl) _ _ _ hP hD hS (lv_sub hl [0, 1, 2, 3] rfl)
set_option maxHeartbeats 4000000 in
set_option maxRecDepth 100000 in
theorem c_X0_findNth (l : Launch) (G : GG) (sz : Nat) (en ed em eo ec : Nat) (dF bF : Nat → Int32) (nF : Nat → Int64) (d nq : Int32) (hec : ec ≤ 80) : CtI l G yX0_findNth wsX0_findNth 0 0 0 0 sz [.ref en, .int d, .int nq] [oC en 0 [.ref ed, .ref em, .ref eo, .int (nI ec)], aI G ed 80 dF] (fun r (_ : Unit) => r = (rI (nth (fun j => decide (dF j = d)) nq ec 0 0) ec)) (fun (_ : Unit) => [oC en 0 [.ref ed, .ref em, .ref eo, .int (nI ec)], aI G ed 80 dF]) := by
  refine kMet (Qc := fun A => va_Qi _ (Bw G A _) A) (cc := cX0_findNth) (nL := 5) (ret := some (.int)) (by decide) rfl (Nat.le_of_ble_eq_true rfl) ?_
  intro p e s m args below meth c A Q hF hr hlk hnme hK hP hD hA hS hQ hsz ls hl
  have hl : lv_has ls 5 [(0, .ref en), (1, .int d), (2, .int nq)] := hl
  refine lv_iconst (v := (nI 0)) hF.1 hF.2.1 dX0_findNth_0 (by decide) ?_
  refine lv_istore_n (lv' := [(3, .int (nI 0)), (0, .ref en), (1, .int d), (2, .int nq)]) hF.1 hF.2.1 dX0_findNth_1 rfl hl (by decide) rfl (fun ls hl => ?_)
  refine lv_iconst (v := (nI 0)) hF.1 hF.2.1 dX0_findNth_2 (by decide) ?_
  refine lv_istore (lv' := [(4, .int (nI 0)), (3, .int (nI 0)), (0, .ref en), (1, .int d), (2, .int nq)]) hF.1 hF.2.1 dX0_findNth_3 hl (by decide) rfl (fun ls hl => ?_)
  have loop_5 : ∀ (n_5 : Nat) (k bf : Nat), ec - k < n_5 → (bf ≤ k ∧ k ≤ ec) → (nth (fun j => decide (dF j = d)) nq (ec - k) k bf = nth (fun j => decide (dF j = d)) nq ec 0 0) → ∀ (H : Heap) (locs : List Loc) (ls : Array Slot), PG G [oC en 0 [.ref ed, .ref em, .ref eo, .int (nI ec)], aI G ed 80 dF] H → va_D A [oC en 0 [.ref ed, .ref em, .ref eo, .int (nI ec)], aI G ed 80 dF] → va_S A s.heap H locs → lv_has ls 5 [(4, .int (nI k)), (3, .int (nI bf)), (0, .ref en), (1, .int d), (2, .int nq)] → W p l e (Rm 0 0 0 0) s m args below meth c H locs 0 0 Q (F0 m 5 ls []) := by
    intro n_5
    induction n_5 with
    | zero => intro k bf hm; exact absurd hm (Nat.not_lt_zero _)
    | succ n_5 ih_5 =>
      intro k bf hm_5 hk hR H locs ls hP hD hS hl
      refine lv_iload hF.1 hF.2.1 dX0_findNth_5 (lv_at hl 0 rfl) ?_
      refine lv_aload_n hF.1 hF.2.1 dX0_findNth_7 rfl (lv_at hl 2 rfl) ?_
      refine kGet (C := RX0) (T := TX0) (N := 4) (index := 22) hF hK hP (inT inBX0) 0 rfl rfl 3 (by decide) rfl (List.mem_cons_of_mem _ mF_X0_22) rfl dX0_findNth_8 ?_
      refine kGeN (tgt := 42) hF dX0_findNth_11 (by decide) (by omega) (by omega) (fun c_1 => ?_) (fun c_1 => ?_)
      · refine lv_iconst (v := (-1)) hF.1 hF.2.1 dX0_findNth_42 (by decide) ?_
        refine kRetI (v := (-1)) hF hr hlk hK hP hD hS hQ rfl () [0, 1] (by decide) rfl (Nat.le_of_ble_eq_true rfl) (Nat.le_of_ble_eq_true rfl) dX0_findNth_43 ?_
        rw [← hR, nth_e (by omega), rI_f (by omega)]
      · refine lv_aload_n hF.1 hF.2.1 dX0_findNth_14 rfl (lv_at hl 2 rfl) ?_
        refine kGet (C := RX0) (T := TX0) (N := 4) (index := 9) hF hK hP (inT inBX0) 0 rfl rfl 0 (by decide) rfl (List.mem_cons_of_mem _ mF_X0_9) rfl dX0_findNth_15 ?_
        refine lv_iload hF.1 hF.2.1 dX0_findNth_18 (lv_at hl 0 rfl) ?_
        refine kIaldN hF hK hP 1 rfl (by omega) (by decide) dX0_findNth_20 ?_
        refine lv_iload_n hF.1 hF.2.1 dX0_findNth_21 rfl (lv_at hl 3 rfl) ?_
        refine lv_icmp_ne (tgt := 36) hF.1 hF.2.1 dX0_findNth_22 (by decide) (fun c_2 => ?_) (fun c_2 => ?_)
        · refine lv_iinc (v := (nI (k + 1))) (lv' := [(4, .int (nI (k + 1))), (3, .int (nI bf)), (0, .ref en), (1, .int d), (2, .int nq)]) hF.1 hF.2.1 dX0_findNth_36 hl (k := 0) rfl (nI_inc1 _) (by decide) rfl (fun ls hl => ?_)
          refine lv_goto (tgt := 5) hF.1 hF.2.1 dX0_findNth_39 (by decide) ?_
          exact ih_5 (k + 1) bf (by omega) (by omega) (by rw [← hR]; first | exact (nth_n (by omega) (by simp [*]) (by assumption)).symm | exact (nth_f (by omega) (by simp [*])).symm) H locs ls hP hD hS (lv_sub hl [0, 1, 2, 3, 4] rfl)
        · refine lv_iload_n hF.1 hF.2.1 dX0_findNth_25 rfl (lv_at hl 1 rfl) ?_
          refine lv_iload_n hF.1 hF.2.1 dX0_findNth_26 rfl (lv_at hl 4 rfl) ?_
          refine lv_icmp_ne (tgt := 33) hF.1 hF.2.1 dX0_findNth_27 (by decide) (fun c_3 => ?_) (fun c_3 => ?_)
          · refine lv_iinc (v := (nI (bf + 1))) (lv' := [(3, .int (nI (bf + 1))), (4, .int (nI k)), (0, .ref en), (1, .int d), (2, .int nq)]) hF.1 hF.2.1 dX0_findNth_33 hl (k := 1) rfl (nI_inc1 _) (by decide) rfl (fun ls hl => ?_)
            refine lv_iinc (v := (nI (k + 1))) (lv' := [(4, .int (nI (k + 1))), (3, .int (nI (bf + 1))), (0, .ref en), (1, .int d), (2, .int nq)]) hF.1 hF.2.1 dX0_findNth_36 hl (k := 1) rfl (nI_inc1 _) (by decide) rfl (fun ls hl => ?_)
            refine lv_goto (tgt := 5) hF.1 hF.2.1 dX0_findNth_39 (by decide) ?_
            exact ih_5 (k + 1) (bf + 1) (by omega) (by omega) (by rw [← hR]; first | exact (nth_n (by omega) (by simp [*]) (by assumption)).symm | exact (nth_f (by omega) (by simp [*])).symm) H locs ls hP hD hS (lv_sub hl [0, 1, 2, 3, 4] rfl)
          · refine lv_iload hF.1 hF.2.1 dX0_findNth_30 (lv_at hl 0 rfl) ?_
            refine kRetI (v := (nI k)) hF hr hlk hK hP hD hS hQ rfl () [0, 1] (by decide) rfl (Nat.le_of_ble_eq_true rfl) (Nat.le_of_ble_eq_true rfl) dX0_findNth_32 ?_
            rw [← hR, nth_t (by omega) (by simp [*]) (by assumption), rI_t (by omega)]
  exact loop_5 _ 0 0 (Nat.lt_succ_self _) (by omega) (rfl) _ _ _ hP hD hS (lv_sub hl [0, 1, 2, 3, 4] rfl)
set_option maxHeartbeats 4000000 in
set_option maxRecDepth 100000 in
theorem c_X0_nameFor (l : Launch) (G : GG) (sz : Nat) (en ed em eo ec : Nat) (dF bF : Nat → Int32) (nF : Nat → Int64) (ob : Int32) (hec : ec ≤ 80) : CtL l G yX0_nameFor wsX0_nameFor 0 0 0 0 sz [.ref en, .int ob] [oC en 0 [.ref ed, .ref em, .ref eo, .int (nI ec)], aJ G em 80 nF, aI G eo 80 bF] (fun r (_ : Unit) => r = rL (scan (fun j => !decide (bF j = ob)) ec 0) ec nF) (fun (_ : Unit) => [oC en 0 [.ref ed, .ref em, .ref eo, .int (nI ec)], aJ G em 80 nF, aI G eo 80 bF]) := by
  refine kMet (Qc := fun A => va_Ql _ (Bw G A _) A) (cc := cX0_nameFor) (nL := 3) (ret := some (.long)) (by decide) rfl (Nat.le_of_ble_eq_true rfl) ?_
  intro p e s m args below meth c A Q hF hr hlk hnme hK hP hD hA hS hQ hsz ls hl
  have hl : lv_has ls 3 [(0, .ref en), (1, .int ob)] := hl
  refine lv_iconst (v := (nI 0)) hF.1 hF.2.1 dX0_nameFor_0 (by decide) ?_
  refine lv_istore_n (lv' := [(2, .int (nI 0)), (0, .ref en), (1, .int ob)]) hF.1 hF.2.1 dX0_nameFor_1 rfl hl (by decide) rfl (fun ls hl => ?_)
  have loop_2 : ∀ (n_2 : Nat) (k : Nat), ec - k < n_2 → (0 ≤ k ∧ k ≤ ec) → (scan (fun j => !decide (bF j = ob)) (ec - k) k = scan (fun j => !decide (bF j = ob)) (ec - 0) 0) → ∀ (H : Heap) (locs : List Loc) (ls : Array Slot), PG G [oC en 0 [.ref ed, .ref em, .ref eo, .int (nI ec)], aJ G em 80 nF, aI G eo 80 bF] H → va_D A [oC en 0 [.ref ed, .ref em, .ref eo, .int (nI ec)], aJ G em 80 nF, aI G eo 80 bF] → va_S A s.heap H locs → lv_has ls 3 [(2, .int (nI k)), (0, .ref en), (1, .int ob)] → W p l e (Rm 0 0 0 0) s m args below meth c H locs 0 0 Q (F0 m 2 ls []) := by
    intro n_2
    induction n_2 with
    | zero => intro k hm; exact absurd hm (Nat.not_lt_zero _)
    | succ n_2 ih_2 =>
      intro k hm_2 hk hR H locs ls hP hD hS hl
      refine lv_iload_n hF.1 hF.2.1 dX0_nameFor_2 rfl (lv_at hl 0 rfl) ?_
      refine lv_aload_n hF.1 hF.2.1 dX0_nameFor_3 rfl (lv_at hl 1 rfl) ?_
      refine kGet (C := RX0) (T := TX0) (N := 4) (index := 22) hF hK hP (inT inBX0) 0 rfl rfl 3 (by decide) rfl (List.mem_cons_of_mem _ mF_X0_22) rfl dX0_nameFor_4 ?_
      refine kGeN (tgt := 33) hF dX0_nameFor_7 (by decide) (by omega) (by omega) (fun c_1 => ?_) (fun c_1 => ?_)
      · refine lv_lconst (v := lN 0) hF.1 hF.2.1 dX0_nameFor_33 (by decide) ?_
        refine kRetL (v := lN 0) hF hr hlk hK hP hD hS hQ () [0, 1, 2] (by decide) rfl (by omega) (by omega) dX0_nameFor_34 ?_
        rw [show scan (fun j => !decide (bF j = ob)) ec 0 = _ from hR.symm, scan_e (by omega), rL_f (by omega)]
      · refine lv_aload_n hF.1 hF.2.1 dX0_nameFor_10 rfl (lv_at hl 1 rfl) ?_
        refine kGet (C := RX0) (T := TX0) (N := 4) (index := 19) hF hK hP (inT inBX0) 0 rfl rfl 2 (by decide) rfl (List.mem_cons_of_mem _ mF_X0_19) rfl dX0_nameFor_11 ?_
        refine lv_iload_n hF.1 hF.2.1 dX0_nameFor_14 rfl (lv_at hl 0 rfl) ?_
        refine kIaldN hF hK hP 2 rfl (by omega) (by decide) dX0_nameFor_15 ?_
        refine lv_iload_n hF.1 hF.2.1 dX0_nameFor_16 rfl (lv_at hl 2 rfl) ?_
        refine lv_icmp_ne (tgt := 27) hF.1 hF.2.1 dX0_nameFor_17 (by decide) (fun c_2 => ?_) (fun c_2 => ?_)
        · refine lv_iinc (v := (nI (k + 1))) (lv' := [(2, .int (nI (k + 1))), (0, .ref en), (1, .int ob)]) hF.1 hF.2.1 dX0_nameFor_27 hl (k := 0) rfl (nI_inc1 _) (by decide) rfl (fun ls hl => ?_)
          refine lv_goto (tgt := 2) hF.1 hF.2.1 dX0_nameFor_30 (by decide) ?_
          exact ih_2 (k + 1) (by omega) (by omega) (by rw [← hR]; exact (scan_t (by omega) (by simp [*])).symm) H locs ls hP hD hS (lv_sub hl [0, 1, 2] rfl)
        · refine lv_aload_n hF.1 hF.2.1 dX0_nameFor_20 rfl (lv_at hl 1 rfl) ?_
          refine kGet (C := RX0) (T := TX0) (N := 4) (index := 15) hF hK hP (inT inBX0) 0 rfl rfl 1 (by decide) rfl (List.mem_cons_of_mem _ mF_X0_15) rfl dX0_nameFor_21 ?_
          refine lv_iload_n hF.1 hF.2.1 dX0_nameFor_24 rfl (lv_at hl 0 rfl) ?_
          refine kLaldN hF hK hP 1 rfl (by omega) (by decide) dX0_nameFor_25 ?_
          refine kRetL (v := nF k) hF hr hlk hK hP hD hS hQ () [0, 1, 2] (by decide) rfl (by omega) (by omega) dX0_nameFor_26 ?_
          rw [show scan (fun j => !decide (bF j = ob)) ec 0 = _ from hR.symm, scan_f (by omega) (by simp [*]), rL_t (by omega)]
  exact loop_2 _ 0 (Nat.lt_succ_self _) (by omega) (rfl) _ _ _ hP hD hS (lv_sub hl [0, 1, 2] rfl)
set_option maxHeartbeats 4000000 in
set_option maxRecDepth 100000 in
theorem c_X0_countFor (l : Launch) (G : GG) (sz : Nat) (en ed em eo ec : Nat) (dF bF : Nat → Int32) (nF : Nat → Int64) (ob : Int32) (hec : ec ≤ 80) : CtI l G yX0_countFor wsX0_countFor 0 0 0 0 sz [.ref en, .int ob] [oC en 0 [.ref ed, .ref em, .ref eo, .int (nI ec)], aI G eo 80 bF] (fun r (_ : Unit) => r = (nI (cntB (fun j => decide (bF j = ob)) ec))) (fun (_ : Unit) => [oC en 0 [.ref ed, .ref em, .ref eo, .int (nI ec)], aI G eo 80 bF]) := by
  refine kMet (Qc := fun A => va_Qi _ (Bw G A _) A) (cc := cX0_countFor) (nL := 4) (ret := some (.int)) (by decide) rfl (Nat.le_of_ble_eq_true rfl) ?_
  intro p e s m args below meth c A Q hF hr hlk hnme hK hP hD hA hS hQ hsz ls hl
  have hl : lv_has ls 4 [(0, .ref en), (1, .int ob)] := hl
  refine lv_iconst (v := (nI 0)) hF.1 hF.2.1 dX0_countFor_0 (by decide) ?_
  refine lv_istore_n (lv' := [(2, .int (nI 0)), (0, .ref en), (1, .int ob)]) hF.1 hF.2.1 dX0_countFor_1 rfl hl (by decide) rfl (fun ls hl => ?_)
  refine lv_iconst (v := (nI 0)) hF.1 hF.2.1 dX0_countFor_2 (by decide) ?_
  refine lv_istore_n (lv' := [(3, .int (nI 0)), (2, .int (nI 0)), (0, .ref en), (1, .int ob)]) hF.1 hF.2.1 dX0_countFor_3 rfl hl (by decide) rfl (fun ls hl => ?_)
  have loop_4 : ∀ (n_4 : Nat) (k fd : Nat), ec - k < n_4 → (k ≤ ec) → (fd = cntB (fun j => decide (bF j = ob)) k) → ∀ (H : Heap) (locs : List Loc) (ls : Array Slot), PG G [oC en 0 [.ref ed, .ref em, .ref eo, .int (nI ec)], aI G eo 80 bF] H → va_D A [oC en 0 [.ref ed, .ref em, .ref eo, .int (nI ec)], aI G eo 80 bF] → va_S A s.heap H locs → lv_has ls 4 [(3, .int (nI k)), (2, .int (nI fd)), (0, .ref en), (1, .int ob)] → W p l e (Rm 0 0 0 0) s m args below meth c H locs 0 0 Q (F0 m 4 ls []) := by
    intro n_4
    induction n_4 with
    | zero => intro k fd hm; exact absurd hm (Nat.not_lt_zero _)
    | succ n_4 ih_4 =>
      intro k fd hm_4 hk hc H locs ls hP hD hS hl
      refine lv_iload_n hF.1 hF.2.1 dX0_countFor_4 rfl (lv_at hl 0 rfl) ?_
      refine lv_aload_n hF.1 hF.2.1 dX0_countFor_5 rfl (lv_at hl 2 rfl) ?_
      refine kGet (C := RX0) (T := TX0) (N := 4) (index := 22) hF hK hP (inT inBX0) 0 rfl rfl 3 (by decide) rfl (List.mem_cons_of_mem _ mF_X0_22) rfl dX0_countFor_6 ?_
      refine kGeN (tgt := 36) hF dX0_countFor_9 (by decide) (by omega) (by omega) (fun c_1 => ?_) (fun c_1 => ?_)
      · refine lv_iload_n hF.1 hF.2.1 dX0_countFor_36 rfl (lv_at hl 1 rfl) ?_
        refine kRetI (v := (nI fd)) hF hr hlk hK hP hD hS hQ rfl () [0, 1] (by decide) rfl (Nat.le_of_ble_eq_true rfl) (Nat.le_of_ble_eq_true rfl) dX0_countFor_37 ?_
        rw [hc, show k = ec by omega]
      · refine lv_iload_n hF.1 hF.2.1 dX0_countFor_12 rfl (lv_at hl 1 rfl) ?_
        refine lv_aload_n hF.1 hF.2.1 dX0_countFor_13 rfl (lv_at hl 2 rfl) ?_
        refine kGet (C := RX0) (T := TX0) (N := 4) (index := 19) hF hK hP (inT inBX0) 0 rfl rfl 2 (by decide) rfl (List.mem_cons_of_mem _ mF_X0_19) rfl dX0_countFor_14 ?_
        refine lv_iload_n hF.1 hF.2.1 dX0_countFor_17 rfl (lv_at hl 0 rfl) ?_
        refine kIaldN hF hK hP 1 rfl (by omega) (by decide) dX0_countFor_18 ?_
        refine lv_iload_n hF.1 hF.2.1 dX0_countFor_19 rfl (lv_at hl 3 rfl) ?_
        refine lv_icmp_ne (tgt := 27) hF.1 hF.2.1 dX0_countFor_20 (by decide) (fun c_2 => ?_) (fun c_2 => ?_)
        · refine lv_iconst (v := (nI 0)) hF.1 hF.2.1 dX0_countFor_27 (by decide) ?_
          refine lv_iadd hF.1 hF.2.1 dX0_countFor_28 ?_
          refine kTop (y := (nI (fd + 0))) (nI_add _ _) ?_
          refine lv_istore_n (lv' := [(2, .int (nI (fd + 0))), (3, .int (nI k)), (0, .ref en), (1, .int ob)]) hF.1 hF.2.1 dX0_countFor_29 rfl hl (by decide) rfl (fun ls hl => ?_)
          refine lv_iinc (v := (nI (k + 1))) (lv' := [(3, .int (nI (k + 1))), (2, .int (nI (fd + 0))), (0, .ref en), (1, .int ob)]) hF.1 hF.2.1 dX0_countFor_30 hl (k := 1) rfl (nI_inc1 _) (by decide) rfl (fun ls hl => ?_)
          refine lv_goto (tgt := 4) hF.1 hF.2.1 dX0_countFor_33 (by decide) ?_
          exact ih_4 (k + 1) (fd + 0) (by omega) (by omega) (by first | (rw [cntB_t (p := fun j => decide (bF j = ob)) (decide_eq_true (by assumption))]; omega) | (rw [cntB_f (p := fun j => decide (bF j = ob)) (decide_eq_false (by assumption))]; omega)) H locs ls hP hD hS (lv_sub hl [0, 1, 2, 3] rfl)
        · refine lv_iconst (v := (nI 1)) hF.1 hF.2.1 dX0_countFor_23 (by decide) ?_
          refine lv_goto (tgt := 28) hF.1 hF.2.1 dX0_countFor_24 (by decide) ?_
          refine lv_iadd hF.1 hF.2.1 dX0_countFor_28 ?_
          refine kTop (y := (nI (fd + 1))) (nI_add _ _) ?_
          refine lv_istore_n (lv' := [(2, .int (nI (fd + 1))), (3, .int (nI k)), (0, .ref en), (1, .int ob)]) hF.1 hF.2.1 dX0_countFor_29 rfl hl (by decide) rfl (fun ls hl => ?_)
          refine lv_iinc (v := (nI (k + 1))) (lv' := [(3, .int (nI (k + 1))), (2, .int (nI (fd + 1))), (0, .ref en), (1, .int ob)]) hF.1 hF.2.1 dX0_countFor_30 hl (k := 1) rfl (nI_inc1 _) (by decide) rfl (fun ls hl => ?_)
          refine lv_goto (tgt := 4) hF.1 hF.2.1 dX0_countFor_33 (by decide) ?_
          exact ih_4 (k + 1) (fd + 1) (by omega) (by omega) (by first | (rw [cntB_t (p := fun j => decide (bF j = ob)) (decide_eq_true (by assumption))]; omega) | (rw [cntB_f (p := fun j => decide (bF j = ob)) (decide_eq_false (by assumption))]; omega)) H locs ls hP hD hS (lv_sub hl [0, 1, 2, 3] rfl)
  exact loop_4 _ 0 0 (Nat.lt_succ_self _) (by first | assumption | omega) (rfl) _ _ _ hP hD hS (lv_sub hl [0, 1, 2, 3] rfl)
set_option maxHeartbeats 4000000 in
set_option maxRecDepth 100000 in
theorem c_X0_countIn (l : Launch) (G : GG) (sz : Nat) (en ed em eo ec : Nat) (dF bF : Nat → Int32) (nF : Nat → Int64) (d : Int32) (hec : ec ≤ 80) : CtI l G yX0_countIn wsX0_countIn 0 0 0 0 sz [.ref en, .int d] [oC en 0 [.ref ed, .ref em, .ref eo, .int (nI ec)], aI G ed 80 dF] (fun r (_ : Unit) => r = (nI (cntB (fun j => decide (dF j = d)) ec))) (fun (_ : Unit) => [oC en 0 [.ref ed, .ref em, .ref eo, .int (nI ec)], aI G ed 80 dF]) := by
  refine kMet (Qc := fun A => va_Qi _ (Bw G A _) A) (cc := cX0_countIn) (nL := 4) (ret := some (.int)) (by decide) rfl (Nat.le_of_ble_eq_true rfl) ?_
  intro p e s m args below meth c A Q hF hr hlk hnme hK hP hD hA hS hQ hsz ls hl
  have hl : lv_has ls 4 [(0, .ref en), (1, .int d)] := hl
  refine lv_iconst (v := (nI 0)) hF.1 hF.2.1 dX0_countIn_0 (by decide) ?_
  refine lv_istore_n (lv' := [(2, .int (nI 0)), (0, .ref en), (1, .int d)]) hF.1 hF.2.1 dX0_countIn_1 rfl hl (by decide) rfl (fun ls hl => ?_)
  refine lv_iconst (v := (nI 0)) hF.1 hF.2.1 dX0_countIn_2 (by decide) ?_
  refine lv_istore_n (lv' := [(3, .int (nI 0)), (2, .int (nI 0)), (0, .ref en), (1, .int d)]) hF.1 hF.2.1 dX0_countIn_3 rfl hl (by decide) rfl (fun ls hl => ?_)
  have loop_4 : ∀ (n_4 : Nat) (k fd : Nat), ec - k < n_4 → (k ≤ ec) → (fd = cntB (fun j => decide (dF j = d)) k) → ∀ (H : Heap) (locs : List Loc) (ls : Array Slot), PG G [oC en 0 [.ref ed, .ref em, .ref eo, .int (nI ec)], aI G ed 80 dF] H → va_D A [oC en 0 [.ref ed, .ref em, .ref eo, .int (nI ec)], aI G ed 80 dF] → va_S A s.heap H locs → lv_has ls 4 [(3, .int (nI k)), (2, .int (nI fd)), (0, .ref en), (1, .int d)] → W p l e (Rm 0 0 0 0) s m args below meth c H locs 0 0 Q (F0 m 4 ls []) := by
    intro n_4
    induction n_4 with
    | zero => intro k fd hm; exact absurd hm (Nat.not_lt_zero _)
    | succ n_4 ih_4 =>
      intro k fd hm_4 hk hc H locs ls hP hD hS hl
      refine lv_iload_n hF.1 hF.2.1 dX0_countIn_4 rfl (lv_at hl 0 rfl) ?_
      refine lv_aload_n hF.1 hF.2.1 dX0_countIn_5 rfl (lv_at hl 2 rfl) ?_
      refine kGet (C := RX0) (T := TX0) (N := 4) (index := 22) hF hK hP (inT inBX0) 0 rfl rfl 3 (by decide) rfl (List.mem_cons_of_mem _ mF_X0_22) rfl dX0_countIn_6 ?_
      refine kGeN (tgt := 36) hF dX0_countIn_9 (by decide) (by omega) (by omega) (fun c_1 => ?_) (fun c_1 => ?_)
      · refine lv_iload_n hF.1 hF.2.1 dX0_countIn_36 rfl (lv_at hl 1 rfl) ?_
        refine kRetI (v := (nI fd)) hF hr hlk hK hP hD hS hQ rfl () [0, 1] (by decide) rfl (Nat.le_of_ble_eq_true rfl) (Nat.le_of_ble_eq_true rfl) dX0_countIn_37 ?_
        rw [hc, show k = ec by omega]
      · refine lv_iload_n hF.1 hF.2.1 dX0_countIn_12 rfl (lv_at hl 1 rfl) ?_
        refine lv_aload_n hF.1 hF.2.1 dX0_countIn_13 rfl (lv_at hl 2 rfl) ?_
        refine kGet (C := RX0) (T := TX0) (N := 4) (index := 9) hF hK hP (inT inBX0) 0 rfl rfl 0 (by decide) rfl (List.mem_cons_of_mem _ mF_X0_9) rfl dX0_countIn_14 ?_
        refine lv_iload_n hF.1 hF.2.1 dX0_countIn_17 rfl (lv_at hl 0 rfl) ?_
        refine kIaldN hF hK hP 1 rfl (by omega) (by decide) dX0_countIn_18 ?_
        refine lv_iload_n hF.1 hF.2.1 dX0_countIn_19 rfl (lv_at hl 3 rfl) ?_
        refine lv_icmp_ne (tgt := 27) hF.1 hF.2.1 dX0_countIn_20 (by decide) (fun c_2 => ?_) (fun c_2 => ?_)
        · refine lv_iconst (v := (nI 0)) hF.1 hF.2.1 dX0_countIn_27 (by decide) ?_
          refine lv_iadd hF.1 hF.2.1 dX0_countIn_28 ?_
          refine kTop (y := (nI (fd + 0))) (nI_add _ _) ?_
          refine lv_istore_n (lv' := [(2, .int (nI (fd + 0))), (3, .int (nI k)), (0, .ref en), (1, .int d)]) hF.1 hF.2.1 dX0_countIn_29 rfl hl (by decide) rfl (fun ls hl => ?_)
          refine lv_iinc (v := (nI (k + 1))) (lv' := [(3, .int (nI (k + 1))), (2, .int (nI (fd + 0))), (0, .ref en), (1, .int d)]) hF.1 hF.2.1 dX0_countIn_30 hl (k := 1) rfl (nI_inc1 _) (by decide) rfl (fun ls hl => ?_)
          refine lv_goto (tgt := 4) hF.1 hF.2.1 dX0_countIn_33 (by decide) ?_
          exact ih_4 (k + 1) (fd + 0) (by omega) (by omega) (by first | (rw [cntB_t (p := fun j => decide (dF j = d)) (decide_eq_true (by assumption))]; omega) | (rw [cntB_f (p := fun j => decide (dF j = d)) (decide_eq_false (by assumption))]; omega)) H locs ls hP hD hS (lv_sub hl [0, 1, 2, 3] rfl)
        · refine lv_iconst (v := (nI 1)) hF.1 hF.2.1 dX0_countIn_23 (by decide) ?_
          refine lv_goto (tgt := 28) hF.1 hF.2.1 dX0_countIn_24 (by decide) ?_
          refine lv_iadd hF.1 hF.2.1 dX0_countIn_28 ?_
          refine kTop (y := (nI (fd + 1))) (nI_add _ _) ?_
          refine lv_istore_n (lv' := [(2, .int (nI (fd + 1))), (3, .int (nI k)), (0, .ref en), (1, .int d)]) hF.1 hF.2.1 dX0_countIn_29 rfl hl (by decide) rfl (fun ls hl => ?_)
          refine lv_iinc (v := (nI (k + 1))) (lv' := [(3, .int (nI (k + 1))), (2, .int (nI (fd + 1))), (0, .ref en), (1, .int d)]) hF.1 hF.2.1 dX0_countIn_30 hl (k := 1) rfl (nI_inc1 _) (by decide) rfl (fun ls hl => ?_)
          refine lv_goto (tgt := 4) hF.1 hF.2.1 dX0_countIn_33 (by decide) ?_
          exact ih_4 (k + 1) (fd + 1) (by omega) (by omega) (by first | (rw [cntB_t (p := fun j => decide (dF j = d)) (decide_eq_true (by assumption))]; omega) | (rw [cntB_f (p := fun j => decide (dF j = d)) (decide_eq_false (by assumption))]; omega)) H locs ls hP hD hS (lv_sub hl [0, 1, 2, 3] rfl)
  exact loop_4 _ 0 0 (Nat.lt_succ_self _) (by first | assumption | omega) (rfl) _ _ _ hP hD hS (lv_sub hl [0, 1, 2, 3] rfl)
