set_option maxHeartbeats 4000000 in
set_option maxRecDepth 100000 in
theorem c_X5_isFull (l : Launch) (G : GG) (sz : Nat) (vo t vr vc vn : Nat) (rF cF : Nat → Int32) (hvn : vn ≤ 4) : CtI l G yX5_isFull wsX5_isFull 0 0 0 0 sz [.ref vo] [oC vo 5 [.ref t, .ref vr, .ref vc, .int (nI vn)]] (fun r (_ : Unit) => r = (zI (4 ≤ vn))) (fun (_ : Unit) => [oC vo 5 [.ref t, .ref vr, .ref vc, .int (nI vn)]]) := by
  refine kMet (Qc := fun A => va_Qi _ (Bw G A _) A) (cc := cX5_isFull) (nL := 1) (ret := some (.boolean)) (by decide) rfl (Nat.le_of_ble_eq_true rfl) ?_
  intro p e s m args below meth c A Q hF hr hlk hnme hK hP hD hA hS hQ hsz ls hl
  have hl : lv_has ls 1 [(0, .ref vo)] := hl
  refine lv_aload_n hF.1 hF.2.1 dX5_isFull_0 rfl (lv_at hl 0 rfl) ?_
  refine kGet (C := RX5) (T := TX5) (N := 4) (index := 28) hF hK hP (inT inBX5) 0 rfl rfl 3 (by decide) rfl (List.mem_cons_of_mem _ mF_X5_28) rfl dX5_isFull_1 ?_
  refine lv_iconst (v := (nI 4)) hF.1 hF.2.1 dX5_isFull_4 (by decide) ?_
  refine kLtN (tgt := 12) hF dX5_isFull_5 (by decide) (by omega) (by omega) (fun c_1 => ?_) (fun c_1 => ?_)
  · refine lv_iconst (v := (nI 0)) hF.1 hF.2.1 dX5_isFull_12 (by decide) ?_
    refine kRetI (v := (nI 0)) hF hr hlk hK hP hD hS hQ rfl () [0] (by decide) rfl (Nat.le_of_ble_eq_true rfl) (Nat.le_of_ble_eq_true rfl) dX5_isFull_13 ?_
    exact (by first | rfl | trivial | exact zI_1 (by first | assumption | omega) | exact zI_0 (by first | assumption | omega) | (simp_all; done))
  · refine lv_iconst (v := (nI 1)) hF.1 hF.2.1 dX5_isFull_8 (by decide) ?_
    refine lv_goto (tgt := 13) hF.1 hF.2.1 dX5_isFull_9 (by decide) ?_
    refine kRetI (v := (nI 1)) hF hr hlk hK hP hD hS hQ rfl () [0] (by decide) rfl (Nat.le_of_ble_eq_true rfl) (Nat.le_of_ble_eq_true rfl) dX5_isFull_13 ?_
    exact (by first | rfl | trivial | exact zI_1 (by first | assumption | omega) | exact zI_0 (by first | assumption | omega) | (simp_all; done))
set_option maxHeartbeats 4000000 in
set_option maxRecDepth 100000 in
theorem c_X5_add (l : Launch) (G : GG) (sz : Nat) (vo t vr vc vn : Nat) (rF cF : Nat → Int32) (o : Int32) (hvn : vn < 4) : CtI l G yX5_add wsX5_add 0 0 0 0 sz [.ref vo, .int o] [oC vo 5 [.ref t, .ref vr, .ref vc, .int (nI vn)], aI G vr 4 rF] (fun r (_ : Unit) => r = (nI vn)) (fun (_ : Unit) => [oC vo 5 [.ref t, .ref vr, .ref vc, .int (nI (vn + 1))], aI G vr 4 (upd rF vn o)]) := by
  refine kMet (Qc := fun A => va_Qi _ (Bw G A _) A) (cc := cX5_add) (nL := 2) (ret := some (.int)) (by decide) rfl (Nat.le_of_ble_eq_true rfl) ?_
  intro p e s m args below meth c A Q hF hr hlk hnme hK hP hD hA hS hQ hsz ls hl
  have hl : lv_has ls 2 [(0, .ref vo), (1, .int o)] := hl
  refine lv_aload_n hF.1 hF.2.1 dX5_add_0 rfl (lv_at hl 0 rfl) ?_
  refine kGet (C := RX5) (T := TX5) (N := 4) (index := 28) hF hK hP (inT inBX5) 0 rfl rfl 3 (by decide) rfl (List.mem_cons_of_mem _ mF_X5_28) rfl dX5_add_1 ?_
  refine lv_iconst (v := (nI 4)) hF.1 hF.2.1 dX5_add_4 (by decide) ?_
  refine kLtN (tgt := 10) hF dX5_add_5 (by decide) (by omega) (by omega) (fun c_1 => ?_) (fun c_1 => ?_)
  · refine lv_aload_n hF.1 hF.2.1 dX5_add_10 rfl (lv_at hl 0 rfl) ?_
    refine kGet (C := RX5) (T := TX5) (N := 4) (index := 9) hF hK hP (inT inBX5) 0 rfl rfl 1 (by decide) rfl (List.mem_cons_of_mem _ mF_X5_9) rfl dX5_add_11 ?_
    refine lv_aload_n hF.1 hF.2.1 dX5_add_14 rfl (lv_at hl 0 rfl) ?_
    refine kGet (C := RX5) (T := TX5) (N := 4) (index := 28) hF hK hP (inT inBX5) 0 rfl rfl 3 (by decide) rfl (List.mem_cons_of_mem _ mF_X5_28) rfl dX5_add_15 ?_
    refine lv_iload_n hF.1 hF.2.1 dX5_add_18 rfl (lv_at hl 1 rfl) ?_
    refine kIastN hF hK hP hD hS 1 rfl (by omega) (by decide) dX5_add_19 (fun H locs hP hD hS => ?_)
    have hP : PG G [oC vo 5 [.ref t, .ref vr, .ref vc, .int (nI vn)], aI G vr 4 (upd rF vn o)] H := hP
    have hD : va_D A [oC vo 5 [.ref t, .ref vr, .ref vc, .int (nI vn)], aI G vr 4 (upd rF vn o)] := hD
    refine lv_aload_n hF.1 hF.2.1 dX5_add_20 rfl (lv_at hl 0 rfl) ?_
    refine lv_dup hF.1 hF.2.1 dX5_add_21 rfl ?_
    refine kGet (C := RX5) (T := TX5) (N := 4) (index := 28) hF hK hP (inT inBX5) 0 rfl rfl 3 (by decide) rfl (List.mem_cons_of_mem _ mF_X5_28) rfl dX5_add_22 ?_
    refine lv_iconst (v := (nI 1)) hF.1 hF.2.1 dX5_add_25 (by decide) ?_
    refine lv_iadd hF.1 hF.2.1 dX5_add_26 ?_
    refine kTop (y := (nI (vn + 1))) (nI_add _ _) ?_
    refine kPut (C := RX5) (T := TX5) (N := 4) (index := 28) (v := .int (nI (vn + 1))) hF hK hP hD hS (inT inBX5) tyX5_ok nmX5 0 rfl rfl 3 (by decide) rfl (List.mem_cons_of_mem _ mF_X5_28) rfl rfl rfl (Nat.le_of_ble_eq_true rfl) dX5_add_27 (fun H locs hP hD hS => ?_)
    have hP : PG G [oC vo 5 [.ref t, .ref vr, .ref vc, .int (nI (vn + 1))], aI G vr 4 (upd rF vn o)] H := hP
    have hD : va_D A [oC vo 5 [.ref t, .ref vr, .ref vc, .int (nI (vn + 1))], aI G vr 4 (upd rF vn o)] := hD
    refine lv_aload_n hF.1 hF.2.1 dX5_add_30 rfl (lv_at hl 0 rfl) ?_
    refine kGet (C := RX5) (T := TX5) (N := 4) (index := 28) hF hK hP (inT inBX5) 0 rfl rfl 3 (by decide) rfl (List.mem_cons_of_mem _ mF_X5_28) rfl dX5_add_31 ?_
    refine lv_iconst (v := (nI 1)) hF.1 hF.2.1 dX5_add_34 (by decide) ?_
    refine lv_isub hF.1 hF.2.1 dX5_add_35 ?_
    refine kTop (y := (nI ((vn + 1) - 1))) (pk_sub (by omega)) ?_
    refine kRetI (v := (nI ((vn + 1) - 1))) hF hr hlk hK hP hD hS hQ rfl () [0, 1] (by decide) rfl (Nat.le_of_ble_eq_true rfl) (Nat.le_of_ble_eq_true rfl) dX5_add_36 ?_
    rfl
  · exfalso; omega
set_option maxHeartbeats 4000000 in
set_option maxRecDepth 100000 in
theorem c_X5_mayBeMounted (l : Launch) (G : GG) (sz : Nat) (vo t vr vc vn : Nat) (rF cF : Nat → Int32) (v : Int32) : CtI l G yX5_mayBeMounted wsX5_mayBeMounted 0 0 0 0 sz [.ref vo, .int v] [oC vo 5 [.ref t, .ref vr, .ref vc, .int (nI vn)]] (fun r (_ : Unit) => r = (zI (0 < v ∧ v < nI vn))) (fun (_ : Unit) => [oC vo 5 [.ref t, .ref vr, .ref vc, .int (nI vn)]]) := by
  refine kMet (Qc := fun A => va_Qi _ (Bw G A _) A) (cc := cX5_mayBeMounted) (nL := 2) (ret := some (.boolean)) (by decide) rfl (Nat.le_of_ble_eq_true rfl) ?_
  intro p e s m args below meth c A Q hF hr hlk hnme hK hP hD hA hS hQ hsz ls hl
  have hl : lv_has ls 2 [(0, .ref vo), (1, .int v)] := hl
  refine lv_iload_n hF.1 hF.2.1 dX5_mayBeMounted_0 rfl (lv_at hl 1 rfl) ?_
  refine lv_if_le (tgt := 16) hF.1 hF.2.1 dX5_mayBeMounted_1 (by decide) (fun c_1 => ?_) (fun c_1 => ?_)
  · refine lv_iconst (v := (nI 0)) hF.1 hF.2.1 dX5_mayBeMounted_16 (by decide) ?_
    refine kRetI (v := (nI 0)) hF hr hlk hK hP hD hS hQ rfl () [0] (by decide) rfl (Nat.le_of_ble_eq_true rfl) (Nat.le_of_ble_eq_true rfl) dX5_mayBeMounted_17 ?_
    exact zI_0 (fun h => by first | exact absurd h.1 (Int32.not_lt.mpr (by assumption)) | exact absurd h.2 (Int32.not_lt.mpr (by assumption)))
  · refine lv_iload_n hF.1 hF.2.1 dX5_mayBeMounted_4 rfl (lv_at hl 1 rfl) ?_
    refine lv_aload_n hF.1 hF.2.1 dX5_mayBeMounted_5 rfl (lv_at hl 0 rfl) ?_
    refine kGet (C := RX5) (T := TX5) (N := 4) (index := 28) hF hK hP (inT inBX5) 0 rfl rfl 3 (by decide) rfl (List.mem_cons_of_mem _ mF_X5_28) rfl dX5_mayBeMounted_6 ?_
    refine lv_icmp_ge (tgt := 16) hF.1 hF.2.1 dX5_mayBeMounted_9 (by decide) (fun c_2 => ?_) (fun c_2 => ?_)
    · refine lv_iconst (v := (nI 0)) hF.1 hF.2.1 dX5_mayBeMounted_16 (by decide) ?_
      refine kRetI (v := (nI 0)) hF hr hlk hK hP hD hS hQ rfl () [0] (by decide) rfl (Nat.le_of_ble_eq_true rfl) (Nat.le_of_ble_eq_true rfl) dX5_mayBeMounted_17 ?_
      exact zI_0 (fun h => by first | exact absurd h.1 (Int32.not_lt.mpr (by assumption)) | exact absurd h.2 (Int32.not_lt.mpr (by assumption)))
    · refine lv_iconst (v := (nI 1)) hF.1 hF.2.1 dX5_mayBeMounted_12 (by decide) ?_
      refine lv_goto (tgt := 17) hF.1 hF.2.1 dX5_mayBeMounted_13 (by decide) ?_
      refine kRetI (v := (nI 1)) hF hr hlk hK hP hD hS hQ rfl () [0] (by decide) rfl (Nat.le_of_ble_eq_true rfl) (Nat.le_of_ble_eq_true rfl) dX5_mayBeMounted_17 ?_
      exact zI_1 ⟨Int32.not_le.mp (by assumption), Int32.not_le.mp (by assumption)⟩
set_option maxHeartbeats 4000000 in
set_option maxRecDepth 100000 in
theorem c_X5_isMounted (l : Launch) (G : GG) (sz : Nat) (vo t vr vc vn : Nat) (rF cF : Nat → Int32) (v : Int32) (hi : vp_in v 4) : CtI l G yX5_isMounted wsX5_isMounted 0 0 0 0 sz [.ref vo, .int v] [oC vo 5 [.ref t, .ref vr, .ref vc, .int (nI vn)], aI G vc 4 cF] (fun r (_ : Unit) => r = (zI (¬ cF (ix v) = -1))) (fun (_ : Unit) => [oC vo 5 [.ref t, .ref vr, .ref vc, .int (nI vn)], aI G vc 4 cF]) := by
  refine kMet (Qc := fun A => va_Qi _ (Bw G A _) A) (cc := cX5_isMounted) (nL := 2) (ret := some (.boolean)) (by decide) rfl (Nat.le_of_ble_eq_true rfl) ?_
  intro p e s m args below meth c A Q hF hr hlk hnme hK hP hD hA hS hQ hsz ls hl
  have hl : lv_has ls 2 [(0, .ref vo), (1, .int v)] := hl
  refine lv_aload_n hF.1 hF.2.1 dX5_isMounted_0 rfl (lv_at hl 0 rfl) ?_
  refine kGet (C := RX5) (T := TX5) (N := 4) (index := 15) hF hK hP (inT inBX5) 0 rfl rfl 2 (by decide) rfl (List.mem_cons_of_mem _ mF_X5_15) rfl dX5_isMounted_1 ?_
  refine lv_iload_n hF.1 hF.2.1 dX5_isMounted_4 rfl (lv_at hl 1 rfl) ?_
  refine kIald hF hK hP 1 rfl (by assumption) dX5_isMounted_5 ?_
  refine lv_iconst (v := (-1)) hF.1 hF.2.1 dX5_isMounted_6 (by decide) ?_
  refine lv_icmp_eq (tgt := 14) hF.1 hF.2.1 dX5_isMounted_7 (by decide) (fun c_1 => ?_) (fun c_1 => ?_)
  · refine lv_iconst (v := (nI 0)) hF.1 hF.2.1 dX5_isMounted_14 (by decide) ?_
    refine kRetI (v := (nI 0)) hF hr hlk hK hP hD hS hQ rfl () [0, 1] (by decide) rfl (Nat.le_of_ble_eq_true rfl) (Nat.le_of_ble_eq_true rfl) dX5_isMounted_15 ?_
    exact zI_0 (by simp [*])
  · refine lv_iconst (v := (nI 1)) hF.1 hF.2.1 dX5_isMounted_10 (by decide) ?_
    refine lv_goto (tgt := 15) hF.1 hF.2.1 dX5_isMounted_11 (by decide) ?_
    refine kRetI (v := (nI 1)) hF hr hlk hK hP hD hS hQ rfl () [0, 1] (by decide) rfl (Nat.le_of_ble_eq_true rfl) (Nat.le_of_ble_eq_true rfl) dX5_isMounted_15 ?_
    exact zI_1 (by assumption)
set_option maxHeartbeats 4000000 in
set_option maxRecDepth 100000 in
theorem c_X5_cover (l : Launch) (G : GG) (sz : Nat) (vo t vr vc vn : Nat) (rF cF : Nat → Int32) (v d : Int32) (hi : vp_in v 4) : CtV l G yX5_cover wsX5_cover 0 0 0 0 sz [.ref vo, .int v, .int d] [oC vo 5 [.ref t, .ref vr, .ref vc, .int (nI vn)], aI G vc 4 cF] (fun (_ : Unit) => True) (fun (_ : Unit) => [oC vo 5 [.ref t, .ref vr, .ref vc, .int (nI vn)], aI G vc 4 (upd cF (ix v) d)]) := by
  refine kMet (Qc := fun A => va_Qv _ (Bw G A _) A) (cc := cX5_cover) (nL := 3) (ret := none) (by decide) rfl (Nat.le_of_ble_eq_true rfl) ?_
  intro p e s m args below meth c A Q hF hr hlk hnme hK hP hD hA hS hQ hsz ls hl
  have hl : lv_has ls 3 [(0, .ref vo), (1, .int v), (2, .int d)] := hl
  refine lv_aload_n hF.1 hF.2.1 dX5_cover_0 rfl (lv_at hl 0 rfl) ?_
  refine kGet (C := RX5) (T := TX5) (N := 4) (index := 15) hF hK hP (inT inBX5) 0 rfl rfl 2 (by decide) rfl (List.mem_cons_of_mem _ mF_X5_15) rfl dX5_cover_1 ?_
  refine lv_iload_n hF.1 hF.2.1 dX5_cover_4 rfl (lv_at hl 1 rfl) ?_
  refine lv_iload_n hF.1 hF.2.1 dX5_cover_5 rfl (lv_at hl 2 rfl) ?_
  refine kIast hF hK hP hD hS 1 rfl (by assumption) dX5_cover_6 (fun H locs hP hD hS => ?_)
  have hP : PG G [oC vo 5 [.ref t, .ref vr, .ref vc, .int (nI vn)], aI G vc 4 (upd cF (ix v) d)] H := hP
  have hD : va_D A [oC vo 5 [.ref t, .ref vr, .ref vc, .int (nI vn)], aI G vc 4 (upd cF (ix v) d)] := hD
  refine kRetV hF hr hlk hK hP hD hS hQ () [0, 1] (by decide) rfl (Nat.le_of_ble_eq_true rfl) (Nat.le_of_ble_eq_true rfl) dX5_cover_7 ?_
  exact (by first | rfl | trivial | exact zI_1 (by first | assumption | omega) | exact zI_0 (by first | assumption | omega) | (simp_all; done))
set_option maxHeartbeats 4000000 in
set_option maxRecDepth 100000 in
theorem c_X5_uncover (l : Launch) (G : GG) (sz : Nat) (vo t vr vc vn : Nat) (rF cF : Nat → Int32) (v : Int32) (hi : vp_in v 4) : CtV l G yX5_uncover wsX5_uncover 0 0 0 0 sz [.ref vo, .int v] [oC vo 5 [.ref t, .ref vr, .ref vc, .int (nI vn)], aI G vc 4 cF] (fun (_ : Unit) => True) (fun (_ : Unit) => [oC vo 5 [.ref t, .ref vr, .ref vc, .int (nI vn)], aI G vc 4 (upd cF (ix v) (-1))]) := by
  refine kMet (Qc := fun A => va_Qv _ (Bw G A _) A) (cc := cX5_uncover) (nL := 2) (ret := none) (by decide) rfl (Nat.le_of_ble_eq_true rfl) ?_
  intro p e s m args below meth c A Q hF hr hlk hnme hK hP hD hA hS hQ hsz ls hl
  have hl : lv_has ls 2 [(0, .ref vo), (1, .int v)] := hl
  refine lv_aload_n hF.1 hF.2.1 dX5_uncover_0 rfl (lv_at hl 0 rfl) ?_
  refine kGet (C := RX5) (T := TX5) (N := 4) (index := 15) hF hK hP (inT inBX5) 0 rfl rfl 2 (by decide) rfl (List.mem_cons_of_mem _ mF_X5_15) rfl dX5_uncover_1 ?_
  refine lv_iload_n hF.1 hF.2.1 dX5_uncover_4 rfl (lv_at hl 1 rfl) ?_
  refine lv_iconst (v := (-1)) hF.1 hF.2.1 dX5_uncover_5 (by decide) ?_
  refine kIast hF hK hP hD hS 1 rfl (by assumption) dX5_uncover_6 (fun H locs hP hD hS => ?_)
  have hP : PG G [oC vo 5 [.ref t, .ref vr, .ref vc, .int (nI vn)], aI G vc 4 (upd cF (ix v) (-1))] H := hP
  have hD : va_D A [oC vo 5 [.ref t, .ref vr, .ref vc, .int (nI vn)], aI G vc 4 (upd cF (ix v) (-1))] := hD
  refine kRetV hF hr hlk hK hP hD hS hQ () [0, 1] (by decide) rfl (Nat.le_of_ble_eq_true rfl) (Nat.le_of_ble_eq_true rfl) dX5_uncover_7 ?_
  exact (by first | rfl | trivial | exact zI_1 (by first | assumption | omega) | exact zI_0 (by first | assumption | omega) | (simp_all; done))
set_option maxHeartbeats 4000000 in
set_option maxRecDepth 100000 in
theorem c_X5_covering (l : Launch) (G : GG) (sz : Nat) (vo t vr vc vn : Nat) (rF cF : Nat → Int32) (o : Int32) (hvn : 1 ≤ vn ∧ vn ≤ 4) : CtI l G yX5_covering wsX5_covering 0 0 0 0 sz [.ref vo, .int o] [oC vo 5 [.ref t, .ref vr, .ref vc, .int (nI vn)], aI G vc 4 cF] (fun r (_ : Unit) => r = (nI (covN cF o vn))) (fun (_ : Unit) => [oC vo 5 [.ref t, .ref vr, .ref vc, .int (nI vn)], aI G vc 4 cF]) := by
  refine kMet (Qc := fun A => va_Qi _ (Bw G A _) A) (cc := cX5_covering) (nL := 3) (ret := some (.int)) (by decide) rfl (Nat.le_of_ble_eq_true rfl) ?_
  intro p e s m args below meth c A Q hF hr hlk hnme hK hP hD hA hS hQ hsz ls hl
  have hl : lv_has ls 3 [(0, .ref vo), (1, .int o)] := hl
  refine lv_iconst (v := (nI 1)) hF.1 hF.2.1 dX5_covering_0 (by decide) ?_
  refine lv_istore_n (lv' := [(2, .int (nI 1)), (0, .ref vo), (1, .int o)]) hF.1 hF.2.1 dX5_covering_1 rfl hl (by decide) rfl (fun ls hl => ?_)
  have loop_2 : ∀ (n_2 : Nat) (k : Nat), vn - k < n_2 → (1 ≤ k ∧ k ≤ vn) → (scan (fun v => !decide (cF v = o)) (vn - k) k = scan (fun v => !decide (cF v = o)) (vn - 1) 1) → ∀ (H : Heap) (locs : List Loc) (ls : Array Slot), PG G [oC vo 5 [.ref t, .ref vr, .ref vc, .int (nI vn)], aI G vc 4 cF] H → va_D A [oC vo 5 [.ref t, .ref vr, .ref vc, .int (nI vn)], aI G vc 4 cF] → va_S A s.heap H locs → lv_has ls 3 [(2, .int (nI k)), (0, .ref vo), (1, .int o)] → W p l e (Rm 0 0 0 0) s m args below meth c H locs 0 0 Q (F0 m 2 ls []) := by
    intro n_2
    induction n_2 with
    | zero => intro k hm; exact absurd hm (Nat.not_lt_zero _)
    | succ n_2 ih_2 =>
      intro k hm_2 hk hR H locs ls hP hD hS hl
      refine lv_iload_n hF.1 hF.2.1 dX5_covering_2 rfl (lv_at hl 0 rfl) ?_
      refine lv_aload_n hF.1 hF.2.1 dX5_covering_3 rfl (lv_at hl 1 rfl) ?_
      refine kGet (C := RX5) (T := TX5) (N := 4) (index := 28) hF hK hP (inT inBX5) 0 rfl rfl 3 (by decide) rfl (List.mem_cons_of_mem _ mF_X5_28) rfl dX5_covering_4 ?_
      refine kGeN (tgt := 28) hF dX5_covering_7 (by decide) (by omega) (by omega) (fun c_1 => ?_) (fun c_1 => ?_)
      · refine lv_iconst (v := (nI 0)) hF.1 hF.2.1 dX5_covering_28 (by decide) ?_
        refine kRetI (v := (nI 0)) hF hr hlk hK hP hD hS hQ rfl () [0, 1] (by decide) rfl (Nat.le_of_ble_eq_true rfl) (Nat.le_of_ble_eq_true rfl) dX5_covering_29 ?_
        rw [covN_f (by rw [← hR, scan_e (by omega)]; omega)]
      · refine lv_aload_n hF.1 hF.2.1 dX5_covering_10 rfl (lv_at hl 1 rfl) ?_
        refine kGet (C := RX5) (T := TX5) (N := 4) (index := 15) hF hK hP (inT inBX5) 0 rfl rfl 2 (by decide) rfl (List.mem_cons_of_mem _ mF_X5_15) rfl dX5_covering_11 ?_
        refine lv_iload_n hF.1 hF.2.1 dX5_covering_14 rfl (lv_at hl 0 rfl) ?_
        refine kIaldN hF hK hP 1 rfl (by omega) (by decide) dX5_covering_15 ?_
        refine lv_iload_n hF.1 hF.2.1 dX5_covering_16 rfl (lv_at hl 2 rfl) ?_
        refine lv_icmp_ne (tgt := 22) hF.1 hF.2.1 dX5_covering_17 (by decide) (fun c_2 => ?_) (fun c_2 => ?_)
        · refine lv_iinc (v := (nI (k + 1))) (lv' := [(2, .int (nI (k + 1))), (0, .ref vo), (1, .int o)]) hF.1 hF.2.1 dX5_covering_22 hl (k := 0) rfl (nI_inc1 _) (by decide) rfl (fun ls hl => ?_)
          refine lv_goto (tgt := 2) hF.1 hF.2.1 dX5_covering_25 (by decide) ?_
          exact ih_2 (k + 1) (by omega) (by omega) (by rw [← hR]; exact (scan_t (by omega) (by simp [*])).symm) H locs ls hP hD hS (lv_sub hl [0, 1, 2] rfl)
        · refine lv_iload_n hF.1 hF.2.1 dX5_covering_20 rfl (lv_at hl 0 rfl) ?_
          refine kRetI (v := (nI k)) hF hr hlk hK hP hD hS hQ rfl () [0, 1] (by decide) rfl (Nat.le_of_ble_eq_true rfl) (Nat.le_of_ble_eq_true rfl) dX5_covering_21 ?_
          rw [covN_t (k := k) (by rw [← hR, scan_f (by omega) (by simp [*])]) (by omega)]
  exact loop_2 _ 1 (Nat.lt_succ_self _) (by omega) (rfl) _ _ _ hP hD hS (lv_sub hl [0, 1, 2] rfl)
set_option maxHeartbeats 4000000 in
set_option maxRecDepth 100000 in
theorem c_X5_mountedWithRoot (l : Launch) (G : GG) (sz : Nat) (vo t vr vc vn : Nat) (rF cF : Nat → Int32) (o : Int32) (hvn : 1 ≤ vn ∧ vn ≤ 4) : CtI l G yX5_mountedWithRoot wsX5_mountedWithRoot 0 0 0 0 sz [.ref vo, .int o] [oC vo 5 [.ref t, .ref vr, .ref vc, .int (nI vn)], aI G vr 4 rF, aI G vc 4 cF] (fun r (_ : Unit) => r = (rI (mwrN rF cF o vn) vn)) (fun (_ : Unit) => [oC vo 5 [.ref t, .ref vr, .ref vc, .int (nI vn)], aI G vr 4 rF, aI G vc 4 cF]) := by
  refine kMet (Qc := fun A => va_Qi _ (Bw G A _) A) (cc := cX5_mountedWithRoot) (nL := 3) (ret := some (.int)) (by decide) rfl (Nat.le_of_ble_eq_true rfl) ?_
  intro p e s m args below meth c A Q hF hr hlk hnme hK hP hD hA hS hQ hsz ls hl
  have hl : lv_has ls 3 [(0, .ref vo), (1, .int o)] := hl
  refine lv_iconst (v := (nI 1)) hF.1 hF.2.1 dX5_mountedWithRoot_0 (by decide) ?_
  refine lv_istore_n (lv' := [(2, .int (nI 1)), (0, .ref vo), (1, .int o)]) hF.1 hF.2.1 dX5_mountedWithRoot_1 rfl hl (by decide) rfl (fun ls hl => ?_)
  have loop_2 : ∀ (n_2 : Nat) (k : Nat), vn - k < n_2 → (1 ≤ k ∧ k ≤ vn) → (scan (fun v => !(decide (rF v = o) && !decide (cF v = -1))) (vn - k) k = scan (fun v => !(decide (rF v = o) && !decide (cF v = -1))) (vn - 1) 1) → ∀ (H : Heap) (locs : List Loc) (ls : Array Slot), PG G [oC vo 5 [.ref t, .ref vr, .ref vc, .int (nI vn)], aI G vr 4 rF, aI G vc 4 cF] H → va_D A [oC vo 5 [.ref t, .ref vr, .ref vc, .int (nI vn)], aI G vr 4 rF, aI G vc 4 cF] → va_S A s.heap H locs → lv_has ls 3 [(2, .int (nI k)), (0, .ref vo), (1, .int o)] → W p l e (Rm 0 0 0 0) s m args below meth c H locs 0 0 Q (F0 m 2 ls []) := by
    intro n_2
    induction n_2 with
    | zero => intro k hm; exact absurd hm (Nat.not_lt_zero _)
    | succ n_2 ih_2 =>
      intro k hm_2 hk hR H locs ls hP hD hS hl
      refine lv_iload_n hF.1 hF.2.1 dX5_mountedWithRoot_2 rfl (lv_at hl 0 rfl) ?_
      refine lv_aload_n hF.1 hF.2.1 dX5_mountedWithRoot_3 rfl (lv_at hl 1 rfl) ?_
      refine kGet (C := RX5) (T := TX5) (N := 4) (index := 28) hF hK hP (inT inBX5) 0 rfl rfl 3 (by decide) rfl (List.mem_cons_of_mem _ mF_X5_28) rfl dX5_mountedWithRoot_4 ?_
      refine kGeN (tgt := 38) hF dX5_mountedWithRoot_7 (by decide) (by omega) (by omega) (fun c_1 => ?_) (fun c_1 => ?_)
      · refine lv_iconst (v := (-1)) hF.1 hF.2.1 dX5_mountedWithRoot_38 (by decide) ?_
        refine kRetI (v := (-1)) hF hr hlk hK hP hD hS hQ rfl () [0, 1, 2] (by decide) rfl (Nat.le_of_ble_eq_true rfl) (Nat.le_of_ble_eq_true rfl) dX5_mountedWithRoot_39 ?_
        rw [show mwrN rF cF o vn = _ from hR.symm, scan_e (by omega), rI_f (by omega)]
      · refine lv_aload_n hF.1 hF.2.1 dX5_mountedWithRoot_10 rfl (lv_at hl 1 rfl) ?_
        refine kGet (C := RX5) (T := TX5) (N := 4) (index := 9) hF hK hP (inT inBX5) 0 rfl rfl 1 (by decide) rfl (List.mem_cons_of_mem _ mF_X5_9) rfl dX5_mountedWithRoot_11 ?_
        refine lv_iload_n hF.1 hF.2.1 dX5_mountedWithRoot_14 rfl (lv_at hl 0 rfl) ?_
        refine kIaldN hF hK hP 1 rfl (by omega) (by decide) dX5_mountedWithRoot_15 ?_
        refine lv_iload_n hF.1 hF.2.1 dX5_mountedWithRoot_16 rfl (lv_at hl 2 rfl) ?_
        refine lv_icmp_ne (tgt := 32) hF.1 hF.2.1 dX5_mountedWithRoot_17 (by decide) (fun c_2 => ?_) (fun c_2 => ?_)
        · refine lv_iinc (v := (nI (k + 1))) (lv' := [(2, .int (nI (k + 1))), (0, .ref vo), (1, .int o)]) hF.1 hF.2.1 dX5_mountedWithRoot_32 hl (k := 0) rfl (nI_inc1 _) (by decide) rfl (fun ls hl => ?_)
          refine lv_goto (tgt := 2) hF.1 hF.2.1 dX5_mountedWithRoot_35 (by decide) ?_
          exact ih_2 (k + 1) (by omega) (by omega) (by rw [← hR]; exact (scan_t (by omega) (by simp [*])).symm) H locs ls hP hD hS (lv_sub hl [0, 1, 2] rfl)
        · refine lv_aload_n hF.1 hF.2.1 dX5_mountedWithRoot_20 rfl (lv_at hl 1 rfl) ?_
          refine kGet (C := RX5) (T := TX5) (N := 4) (index := 15) hF hK hP (inT inBX5) 0 rfl rfl 2 (by decide) rfl (List.mem_cons_of_mem _ mF_X5_15) rfl dX5_mountedWithRoot_21 ?_
          refine lv_iload_n hF.1 hF.2.1 dX5_mountedWithRoot_24 rfl (lv_at hl 0 rfl) ?_
          refine kIaldN hF hK hP 2 rfl (by omega) (by decide) dX5_mountedWithRoot_25 ?_
          refine lv_iconst (v := (-1)) hF.1 hF.2.1 dX5_mountedWithRoot_26 (by decide) ?_
          refine lv_icmp_eq (tgt := 32) hF.1 hF.2.1 dX5_mountedWithRoot_27 (by decide) (fun c_3 => ?_) (fun c_3 => ?_)
          · refine lv_iinc (v := (nI (k + 1))) (lv' := [(2, .int (nI (k + 1))), (0, .ref vo), (1, .int o)]) hF.1 hF.2.1 dX5_mountedWithRoot_32 hl (k := 0) rfl (nI_inc1 _) (by decide) rfl (fun ls hl => ?_)
            refine lv_goto (tgt := 2) hF.1 hF.2.1 dX5_mountedWithRoot_35 (by decide) ?_
            exact ih_2 (k + 1) (by omega) (by omega) (by rw [← hR]; exact (scan_t (by omega) (by simp [*])).symm) H locs ls hP hD hS (lv_sub hl [0, 1, 2] rfl)
          · refine lv_iload_n hF.1 hF.2.1 dX5_mountedWithRoot_30 rfl (lv_at hl 0 rfl) ?_
            refine kRetI (v := (nI k)) hF hr hlk hK hP hD hS hQ rfl () [0, 1, 2] (by decide) rfl (Nat.le_of_ble_eq_true rfl) (Nat.le_of_ble_eq_true rfl) dX5_mountedWithRoot_31 ?_
            rw [show mwrN rF cF o vn = _ from hR.symm, scan_f (by omega) (by simp [*]), rI_t (by omega)]
  exact loop_2 _ 1 (Nat.lt_succ_self _) (by omega) (rfl) _ _ _ hP hD hS (lv_sub hl [0, 1, 2] rfl)
set_option maxHeartbeats 4000000 in
set_option maxRecDepth 100000 in
theorem c_X5_hasCovered (l : Launch) (G : GG) (sz : Nat) (vo t vr vc vn : Nat) (rF cF : Nat → Int32) (tk tm to_ tv tp tl : Nat) (vF : Nat → Int32) (w : Int32) (hvn : 1 ≤ vn ∧ vn ≤ 4) (hcr : ∀ v, v < 4 → cF v = -1 ∨ vp_in (cF v) 40) : CtI l G yX5_hasCovered wsX5_hasCovered 1 21 0 0 sz [.ref vo, .int w] [oC vo 5 [.ref t, .ref vr, .ref vc, .int (nI vn)], aI G vc 4 cF, oC t 4 [.ref tk, .ref tm, .ref to_, .ref tv, .ref tp, .ref tl], aI G tv 40 vF] (fun r (_ : Unit) => r = (zI (scan (fun v => !(!decide (cF v = -1) && decide (vF (ix (cF v)) = w))) (vn - 1) 1 < vn))) (fun (_ : Unit) => [oC vo 5 [.ref t, .ref vr, .ref vc, .int (nI vn)], aI G vc 4 cF, oC t 4 [.ref tk, .ref tm, .ref to_, .ref tv, .ref tp, .ref tl], aI G tv 40 vF]) := by
  refine kMet (Qc := fun A => va_Qi _ (Bw G A _) A) (cc := cX5_hasCovered) (nL := 3) (ret := some (.boolean)) (by decide) rfl (Nat.le_of_ble_eq_true rfl) ?_
  intro p e s m args below meth c A Q hF hr hlk hnme hK hP hD hA hS hQ hsz ls hl
  have hl : lv_has ls 3 [(0, .ref vo), (1, .int w)] := hl
  refine lv_iconst (v := (nI 1)) hF.1 hF.2.1 dX5_hasCovered_0 (by decide) ?_
  refine lv_istore_n (lv' := [(2, .int (nI 1)), (0, .ref vo), (1, .int w)]) hF.1 hF.2.1 dX5_hasCovered_1 rfl hl (by decide) rfl (fun ls hl => ?_)
  have loop_2 : ∀ (n_2 : Nat) (k : Nat), vn - k < n_2 → (1 ≤ k ∧ k ≤ vn) → (scan (fun v => !(!decide (cF v = -1) && decide (vF (ix (cF v)) = w))) (vn - k) k = scan (fun v => !(!decide (cF v = -1) && decide (vF (ix (cF v)) = w))) (vn - 1) 1) → ∀ (H : Heap) (locs : List Loc) (ls : Array Slot), PG G [oC vo 5 [.ref t, .ref vr, .ref vc, .int (nI vn)], aI G vc 4 cF, oC t 4 [.ref tk, .ref tm, .ref to_, .ref tv, .ref tp, .ref tl], aI G tv 40 vF] H → va_D A [oC vo 5 [.ref t, .ref vr, .ref vc, .int (nI vn)], aI G vc 4 cF, oC t 4 [.ref tk, .ref tm, .ref to_, .ref tv, .ref tp, .ref tl], aI G tv 40 vF] → va_S A s.heap H locs → lv_has ls 3 [(2, .int (nI k)), (0, .ref vo), (1, .int w)] → W p l e (Rm 1 0 0 21) s m args below meth c H locs 0 0 Q (F0 m 2 ls []) := by
    intro n_2
    induction n_2 with
    | zero => intro k hm; exact absurd hm (Nat.not_lt_zero _)
    | succ n_2 ih_2 =>
      intro k hm_2 hk hR H locs ls hP hD hS hl
      refine lv_iload_n hF.1 hF.2.1 dX5_hasCovered_2 rfl (lv_at hl 0 rfl) ?_
      refine lv_aload_n hF.1 hF.2.1 dX5_hasCovered_3 rfl (lv_at hl 1 rfl) ?_
      refine kGet (C := RX5) (T := TX5) (N := 4) (index := 28) hF hK hP (inT inBX5) 0 rfl rfl 3 (by decide) rfl (List.mem_cons_of_mem _ mF_X5_28) rfl dX5_hasCovered_4 ?_
      refine kGeN (tgt := 45) hF dX5_hasCovered_7 (by decide) (by omega) (by omega) (fun c_1 => ?_) (fun c_1 => ?_)
      · refine lv_iconst (v := (nI 0)) hF.1 hF.2.1 dX5_hasCovered_45 (by decide) ?_
        refine kRetI (v := (nI 0)) hF hr hlk hK hP hD hS hQ rfl () [0, 1, 2, 3] (by decide) rfl (Nat.le_of_ble_eq_true rfl) (Nat.le_of_ble_eq_true rfl) dX5_hasCovered_46 ?_
        exact zI_0 (by rw [← hR, scan_e (by omega)]; omega)
      · refine lv_aload_n hF.1 hF.2.1 dX5_hasCovered_10 rfl (lv_at hl 1 rfl) ?_
        refine kGet (C := RX5) (T := TX5) (N := 4) (index := 15) hF hK hP (inT inBX5) 0 rfl rfl 2 (by decide) rfl (List.mem_cons_of_mem _ mF_X5_15) rfl dX5_hasCovered_11 ?_
        refine lv_iload_n hF.1 hF.2.1 dX5_hasCovered_14 rfl (lv_at hl 0 rfl) ?_
        refine kIaldN hF hK hP 1 rfl (by omega) (by decide) dX5_hasCovered_15 ?_
        refine lv_iconst (v := (-1)) hF.1 hF.2.1 dX5_hasCovered_16 (by decide) ?_
        refine lv_icmp_eq (tgt := 39) hF.1 hF.2.1 dX5_hasCovered_17 (by decide) (fun c_2 => ?_) (fun c_2 => ?_)
        · refine lv_iinc (v := (nI (k + 1))) (lv' := [(2, .int (nI (k + 1))), (0, .ref vo), (1, .int w)]) hF.1 hF.2.1 dX5_hasCovered_39 hl (k := 0) rfl (nI_inc1 _) (by decide) rfl (fun ls hl => ?_)
          refine lv_goto (tgt := 2) hF.1 hF.2.1 dX5_hasCovered_42 (by decide) ?_
          exact ih_2 (k + 1) (by omega) (by omega) (by rw [← hR]; exact (scan_t (by omega) (by simp [*])).symm) H locs ls hP hD hS (lv_sub hl [0, 1, 2] rfl)
        · refine lv_aload_n hF.1 hF.2.1 dX5_hasCovered_20 rfl (lv_at hl 1 rfl) ?_
          refine kGet (C := RX5) (T := TX5) (N := 4) (index := 18) hF hK hP (inT inBX5) 0 rfl rfl 0 (by decide) rfl (List.mem_cons_of_mem _ mF_X5_18) rfl dX5_hasCovered_21 ?_
          refine lv_aload_n hF.1 hF.2.1 dX5_hasCovered_24 rfl (lv_at hl 1 rfl) ?_
          refine kGet (C := RX5) (T := TX5) (N := 4) (index := 15) hF hK hP (inT inBX5) 0 rfl rfl 2 (by decide) rfl (List.mem_cons_of_mem _ mF_X5_15) rfl dX5_hasCovered_25 ?_
          refine lv_iload_n hF.1 hF.2.1 dX5_hasCovered_28 rfl (lv_at hl 0 rfl) ?_
          refine kIaldN hF hK hP 1 rfl (by omega) (by decide) dX5_hasCovered_29 ?_
          refine kCallI (wr := [oC vo 5 [.ref t, .ref vr, .ref vc, .int (nI vn)], aI G vc 4 cF]) (va_runV (As := [.int (cF k)]) (rest := []) hF (c_X4_volumeOf l G _ t tk tm to_ tv tp tl vF (cF k) (by rcases hcr k (by omega) with h | h; exact absurd h (by assumption); exact h)) (cwVB 1 hF rfl mL_X5_32 mI_X4_volumeOf mS_X4_volumeOf mN_X4 mC_X4_volumeOf rfl hd_X4_volumeOf rfl rfl ⟨Nat.le_of_ble_eq_true rfl, Nat.le_of_ble_eq_true rfl⟩) (kPre hK hP hD [2, 3] (by decide) rfl (q0 := 2) (ci := 4) rfl rfl rfl) rfl rfl hl.1 rfl (lv_room (Nat.le_of_ble_eq_true rfl)) dX5_hasCovered_30 ⟨Nat.le_of_ble_eq_true rfl, Nat.le_of_ble_eq_true rfl⟩) hP hD hS hA [2, 3] [0, 1] rfl rfl (by decide) (by decide) (fun r u H locs hw_3 hP hD hS => ?_)
          have hw_3 := hw_3.symm
          subst hw_3
          have hP : PG G [oC vo 5 [.ref t, .ref vr, .ref vc, .int (nI vn)], aI G vc 4 cF, oC t 4 [.ref tk, .ref tm, .ref to_, .ref tv, .ref tp, .ref tl], aI G tv 40 vF] H := hP
          have hD : va_D A [oC vo 5 [.ref t, .ref vr, .ref vc, .int (nI vn)], aI G vc 4 cF, oC t 4 [.ref tk, .ref tm, .ref to_, .ref tv, .ref tp, .ref tl], aI G tv 40 vF] := hD
          refine lv_iload_n hF.1 hF.2.1 dX5_hasCovered_33 rfl (lv_at hl 2 rfl) ?_
          refine lv_icmp_ne (tgt := 39) hF.1 hF.2.1 dX5_hasCovered_34 (by decide) (fun c_4 => ?_) (fun c_4 => ?_)
          · refine lv_iinc (v := (nI (k + 1))) (lv' := [(2, .int (nI (k + 1))), (0, .ref vo), (1, .int w)]) hF.1 hF.2.1 dX5_hasCovered_39 hl (k := 0) rfl (nI_inc1 _) (by decide) rfl (fun ls hl => ?_)
            refine lv_goto (tgt := 2) hF.1 hF.2.1 dX5_hasCovered_42 (by decide) ?_
            exact ih_2 (k + 1) (by omega) (by omega) (by rw [← hR]; exact (scan_t (by omega) (by simp [*])).symm) H locs ls hP hD hS (lv_sub hl [0, 1, 2] rfl)
          · refine lv_iconst (v := (nI 1)) hF.1 hF.2.1 dX5_hasCovered_37 (by decide) ?_
            refine kRetI (v := (nI 1)) hF hr hlk hK hP hD hS hQ rfl () [0, 1, 2, 3] (by decide) rfl (Nat.le_of_ble_eq_true rfl) (Nat.le_of_ble_eq_true rfl) dX5_hasCovered_38 ?_
            exact zI_1 (by rw [← hR, scan_f (by omega) (by simp [*])]; omega)
  exact loop_2 _ 1 (Nat.lt_succ_self _) (by omega) (rfl) _ _ _ hP hD hS (lv_sub hl [0, 1, 2] rfl)
set_option maxHeartbeats 4000000 in
set_option maxRecDepth 100000 in
theorem c_X5_top (l : Launch) (G : GG) (sz : Nat) (vo t vr vc vn : Nat) (rF cF : Nat → Int32) (o : Int32) (hvn : 1 ≤ vn ∧ vn ≤ 4) : CtI l G yX5_top wsX5_top 1 22 0 0 sz [.ref vo, .int o] [oC vo 5 [.ref t, .ref vr, .ref vc, .int (nI vn)], aI G vr 4 rF, aI G vc 4 cF] (fun r (_ : Unit) => r = (topC rF cF vn 4 o)) (fun (_ : Unit) => [oC vo 5 [.ref t, .ref vr, .ref vc, .int (nI vn)], aI G vr 4 rF, aI G vc 4 cF]) := by
  refine kMet (Qc := fun A => va_Qi _ (Bw G A _) A) (cc := cX5_top) (nL := 5) (ret := some (.int)) (by decide) rfl (Nat.le_of_ble_eq_true rfl) ?_
  intro p e s m args below meth c A Q hF hr hlk hnme hK hP hD hA hS hQ hsz ls hl
  have hl : lv_has ls 5 [(0, .ref vo), (1, .int o)] := hl
  refine lv_iload_n hF.1 hF.2.1 dX5_top_0 rfl (lv_at hl 1 rfl) ?_
  refine lv_istore_n (lv' := [(2, .int o), (0, .ref vo), (1, .int o)]) hF.1 hF.2.1 dX5_top_1 rfl hl (by decide) rfl (fun ls hl => ?_)
  refine lv_iconst (v := (nI 0)) hF.1 hF.2.1 dX5_top_2 (by decide) ?_
  refine lv_istore_n (lv' := [(3, .int (nI 0)), (2, .int o), (0, .ref vo), (1, .int o)]) hF.1 hF.2.1 dX5_top_3 rfl hl (by decide) rfl (fun ls hl => ?_)
  have loop_4 : ∀ (n_4 : Nat) (k : Nat) (h : Int32), 4 - k < n_4 → (k ≤ 4) → (topC rF cF vn (4 - k) h = topC rF cF vn 4 o) → ∀ (H : Heap) (locs : List Loc) (ls : Array Slot), PG G [oC vo 5 [.ref t, .ref vr, .ref vc, .int (nI vn)], aI G vr 4 rF, aI G vc 4 cF] H → va_D A [oC vo 5 [.ref t, .ref vr, .ref vc, .int (nI vn)], aI G vr 4 rF, aI G vc 4 cF] → va_S A s.heap H locs → lv_has ls 5 [(3, .int (nI k)), (2, .int h), (0, .ref vo), (1, .int o)] → W p l e (Rm 1 0 0 22) s m args below meth c H locs 0 0 Q (F0 m 4 ls []) := by
    intro n_4
    induction n_4 with
    | zero => intro k h hm; exact absurd hm (Nat.not_lt_zero _)
    | succ n_4 ih_4 =>
      intro k h hm_4 hk hR H locs ls hP hD hS hl
      have hlt := covN_lt (cF := cF) (o := h) hvn
      refine lv_iload_n hF.1 hF.2.1 dX5_top_4 rfl (lv_at hl 0 rfl) ?_
      refine lv_iconst (v := (nI 4)) hF.1 hF.2.1 dX5_top_5 (by decide) ?_
      refine kGeN (tgt := 37) hF dX5_top_6 (by decide) (by omega) (by omega) (fun c_1 => ?_) (fun c_1 => ?_)
      · refine lv_iload_n hF.1 hF.2.1 dX5_top_37 rfl (lv_at hl 1 rfl) ?_
        refine kRetI (v := h) hF hr hlk hK hP hD hS hQ rfl () [0, 1, 2] (by decide) rfl (Nat.le_of_ble_eq_true rfl) (Nat.le_of_ble_eq_true rfl) dX5_top_38 ?_
        rw [← hR]; first | rw [topC_e (by omega)] | rw [topC_r (by omega) (by omega)]
      · refine lv_aload_n hF.1 hF.2.1 dX5_top_9 rfl (lv_at hl 2 rfl) ?_
        refine lv_iload_n hF.1 hF.2.1 dX5_top_10 rfl (lv_at hl 1 rfl) ?_
        refine kCallI (wr := [aI G vr 4 rF]) (va_runV (As := [.int h]) (rest := []) hF (c_X5_covering l G _ vo t vr vc vn rF cF h (by first | assumption | omega)) (cwVB 1 hF rfl mL_X5_38 mI_X5_covering mS_X5_covering mN_X5 mC_X5_covering rfl hd_X5_covering rfl rfl ⟨Nat.le_of_ble_eq_true rfl, Nat.le_of_ble_eq_true rfl⟩) (kPre hK hP hD [0, 2] (by decide) rfl (q0 := 0) (ci := 5) rfl rfl rfl) rfl rfl hl.1 rfl (lv_room (Nat.le_of_ble_eq_true rfl)) dX5_top_11 ⟨Nat.le_of_ble_eq_true rfl, Nat.le_of_ble_eq_true rfl⟩) hP hD hS hA [0, 2] [1] rfl rfl (by decide) (by decide) (fun r u H locs hw_2 hP hD hS => ?_)
        have hw_2 := hw_2.symm
        subst hw_2
        have hP : PG G [oC vo 5 [.ref t, .ref vr, .ref vc, .int (nI vn)], aI G vr 4 rF, aI G vc 4 cF] H := va_P.sub hP [1, 0, 2] rfl
        have hD : va_D A [oC vo 5 [.ref t, .ref vr, .ref vc, .int (nI vn)], aI G vr 4 rF, aI G vc 4 cF] := va_D.sub hD [1, 0, 2] (by decide) rfl
        have hfc_3 := @covN_lt cF h vn (by first | assumption | omega)
        refine lv_istore (lv' := [(4, .int (nI (covN cF h vn))), (3, .int (nI k)), (2, .int h), (0, .ref vo), (1, .int o)]) hF.1 hF.2.1 dX5_top_14 hl (by decide) rfl (fun ls hl => ?_)
        refine lv_iload hF.1 hF.2.1 dX5_top_16 (lv_at hl 0 rfl) ?_
        refine kIfNeN (tgt := 23) hF dX5_top_18 (by decide) (by omega) (fun c_4 => ?_) (fun c_4 => ?_)
        · refine lv_aload_n hF.1 hF.2.1 dX5_top_23 rfl (lv_at hl 3 rfl) ?_
          refine kGet (C := RX5) (T := TX5) (N := 4) (index := 9) hF hK hP (inT inBX5) 0 rfl rfl 1 (by decide) rfl (List.mem_cons_of_mem _ mF_X5_9) rfl dX5_top_24 ?_
          refine lv_iload hF.1 hF.2.1 dX5_top_27 (lv_at hl 0 rfl) ?_
          refine kIaldN hF hK hP 1 rfl (by omega) (by decide) dX5_top_29 ?_
          refine lv_istore_n (lv' := [(2, .int (rF (covN cF h vn))), (4, .int (nI (covN cF h vn))), (3, .int (nI k)), (0, .ref vo), (1, .int o)]) hF.1 hF.2.1 dX5_top_30 rfl hl (by decide) rfl (fun ls hl => ?_)
          refine lv_iinc (v := (nI (k + 1))) (lv' := [(3, .int (nI (k + 1))), (2, .int (rF (covN cF h vn))), (4, .int (nI (covN cF h vn))), (0, .ref vo), (1, .int o)]) hF.1 hF.2.1 dX5_top_31 hl (k := 2) rfl (nI_inc1 _) (by decide) rfl (fun ls hl => ?_)
          refine lv_goto (tgt := 4) hF.1 hF.2.1 dX5_top_34 (by decide) ?_
          exact ih_4 (k + 1) (rF (covN cF h vn)) (by omega) (by omega) (by rw [← hR]; exact (topC_s (by omega) (by omega)).symm) H locs ls hP hD hS (lv_sub hl [0, 1, 3, 4] rfl)
        · refine lv_iload_n hF.1 hF.2.1 dX5_top_21 rfl (lv_at hl 2 rfl) ?_
          refine kRetI (v := h) hF hr hlk hK hP hD hS hQ rfl () [0, 1, 2] (by decide) rfl (Nat.le_of_ble_eq_true rfl) (Nat.le_of_ble_eq_true rfl) dX5_top_22 ?_
          rw [← hR]; first | rw [topC_e (by omega)] | rw [topC_r (by omega) (by omega)]
  exact loop_4 _ 0 o (Nat.lt_succ_self _) (by first | assumption | omega) (rfl) _ _ _ hP hD hS (lv_sub hl [0, 1, 2, 3] rfl)
set_option maxHeartbeats 4000000 in
set_option maxRecDepth 100000 in
theorem c_X5_ground (l : Launch) (G : GG) (sz : Nat) (vo t vr vc vn : Nat) (rF cF : Nat → Int32) (o : Int32) (hvn : 1 ≤ vn ∧ vn ≤ 4) : CtI l G yX5_ground wsX5_ground 1 22 0 0 sz [.ref vo, .int o] [oC vo 5 [.ref t, .ref vr, .ref vc, .int (nI vn)], aI G vr 4 rF, aI G vc 4 cF] (fun r (_ : Unit) => r = (grdC rF cF vn 4 o)) (fun (_ : Unit) => [oC vo 5 [.ref t, .ref vr, .ref vc, .int (nI vn)], aI G vr 4 rF, aI G vc 4 cF]) := by
  refine kMet (Qc := fun A => va_Qi _ (Bw G A _) A) (cc := cX5_ground) (nL := 5) (ret := some (.int)) (by decide) rfl (Nat.le_of_ble_eq_true rfl) ?_
  intro p e s m args below meth c A Q hF hr hlk hnme hK hP hD hA hS hQ hsz ls hl
  have hl : lv_has ls 5 [(0, .ref vo), (1, .int o)] := hl
  refine lv_iload_n hF.1 hF.2.1 dX5_ground_0 rfl (lv_at hl 1 rfl) ?_
  refine lv_istore_n (lv' := [(2, .int o), (0, .ref vo), (1, .int o)]) hF.1 hF.2.1 dX5_ground_1 rfl hl (by decide) rfl (fun ls hl => ?_)
  refine lv_iconst (v := (nI 0)) hF.1 hF.2.1 dX5_ground_2 (by decide) ?_
  refine lv_istore_n (lv' := [(3, .int (nI 0)), (2, .int o), (0, .ref vo), (1, .int o)]) hF.1 hF.2.1 dX5_ground_3 rfl hl (by decide) rfl (fun ls hl => ?_)
  have loop_4 : ∀ (n_4 : Nat) (k : Nat) (h : Int32), 4 - k < n_4 → (k ≤ 4) → (grdC rF cF vn (4 - k) h = grdC rF cF vn 4 o) → ∀ (H : Heap) (locs : List Loc) (ls : Array Slot), PG G [oC vo 5 [.ref t, .ref vr, .ref vc, .int (nI vn)], aI G vr 4 rF, aI G vc 4 cF] H → va_D A [oC vo 5 [.ref t, .ref vr, .ref vc, .int (nI vn)], aI G vr 4 rF, aI G vc 4 cF] → va_S A s.heap H locs → lv_has ls 5 [(3, .int (nI k)), (2, .int h), (0, .ref vo), (1, .int o)] → W p l e (Rm 1 0 0 22) s m args below meth c H locs 0 0 Q (F0 m 4 ls []) := by
    intro n_4
    induction n_4 with
    | zero => intro k h hm; exact absurd hm (Nat.not_lt_zero _)
    | succ n_4 ih_4 =>
      intro k h hm_4 hk hR H locs ls hP hD hS hl
      refine lv_iload_n hF.1 hF.2.1 dX5_ground_4 rfl (lv_at hl 0 rfl) ?_
      refine lv_iconst (v := (nI 4)) hF.1 hF.2.1 dX5_ground_5 (by decide) ?_
      refine kGeN (tgt := 38) hF dX5_ground_6 (by decide) (by omega) (by omega) (fun c_1 => ?_) (fun c_1 => ?_)
      · refine lv_iload_n hF.1 hF.2.1 dX5_ground_38 rfl (lv_at hl 1 rfl) ?_
        refine kRetI (v := h) hF hr hlk hK hP hD hS hQ rfl () [0, 1, 2] (by decide) rfl (Nat.le_of_ble_eq_true rfl) (Nat.le_of_ble_eq_true rfl) dX5_ground_39 ?_
        rw [← hR]; first | rw [grdC_e (by omega)] | rw [grdC_r (by omega) (rI_ge (by assumption))]
      · refine lv_aload_n hF.1 hF.2.1 dX5_ground_9 rfl (lv_at hl 2 rfl) ?_
        refine lv_iload_n hF.1 hF.2.1 dX5_ground_10 rfl (lv_at hl 1 rfl) ?_
        refine kCallI (wr := []) (va_runV (As := [.int h]) (rest := []) hF (c_X5_mountedWithRoot l G _ vo t vr vc vn rF cF h (by first | assumption | omega)) (cwVB 1 hF rfl mL_X5_41 mI_X5_mountedWithRoot mS_X5_mountedWithRoot mN_X5 mC_X5_mountedWithRoot rfl hd_X5_mountedWithRoot rfl rfl ⟨Nat.le_of_ble_eq_true rfl, Nat.le_of_ble_eq_true rfl⟩) (kPre hK hP hD [0, 1, 2] (by decide) rfl (q0 := 0) (ci := 5) rfl rfl rfl) rfl rfl hl.1 rfl (lv_room (Nat.le_of_ble_eq_true rfl)) dX5_ground_11 ⟨Nat.le_of_ble_eq_true rfl, Nat.le_of_ble_eq_true rfl⟩) hP hD hS hA [0, 1, 2] [] rfl rfl (by decide) (by decide) (fun r u H locs hw_2 hP hD hS => ?_)
        have hw_2 := hw_2.symm
        subst hw_2
        have hP : PG G [oC vo 5 [.ref t, .ref vr, .ref vc, .int (nI vn)], aI G vr 4 rF, aI G vc 4 cF] H := hP
        have hD : va_D A [oC vo 5 [.ref t, .ref vr, .ref vc, .int (nI vn)], aI G vr 4 rF, aI G vc 4 cF] := hD
        refine lv_istore (lv' := [(4, .int (rI (mwrN rF cF h vn) vn)), (3, .int (nI k)), (2, .int h), (0, .ref vo), (1, .int o)]) hF.1 hF.2.1 dX5_ground_14 hl (by decide) rfl (fun ls hl => ?_)
        refine lv_iload hF.1 hF.2.1 dX5_ground_16 (lv_at hl 0 rfl) ?_
        refine lv_iconst (v := (-1)) hF.1 hF.2.1 dX5_ground_18 (by decide) ?_
        refine lv_icmp_ne (tgt := 24) hF.1 hF.2.1 dX5_ground_19 (by decide) (fun c_3 => ?_) (fun c_3 => ?_)
        · have hJ : mwrN rF cF h vn < vn := rI_lt c_3
          rw [rI_t hJ] at hl
          refine lv_aload_n hF.1 hF.2.1 dX5_ground_24 rfl (lv_at hl 3 rfl) ?_
          refine kGet (C := RX5) (T := TX5) (N := 4) (index := 15) hF hK hP (inT inBX5) 0 rfl rfl 2 (by decide) rfl (List.mem_cons_of_mem _ mF_X5_15) rfl dX5_ground_25 ?_
          refine lv_iload hF.1 hF.2.1 dX5_ground_28 (lv_at hl 0 rfl) ?_
          refine kIaldN hF hK hP 2 rfl (by omega) (by decide) dX5_ground_30 ?_
          refine lv_istore_n (lv' := [(2, .int (cF (mwrN rF cF h vn))), (4, .int (nI (mwrN rF cF h vn))), (3, .int (nI k)), (0, .ref vo), (1, .int o)]) hF.1 hF.2.1 dX5_ground_31 rfl hl (by decide) rfl (fun ls hl => ?_)
          refine lv_iinc (v := (nI (k + 1))) (lv' := [(3, .int (nI (k + 1))), (2, .int (cF (mwrN rF cF h vn))), (4, .int (nI (mwrN rF cF h vn))), (0, .ref vo), (1, .int o)]) hF.1 hF.2.1 dX5_ground_32 hl (k := 2) rfl (nI_inc1 _) (by decide) rfl (fun ls hl => ?_)
          refine lv_goto (tgt := 4) hF.1 hF.2.1 dX5_ground_35 (by decide) ?_
          exact ih_4 (k + 1) (cF (mwrN rF cF h vn)) (by omega) (by omega) (by rw [← hR]; exact (grdC_s (by omega) (by assumption)).symm) H locs ls hP hD hS (lv_sub hl [0, 1, 3, 4] rfl)
        · refine lv_iload_n hF.1 hF.2.1 dX5_ground_22 rfl (lv_at hl 2 rfl) ?_
          refine kRetI (v := h) hF hr hlk hK hP hD hS hQ rfl () [0, 1, 2] (by decide) rfl (Nat.le_of_ble_eq_true rfl) (Nat.le_of_ble_eq_true rfl) dX5_ground_23 ?_
          rw [← hR]; first | rw [grdC_e (by omega)] | rw [grdC_r (by omega) (rI_ge (by assumption))]
  exact loop_4 _ 0 o (Nat.lt_succ_self _) (by first | assumption | omega) (rfl) _ _ _ hP hD hS (lv_sub hl [0, 1, 2, 3] rfl)
set_option maxHeartbeats 4000000 in
set_option maxRecDepth 100000 in
theorem c_X5_above (l : Launch) (G : GG) (sz : Nat) (vo t vr vc vn : Nat) (rF cF : Nat → Int32) (tk tm to_ tv tp tl : Nat) (pF : Nat → Int32) (d r0 : Int32) (hvn : 1 ≤ vn ∧ vn ≤ 4) (hcr : ∀ v, v < 4 → cF v = -1 ∨ vp_in (cF v) 40) (hrr : ∀ v, v < 4 → vp_in (rF v) 40) (hpr : ∀ i, i < 40 → vp_in (pF i) 40) (hd : vp_in d 40) : CtI l G yX5_above wsX5_above 2 46 0 0 sz [.ref vo, .int d, .int r0] [oC vo 5 [.ref t, .ref vr, .ref vc, .int (nI vn)], aI G vr 4 rF, aI G vc 4 cF, oC t 4 [.ref tk, .ref tm, .ref to_, .ref tv, .ref tp, .ref tl], aI G tp 40 pF] (fun r (_ : Unit) => r = (abvC rF cF pF vn d r0)) (fun (_ : Unit) => [oC vo 5 [.ref t, .ref vr, .ref vc, .int (nI vn)], aI G vr 4 rF, aI G vc 4 cF, oC t 4 [.ref tk, .ref tm, .ref to_, .ref tv, .ref tp, .ref tl], aI G tp 40 pF]) := by
  refine kMet (Qc := fun A => va_Qi _ (Bw G A _) A) (cc := cX5_above) (nL := 3) (ret := some (.int)) (by decide) rfl (Nat.le_of_ble_eq_true rfl) ?_
  intro p e s m args below meth c A Q hF hr hlk hnme hK hP hD hA hS hQ hsz ls hl
  have hl : lv_has ls 3 [(0, .ref vo), (1, .int d), (2, .int r0)] := hl
  refine lv_iload_n hF.1 hF.2.1 dX5_above_0 rfl (lv_at hl 1 rfl) ?_
  refine lv_iload_n hF.1 hF.2.1 dX5_above_1 rfl (lv_at hl 2 rfl) ?_
  refine lv_icmp_ne (tgt := 9) hF.1 hF.2.1 dX5_above_2 (by decide) (fun c_1 => ?_) (fun c_1 => ?_)
  · refine lv_aload_n hF.1 hF.2.1 dX5_above_9 rfl (lv_at hl 0 rfl) ?_
    refine lv_aload_n hF.1 hF.2.1 dX5_above_10 rfl (lv_at hl 0 rfl) ?_
    refine kGet (C := RX5) (T := TX5) (N := 4) (index := 18) hF hK hP (inT inBX5) 0 rfl rfl 0 (by decide) rfl (List.mem_cons_of_mem _ mF_X5_18) rfl dX5_above_11 ?_
    refine lv_aload_n hF.1 hF.2.1 dX5_above_14 rfl (lv_at hl 0 rfl) ?_
    refine lv_iload_n hF.1 hF.2.1 dX5_above_15 rfl (lv_at hl 1 rfl) ?_
    refine kCallI (wr := [oC t 4 [.ref tk, .ref tm, .ref to_, .ref tv, .ref tp, .ref tl], aI G tp 40 pF]) (va_runV (As := [.int d]) (rest := [.ref t, .ref vo]) hF (c_X5_ground l G _ vo t vr vc vn rF cF d (by first | assumption | omega)) (cwVB 1 hF rfl mL_X5_44 mI_X5_ground mS_X5_ground mN_X5 mC_X5_ground rfl hd_X5_ground rfl rfl ⟨Nat.le_of_ble_eq_true rfl, Nat.le_of_ble_eq_true rfl⟩) (kPre hK hP hD [0, 1, 2] (by decide) rfl (q0 := 0) (ci := 5) rfl rfl rfl) rfl rfl hl.1 rfl (lv_room (Nat.le_of_ble_eq_true rfl)) dX5_above_16 ⟨Nat.le_of_ble_eq_true rfl, Nat.le_of_ble_eq_true rfl⟩) hP hD hS hA [0, 1, 2] [3, 4] rfl rfl (by decide) (by decide) (fun r u H locs hw_2 hP hD hS => ?_)
    have hw_2 := hw_2.symm
    subst hw_2
    have hP : PG G [oC vo 5 [.ref t, .ref vr, .ref vc, .int (nI vn)], aI G vr 4 rF, aI G vc 4 cF, oC t 4 [.ref tk, .ref tm, .ref to_, .ref tv, .ref tp, .ref tl], aI G tp 40 pF] H := va_P.sub hP [2, 3, 4, 0, 1] rfl
    have hD : va_D A [oC vo 5 [.ref t, .ref vr, .ref vc, .int (nI vn)], aI G vr 4 rF, aI G vc 4 cF, oC t 4 [.ref tk, .ref tm, .ref to_, .ref tv, .ref tp, .ref tl], aI G tp 40 pF] := va_D.sub hD [2, 3, 4, 0, 1] (by decide) rfl
    refine kCallI (wr := [oC vo 5 [.ref t, .ref vr, .ref vc, .int (nI vn)], aI G vr 4 rF, aI G vc 4 cF]) (va_runV (As := [.int (grdC rF cF vn 4 d)]) (rest := [.ref vo]) hF (c_X4_parent l G H.size t tk tm to_ tv tp tl pF (grdC rF cF vn 4 d) (grdC_in hcr hd)) (cwVB 1 hF rfl mL_X5_47 mI_X4_parent mS_X4_parent mN_X4 mC_X4_parent rfl hd_X4_parent rfl rfl ⟨Nat.le_of_ble_eq_true rfl, Nat.le_of_ble_eq_true rfl⟩) (kPre hK hP hD [3, 4] (by decide) rfl (q0 := 3) (ci := 4) rfl rfl rfl) rfl rfl hl.1 rfl (lv_room (Nat.le_of_ble_eq_true rfl)) dX5_above_19 ⟨Nat.le_of_ble_eq_true rfl, Nat.le_of_ble_eq_true rfl⟩) hP hD hS hA [3, 4] [0, 1, 2] rfl rfl (by decide) (by decide) (fun r u H locs hw_3 hP hD hS => ?_)
    have hw_3 := hw_3.symm
    subst hw_3
    have hP : PG G [oC vo 5 [.ref t, .ref vr, .ref vc, .int (nI vn)], aI G vr 4 rF, aI G vc 4 cF, oC t 4 [.ref tk, .ref tm, .ref to_, .ref tv, .ref tp, .ref tl], aI G tp 40 pF] H := hP
    have hD : va_D A [oC vo 5 [.ref t, .ref vr, .ref vc, .int (nI vn)], aI G vr 4 rF, aI G vc 4 cF, oC t 4 [.ref tk, .ref tm, .ref to_, .ref tv, .ref tp, .ref tl], aI G tp 40 pF] := hD
    refine kCallI (wr := [oC t 4 [.ref tk, .ref tm, .ref to_, .ref tv, .ref tp, .ref tl], aI G tp 40 pF]) (va_runV (As := [.int (pF (ix (grdC rF cF vn 4 d)))]) (rest := []) hF (c_X5_top l G H.size vo t vr vc vn rF cF (pF (ix (grdC rF cF vn 4 d))) (by first | assumption | omega)) (cwVB 1 hF rfl mL_X5_50 mI_X5_top mS_X5_top mN_X5 mC_X5_top rfl hd_X5_top rfl rfl ⟨Nat.le_of_ble_eq_true rfl, Nat.le_of_ble_eq_true rfl⟩) (kPre hK hP hD [0, 1, 2] (by decide) rfl (q0 := 0) (ci := 5) rfl rfl rfl) rfl rfl hl.1 rfl (lv_room (Nat.le_of_ble_eq_true rfl)) dX5_above_22 ⟨Nat.le_of_ble_eq_true rfl, Nat.le_of_ble_eq_true rfl⟩) hP hD hS hA [0, 1, 2] [3, 4] rfl rfl (by decide) (by decide) (fun r u H locs hw_4 hP hD hS => ?_)
    have hw_4 := hw_4.symm
    subst hw_4
    have hP : PG G [oC vo 5 [.ref t, .ref vr, .ref vc, .int (nI vn)], aI G vr 4 rF, aI G vc 4 cF, oC t 4 [.ref tk, .ref tm, .ref to_, .ref tv, .ref tp, .ref tl], aI G tp 40 pF] H := va_P.sub hP [2, 3, 4, 0, 1] rfl
    have hD : va_D A [oC vo 5 [.ref t, .ref vr, .ref vc, .int (nI vn)], aI G vr 4 rF, aI G vc 4 cF, oC t 4 [.ref tk, .ref tm, .ref to_, .ref tv, .ref tp, .ref tl], aI G tp 40 pF] := va_D.sub hD [2, 3, 4, 0, 1] (by decide) rfl
    refine kRetI (v := (topC rF cF vn 4 (pF (ix (grdC rF cF vn 4 d))))) hF hr hlk hK hP hD hS hQ rfl () [0, 1, 2, 3, 4] (by decide) rfl (Nat.le_of_ble_eq_true rfl) (Nat.le_of_ble_eq_true rfl) dX5_above_25 ?_
    first | rw [abvC_t (by assumption)] | rw [abvC_f (by assumption)]
  · refine lv_iload_n hF.1 hF.2.1 dX5_above_5 rfl (lv_at hl 2 rfl) ?_
    refine lv_goto (tgt := 25) hF.1 hF.2.1 dX5_above_6 (by decide) ?_
    refine kRetI (v := r0) hF hr hlk hK hP hD hS hQ rfl () [0, 1, 2, 3, 4] (by decide) rfl (Nat.le_of_ble_eq_true rfl) (Nat.le_of_ble_eq_true rfl) dX5_above_25 ?_
    first | rw [abvC_t (by assumption)] | rw [abvC_f (by assumption)]
