set_option maxHeartbeats 4000000 in
set_option maxRecDepth 100000 in
theorem c_X6_place (l : Launch) (G : GG) (sz : Nat) (wk : Nat) (t : Nat) (en : Nat) (vo : Nat) (se : Nat) (rs : Nat) (wa : Int32) (hp : Nat) (nm : Int64) (la : Prop) (sl : Prop) : CtI l G yX6_place wsX6_place 0 0 0 0 sz [.ref wk] [oC wk 6 [.ref t, .ref en, .ref vo, .ref se, .ref rs, .int wa, .int (nI hp), .long nm, .int (zI la), .int (zI sl)]] (fun r (_ : Unit) => r = wa) (fun (_ : Unit) => [oC wk 6 [.ref t, .ref en, .ref vo, .ref se, .ref rs, .int wa, .int (nI hp), .long nm, .int (zI la), .int (zI sl)]]) := by
  refine kMet (Qc := fun A => va_Qi _ (Bw G A _) A) (cc := cX6_place) (nL := 1) (ret := some (.int)) (by decide) rfl (Nat.le_of_ble_eq_true rfl) ?_
  intro p e s m args below meth c A Q hF hr hlk hnme hK hP hD hA hS hQ hsz ls hl
  have hl : lv_has ls 1 [(0, .ref wk)] := hl
  refine lv_aload_n hF.1 hF.2.1 dX6_place_0 rfl (lv_at hl 0 rfl) ?_
  refine kGet (C := RX6) (T := TX6) (N := 10) (index := 34) hF hK hP (inT inBX6) 0 rfl rfl 5 (by decide) rfl (List.mem_cons_of_mem _ mF_X6_34) rfl dX6_place_1 ?_
  refine kRetI (v := wa) hF hr hlk hK hP hD hS hQ rfl () [0] (by decide) rfl (Nat.le_of_ble_eq_true rfl) (Nat.le_of_ble_eq_true rfl) dX6_place_4 ?_
  exact (by first | rfl | trivial | exact zI_1 (by first | assumption | omega) | exact zI_0 (by first | assumption | omega) | (simp_all; done))
set_option maxHeartbeats 4000000 in
set_option maxRecDepth 100000 in
theorem c_X6_name (l : Launch) (G : GG) (sz : Nat) (wk : Nat) (t : Nat) (en : Nat) (vo : Nat) (se : Nat) (rs : Nat) (wa : Int32) (hp : Nat) (nm : Int64) (la : Prop) (sl : Prop) : CtL l G yX6_name wsX6_name 0 0 0 0 sz [.ref wk] [oC wk 6 [.ref t, .ref en, .ref vo, .ref se, .ref rs, .int wa, .int (nI hp), .long nm, .int (zI la), .int (zI sl)]] (fun r (_ : Unit) => r = nm) (fun (_ : Unit) => [oC wk 6 [.ref t, .ref en, .ref vo, .ref se, .ref rs, .int wa, .int (nI hp), .long nm, .int (zI la), .int (zI sl)]]) := by
  refine kMet (Qc := fun A => va_Ql _ (Bw G A _) A) (cc := cX6_name) (nL := 1) (ret := some (.long)) (by decide) rfl (Nat.le_of_ble_eq_true rfl) ?_
  intro p e s m args below meth c A Q hF hr hlk hnme hK hP hD hA hS hQ hsz ls hl
  have hl : lv_has ls 1 [(0, .ref wk)] := hl
  refine lv_aload_n hF.1 hF.2.1 dX6_name_0 rfl (lv_at hl 0 rfl) ?_
  refine kGet (C := RX6) (T := TX6) (N := 10) (index := 38) hF hK hP (inT inBX6) 0 rfl rfl 7 (by decide) rfl (List.mem_cons_of_mem _ mF_X6_38) rfl dX6_name_1 ?_
  refine kRetL (v := nm) hF hr hlk hK hP hD hS hQ () [0] (by decide) rfl (by omega) (by omega) dX6_name_4 ?_
  exact (by first | rfl | trivial | exact zI_1 (by first | assumption | omega) | exact zI_0 (by first | assumption | omega) | (simp_all; done))
set_option maxHeartbeats 4000000 in
set_option maxRecDepth 100000 in
theorem c_X6_isSlashed (l : Launch) (G : GG) (sz : Nat) (wk : Nat) (t : Nat) (en : Nat) (vo : Nat) (se : Nat) (rs : Nat) (wa : Int32) (hp : Nat) (nm : Int64) (la : Prop) (sl : Prop) : CtI l G yX6_isSlashed wsX6_isSlashed 0 0 0 0 sz [.ref wk] [oC wk 6 [.ref t, .ref en, .ref vo, .ref se, .ref rs, .int wa, .int (nI hp), .long nm, .int (zI la), .int (zI sl)]] (fun r (_ : Unit) => r = (zI sl)) (fun (_ : Unit) => [oC wk 6 [.ref t, .ref en, .ref vo, .ref se, .ref rs, .int wa, .int (nI hp), .long nm, .int (zI la), .int (zI sl)]]) := by
  refine kMet (Qc := fun A => va_Qi _ (Bw G A _) A) (cc := cX6_isSlashed) (nL := 1) (ret := some (.boolean)) (by decide) rfl (Nat.le_of_ble_eq_true rfl) ?_
  intro p e s m args below meth c A Q hF hr hlk hnme hK hP hD hA hS hQ hsz ls hl
  have hl : lv_has ls 1 [(0, .ref wk)] := hl
  refine lv_aload_n hF.1 hF.2.1 dX6_isSlashed_0 rfl (lv_at hl 0 rfl) ?_
  refine kGet (C := RX6) (T := TX6) (N := 10) (index := 42) hF hK hP (inT inBX6) 0 rfl rfl 9 (by decide) rfl (List.mem_cons_of_mem _ mF_X6_42) rfl dX6_isSlashed_1 ?_
  refine kRetI (v := (zI sl)) hF hr hlk hK hP hD hS hQ (zI_nar _) () [0] (by decide) rfl (Nat.le_of_ble_eq_true rfl) (Nat.le_of_ble_eq_true rfl) dX6_isSlashed_4 ?_
  exact (by first | rfl | trivial | exact zI_1 (by first | assumption | omega) | exact zI_0 (by first | assumption | omega) | (simp_all; done))
set_option maxHeartbeats 4000000 in
set_option maxRecDepth 100000 in
theorem c_X6_isOnDots (l : Launch) (G : GG) (sz : Nat) (wk : Nat) (t : Nat) (en : Nat) (vo : Nat) (se : Nat) (rs : Nat) (wa : Int32) (hp : Nat) (nm : Int64) (la : Prop) (sl : Prop) : CtI l G yX6_isOnDots wsX6_isOnDots 0 0 0 0 sz [.ref wk] [oC wk 6 [.ref t, .ref en, .ref vo, .ref se, .ref rs, .int wa, .int (nI hp), .long nm, .int (zI la), .int (zI sl)]] (fun r (_ : Unit) => r = (zI (nm = lN 46 ∨ nm = lN 11822))) (fun (_ : Unit) => [oC wk 6 [.ref t, .ref en, .ref vo, .ref se, .ref rs, .int wa, .int (nI hp), .long nm, .int (zI la), .int (zI sl)]]) := by
  refine kMet (Qc := fun A => va_Qi _ (Bw G A _) A) (cc := cX6_isOnDots) (nL := 1) (ret := some (.boolean)) (by decide) rfl (Nat.le_of_ble_eq_true rfl) ?_
  intro p e s m args below meth c A Q hF hr hlk hnme hK hP hD hA hS hQ hsz ls hl
  have hl : lv_has ls 1 [(0, .ref wk)] := hl
  refine lv_aload_n hF.1 hF.2.1 dX6_isOnDots_0 rfl (lv_at hl 0 rfl) ?_
  refine kGet (C := RX6) (T := TX6) (N := 10) (index := 38) hF hK hP (inT inBX6) 0 rfl rfl 7 (by decide) rfl (List.mem_cons_of_mem _ mF_X6_38) rfl dX6_isOnDots_1 ?_
  refine lv_ldc2 (v := lN 46) hF.1 hF.2.1 hF.2.2.2.1 (hF.2.2.2.2 _ (List.mem_cons_of_mem _ mG_X6_46)) dX6_isOnDots_4 ?_
  refine W.lcmp hF.1 hF.2.1 dX6_isOnDots_7 ?_
  refine kIfEqC (tgt := 22) hF dX6_isOnDots_8 (by decide) (fun c_1 => ?_) (fun c_1 => ?_)
  · refine lv_iconst (v := (nI 1)) hF.1 hF.2.1 dX6_isOnDots_22 (by decide) ?_
    refine lv_goto (tgt := 27) hF.1 hF.2.1 dX6_isOnDots_23 (by decide) ?_
    refine kRetI (v := (nI 1)) hF hr hlk hK hP hD hS hQ rfl () [0] (by decide) rfl (Nat.le_of_ble_eq_true rfl) (Nat.le_of_ble_eq_true rfl) dX6_isOnDots_27 ?_
    exact zI_1 (by first | exact Or.inl (by assumption) | exact Or.inr (by assumption))
  · refine lv_aload_n hF.1 hF.2.1 dX6_isOnDots_11 rfl (lv_at hl 0 rfl) ?_
    refine kGet (C := RX6) (T := TX6) (N := 10) (index := 38) hF hK hP (inT inBX6) 0 rfl rfl 7 (by decide) rfl (List.mem_cons_of_mem _ mF_X6_38) rfl dX6_isOnDots_12 ?_
    refine lv_ldc2 (v := lN 11822) hF.1 hF.2.1 hF.2.2.2.1 (hF.2.2.2.2 _ (List.mem_cons_of_mem _ mG_X6_48)) dX6_isOnDots_15 ?_
    refine W.lcmp hF.1 hF.2.1 dX6_isOnDots_18 ?_
    refine kIfNeC (tgt := 26) hF dX6_isOnDots_19 (by decide) (fun c_2 => ?_) (fun c_2 => ?_)
    · refine lv_iconst (v := (nI 0)) hF.1 hF.2.1 dX6_isOnDots_26 (by decide) ?_
      refine kRetI (v := (nI 0)) hF hr hlk hK hP hD hS hQ rfl () [0] (by decide) rfl (Nat.le_of_ble_eq_true rfl) (Nat.le_of_ble_eq_true rfl) dX6_isOnDots_27 ?_
      exact zI_0 (fun h => by rcases h with h | h <;> contradiction)
    · refine lv_iconst (v := (nI 1)) hF.1 hF.2.1 dX6_isOnDots_22 (by decide) ?_
      refine lv_goto (tgt := 27) hF.1 hF.2.1 dX6_isOnDots_23 (by decide) ?_
      refine kRetI (v := (nI 1)) hF hr hlk hK hP hD hS hQ rfl () [0] (by decide) rfl (Nat.le_of_ble_eq_true rfl) (Nat.le_of_ble_eq_true rfl) dX6_isOnDots_27 ?_
      exact zI_1 (by first | exact Or.inl (by assumption) | exact Or.inr (by assumption))
set_option maxHeartbeats 4000000 in
set_option maxRecDepth 100000 in
theorem c_X6_begin (l : Launch) (G : GG) (sz : Nat) (wk : Nat) (t : Nat) (en : Nat) (vo : Nat) (se : Nat) (rs : Nat) (ra : Nat) (st : Nat) (f : Nat → Int32) (wa : Int32) (hp : Nat) (nm : Int64) (la : Prop) (sl : Prop) (us : Int32) (ro : Int32) (pr : Int32) (a2 : Nat) (b2 : Nat) (n : Nat) (fl : Nat → Int32) (hn : n ≤ 40) (h0 : 0 < n) (hfl : ∀ j, okC (fl j)) : CtV l G yX6_begin wsX6_begin 2 43 0 0 sz [.ref wk, .ref a2] [oC wk 6 [.ref t, .ref en, .ref vo, .ref se, .ref rs, .int wa, .int (nI hp), .long nm, .int (zI la), .int (zI sl)], oC rs 2 [.ref ra, .int (nI st)], aC G ra 60 f, oC se 3 [.ref t, .int us, .int ro, .int pr], oC a2 1 [.ref b2, .int (nI n)], aC G b2 40 fl] (fun (_ : Unit) => True) (fun (_ : Unit) => [oC wk 6 [.ref t, .ref en, .ref vo, .ref se, .ref rs, .int (bgA fl ro pr), .int (nI 0), .long nm, .int (zI la), .int (zI sl)], oC rs 2 [.ref ra, .int (nI (60 - n))], aC G ra 60 (va_cpy fl f 0 (60 - n) n), oC se 3 [.ref t, .int us, .int ro, .int pr], oC a2 1 [.ref b2, .int (nI n)], aC G b2 40 fl]) := by
  refine kMet (Qc := fun A => va_Qv _ (Bw G A _) A) (cc := cX6_begin) (nL := 2) (ret := none) (by decide) rfl (Nat.le_of_ble_eq_true rfl) ?_
  intro p e s m args below meth c A Q hF hr hlk hnme hK hP hD hA hS hQ hsz ls hl
  have hl : lv_has ls 2 [(0, .ref wk), (1, .ref a2)] := hl
  refine lv_aload_n hF.1 hF.2.1 dX6_begin_0 rfl (lv_at hl 0 rfl) ?_
  refine kGet (C := RX6) (T := TX6) (N := 10) (index := 12) hF hK hP (inT inBX6) 0 rfl rfl 4 (by decide) rfl (List.mem_cons_of_mem _ mF_X6_12) rfl dX6_begin_1 ?_
  refine kCallV (wr := [oC wk 6 [.ref t, .ref en, .ref vo, .ref se, .ref rs, .int wa, .int (nI hp), .long nm, .int (zI la), .int (zI sl)], oC se 3 [.ref t, .int us, .int ro, .int pr], oC a2 1 [.ref b2, .int (nI n)], aC G b2 40 fl]) (va_runV (As := []) (rest := []) hF (c_X2_clear l G _ rs ra st f) (cwVB 0 hF rfl mL_X6_74 mI_X2_clear mS_X2_clear mN_X2 mC_X2_clear rfl hd_X2_clear rfl rfl ⟨Nat.le_of_ble_eq_true rfl, Nat.le_of_ble_eq_true rfl⟩) (kPre hK hP hD [1, 2] (by decide) rfl (q0 := 1) (ci := 2) rfl rfl rfl) rfl rfl hl.1 rfl (lv_room (Nat.le_of_ble_eq_true rfl)) dX6_begin_4 ⟨Nat.le_of_ble_eq_true rfl, Nat.le_of_ble_eq_true rfl⟩) hP hD hS hA [1, 2] [0, 3, 4, 5] rfl rfl (by decide) (by decide) (fun u H locs hw_1 hP hD hS => ?_)
  have hP : PG G [oC wk 6 [.ref t, .ref en, .ref vo, .ref se, .ref rs, .int wa, .int (nI hp), .long nm, .int (zI la), .int (zI sl)], oC rs 2 [.ref ra, .int (nI 60)], aC G ra 60 f, oC se 3 [.ref t, .int us, .int ro, .int pr], oC a2 1 [.ref b2, .int (nI n)], aC G b2 40 fl] H := va_P.sub hP [0, 4, 5, 1, 2, 3] rfl
  have hD : va_D A [oC wk 6 [.ref t, .ref en, .ref vo, .ref se, .ref rs, .int wa, .int (nI hp), .long nm, .int (zI la), .int (zI sl)], oC rs 2 [.ref ra, .int (nI 60)], aC G ra 60 f, oC se 3 [.ref t, .int us, .int ro, .int pr], oC a2 1 [.ref b2, .int (nI n)], aC G b2 40 fl] := va_D.sub hD [0, 4, 5, 1, 2, 3] (by decide) rfl
  refine lv_aload_n hF.1 hF.2.1 dX6_begin_7 rfl (lv_at hl 0 rfl) ?_
  refine kGet (C := RX6) (T := TX6) (N := 10) (index := 12) hF hK hP (inT inBX6) 0 rfl rfl 4 (by decide) rfl (List.mem_cons_of_mem _ mF_X6_12) rfl dX6_begin_8 ?_
  refine lv_aload_n hF.1 hF.2.1 dX6_begin_11 rfl (lv_at hl 1 rfl) ?_
  refine kCallI (wr := [oC wk 6 [.ref t, .ref en, .ref vo, .ref se, .ref rs, .int wa, .int (nI hp), .long nm, .int (zI la), .int (zI sl)], oC se 3 [.ref t, .int us, .int ro, .int pr]]) (va_runV (As := [.ref a2]) (rest := []) hF (c_X2_putLineBefore l G H.size rs ra 60 f a2 b2 n fl (by first | assumption | omega) (by first | assumption | omega) (by first | assumption | omega) (by first | assumption | omega)) (cwVB 1 hF rfl mL_X6_77 mI_X2_putLineBefore mS_X2_putLineBefore mN_X2 mC_X2_putLineBefore rfl hd_X2_putLineBefore rfl rfl ⟨Nat.le_of_ble_eq_true rfl, Nat.le_of_ble_eq_true rfl⟩) (kPre hK hP hD [1, 2, 4, 5] (by decide) rfl (q0 := 1) (ci := 2) rfl rfl rfl) rfl rfl hl.1 rfl (lv_room (Nat.le_of_ble_eq_true rfl)) dX6_begin_12 ⟨Nat.le_of_ble_eq_true rfl, Nat.le_of_ble_eq_true rfl⟩) hP hD hS hA [1, 2, 4, 5] [0, 3] rfl rfl (by decide) (by decide) (fun r u H locs hw_4 hP hD hS => ?_)
  obtain ⟨s2_2, f2_3⟩ := u
  obtain ⟨hz, hw_4⟩ := hw_4
  have hz := hz.symm
  subst hz
  have hP : PG G [oC wk 6 [.ref t, .ref en, .ref vo, .ref se, .ref rs, .int wa, .int (nI hp), .long nm, .int (zI la), .int (zI sl)], oC rs 2 [.ref ra, .int (nI s2_2)], aC G ra 60 f2_3, oC se 3 [.ref t, .int us, .int ro, .int pr], oC a2 1 [.ref b2, .int (nI n)], aC G b2 40 fl] H := va_P.sub hP [0, 2, 3, 1, 4, 5] rfl
  have hD : va_D A [oC wk 6 [.ref t, .ref en, .ref vo, .ref se, .ref rs, .int wa, .int (nI hp), .long nm, .int (zI la), .int (zI sl)], oC rs 2 [.ref ra, .int (nI s2_2)], aC G ra 60 f2_3, oC se 3 [.ref t, .int us, .int ro, .int pr], oC a2 1 [.ref b2, .int (nI n)], aC G b2 40 fl] := va_D.sub hD [0, 2, 3, 1, 4, 5] (by decide) rfl
  obtain ⟨rfl, rfl⟩ := hw_4.1 (by omega)
  refine lv_pop hF.1 hF.2.1 dX6_begin_15 rfl ?_
  refine lv_aload_n hF.1 hF.2.1 dX6_begin_16 rfl (lv_at hl 0 rfl) ?_
  refine lv_aload_n hF.1 hF.2.1 dX6_begin_17 rfl (lv_at hl 0 rfl) ?_
  refine kGet (C := RX6) (T := TX6) (N := 10) (index := 12) hF hK hP (inT inBX6) 0 rfl rfl 4 (by decide) rfl (List.mem_cons_of_mem _ mF_X6_12) rfl dX6_begin_18 ?_
  refine kCallI (wr := [oC wk 6 [.ref t, .ref en, .ref vo, .ref se, .ref rs, .int wa, .int (nI hp), .long nm, .int (zI la), .int (zI sl)], oC se 3 [.ref t, .int us, .int ro, .int pr], oC a2 1 [.ref b2, .int (nI n)], aC G b2 40 fl]) (va_runV (As := []) (rest := [.ref wk]) hF (c_X2_beginsWithSlash l G H.size rs ra (60 - n) (va_cpy fl f 0 (60 - n) n) (by first | assumption | omega)) (cwVB 0 hF rfl mL_X6_81 mI_X2_beginsWithSlash mS_X2_beginsWithSlash mN_X2 mC_X2_beginsWithSlash rfl hd_X2_beginsWithSlash rfl rfl ⟨Nat.le_of_ble_eq_true rfl, Nat.le_of_ble_eq_true rfl⟩) (kPre hK hP hD [1, 2] (by decide) rfl (q0 := 1) (ci := 2) rfl rfl rfl) rfl rfl hl.1 rfl (lv_room (Nat.le_of_ble_eq_true rfl)) dX6_begin_21 ⟨Nat.le_of_ble_eq_true rfl, Nat.le_of_ble_eq_true rfl⟩) hP hD hS hA [1, 2] [0, 3, 4, 5] rfl rfl (by decide) (by decide) (fun r u H locs hw_5 hP hD hS => ?_)
  have hw_5 := hw_5.symm
  subst hw_5
  have hP : PG G [oC wk 6 [.ref t, .ref en, .ref vo, .ref se, .ref rs, .int wa, .int (nI hp), .long nm, .int (zI la), .int (zI sl)], oC rs 2 [.ref ra, .int (nI (60 - n))], aC G ra 60 (va_cpy fl f 0 (60 - n) n), oC se 3 [.ref t, .int us, .int ro, .int pr], oC a2 1 [.ref b2, .int (nI n)], aC G b2 40 fl] H := va_P.sub hP [0, 4, 5, 1, 2, 3] rfl
  have hD : va_D A [oC wk 6 [.ref t, .ref en, .ref vo, .ref se, .ref rs, .int wa, .int (nI hp), .long nm, .int (zI la), .int (zI sl)], oC rs 2 [.ref ra, .int (nI (60 - n))], aC G ra 60 (va_cpy fl f 0 (60 - n) n), oC se 3 [.ref t, .int us, .int ro, .int pr], oC a2 1 [.ref b2, .int (nI n)], aC G b2 40 fl] := va_D.sub hD [0, 4, 5, 1, 2, 3] (by decide) rfl
  refine kIfEqZ (tgt := 37) hF dX6_begin_24 (by decide) (fun c_6 => ?_) (fun c_6 => ?_)
  · have hA1 : bgA fl ro pr = pr := if_neg (fun h => c_6 ⟨by omega, by rw [cpy_0 h0]; exact h⟩)
    refine lv_aload_n hF.1 hF.2.1 dX6_begin_37 rfl (lv_at hl 0 rfl) ?_
    refine kGet (C := RX6) (T := TX6) (N := 10) (index := 30) hF hK hP (inT inBX6) 0 rfl rfl 3 (by decide) rfl (List.mem_cons_of_mem _ mF_X6_30) rfl dX6_begin_38 ?_
    refine kGetN (C := RX3) (T := TX3) (N := 4) (index := 89) hF hK hP (inT inBX3) 3 rfl rfl 3 (by decide) rfl (nw_7 hK.2) rfl dX6_begin_41 ?_
    refine kTop (y := bgA fl ro pr) hA1.symm ?_
    refine kPut (C := RX6) (T := TX6) (N := 10) (index := 34) (v := .int (bgA fl ro pr)) hF hK hP hD hS (inT inBX6) tyX6_ok nmX6 0 rfl rfl 5 (by decide) rfl (List.mem_cons_of_mem _ mF_X6_34) rfl rfl rfl (Nat.le_of_ble_eq_true rfl) dX6_begin_44 (fun H locs hP hD hS => ?_)
    have hP : PG G [oC wk 6 [.ref t, .ref en, .ref vo, .ref se, .ref rs, .int (bgA fl ro pr), .int (nI hp), .long nm, .int (zI la), .int (zI sl)], oC rs 2 [.ref ra, .int (nI (60 - n))], aC G ra 60 (va_cpy fl f 0 (60 - n) n), oC se 3 [.ref t, .int us, .int ro, .int pr], oC a2 1 [.ref b2, .int (nI n)], aC G b2 40 fl] H := hP
    have hD : va_D A [oC wk 6 [.ref t, .ref en, .ref vo, .ref se, .ref rs, .int (bgA fl ro pr), .int (nI hp), .long nm, .int (zI la), .int (zI sl)], oC rs 2 [.ref ra, .int (nI (60 - n))], aC G ra 60 (va_cpy fl f 0 (60 - n) n), oC se 3 [.ref t, .int us, .int ro, .int pr], oC a2 1 [.ref b2, .int (nI n)], aC G b2 40 fl] := hD
    refine lv_aload_n hF.1 hF.2.1 dX6_begin_47 rfl (lv_at hl 0 rfl) ?_
    refine lv_iconst (v := (nI 0)) hF.1 hF.2.1 dX6_begin_48 (by decide) ?_
    refine kPut (C := RX6) (T := TX6) (N := 10) (index := 92) (v := .int (nI 0)) hF hK hP hD hS (inT inBX6) tyX6_ok nmX6 0 rfl rfl 6 (by decide) rfl (List.mem_cons_of_mem _ mF_X6_92) rfl rfl rfl (Nat.le_of_ble_eq_true rfl) dX6_begin_49 (fun H locs hP hD hS => ?_)
    have hP : PG G [oC wk 6 [.ref t, .ref en, .ref vo, .ref se, .ref rs, .int (bgA fl ro pr), .int (nI 0), .long nm, .int (zI la), .int (zI sl)], oC rs 2 [.ref ra, .int (nI (60 - n))], aC G ra 60 (va_cpy fl f 0 (60 - n) n), oC se 3 [.ref t, .int us, .int ro, .int pr], oC a2 1 [.ref b2, .int (nI n)], aC G b2 40 fl] H := hP
    have hD : va_D A [oC wk 6 [.ref t, .ref en, .ref vo, .ref se, .ref rs, .int (bgA fl ro pr), .int (nI 0), .long nm, .int (zI la), .int (zI sl)], oC rs 2 [.ref ra, .int (nI (60 - n))], aC G ra 60 (va_cpy fl f 0 (60 - n) n), oC se 3 [.ref t, .int us, .int ro, .int pr], oC a2 1 [.ref b2, .int (nI n)], aC G b2 40 fl] := hD
    refine kRetV hF hr hlk hK hP hD hS hQ () [0, 1, 2, 3, 4, 5] (by decide) rfl (Nat.le_of_ble_eq_true rfl) (Nat.le_of_ble_eq_true rfl) dX6_begin_52 ?_
    exact (by first | rfl | trivial | exact zI_1 (by first | assumption | omega) | exact zI_0 (by first | assumption | omega) | (simp_all; done))
  · have hA1 : bgA fl ro pr = ro := if_pos (by have := c_6.2; rw [cpy_0 h0] at this; exact this)
    refine lv_aload_n hF.1 hF.2.1 dX6_begin_27 rfl (lv_at hl 0 rfl) ?_
    refine kGet (C := RX6) (T := TX6) (N := 10) (index := 30) hF hK hP (inT inBX6) 0 rfl rfl 3 (by decide) rfl (List.mem_cons_of_mem _ mF_X6_30) rfl dX6_begin_28 ?_
    refine kGetN (C := RX3) (T := TX3) (N := 4) (index := 84) hF hK hP (inT inBX3) 3 rfl rfl 2 (by decide) rfl (nw_5 hK.2) rfl dX6_begin_31 ?_
    refine lv_goto (tgt := 44) hF.1 hF.2.1 dX6_begin_34 (by decide) ?_
    refine kTop (y := bgA fl ro pr) hA1.symm ?_
    refine kPut (C := RX6) (T := TX6) (N := 10) (index := 34) (v := .int (bgA fl ro pr)) hF hK hP hD hS (inT inBX6) tyX6_ok nmX6 0 rfl rfl 5 (by decide) rfl (List.mem_cons_of_mem _ mF_X6_34) rfl rfl rfl (Nat.le_of_ble_eq_true rfl) dX6_begin_44 (fun H locs hP hD hS => ?_)
    have hP : PG G [oC wk 6 [.ref t, .ref en, .ref vo, .ref se, .ref rs, .int (bgA fl ro pr), .int (nI hp), .long nm, .int (zI la), .int (zI sl)], oC rs 2 [.ref ra, .int (nI (60 - n))], aC G ra 60 (va_cpy fl f 0 (60 - n) n), oC se 3 [.ref t, .int us, .int ro, .int pr], oC a2 1 [.ref b2, .int (nI n)], aC G b2 40 fl] H := hP
    have hD : va_D A [oC wk 6 [.ref t, .ref en, .ref vo, .ref se, .ref rs, .int (bgA fl ro pr), .int (nI hp), .long nm, .int (zI la), .int (zI sl)], oC rs 2 [.ref ra, .int (nI (60 - n))], aC G ra 60 (va_cpy fl f 0 (60 - n) n), oC se 3 [.ref t, .int us, .int ro, .int pr], oC a2 1 [.ref b2, .int (nI n)], aC G b2 40 fl] := hD
    refine lv_aload_n hF.1 hF.2.1 dX6_begin_47 rfl (lv_at hl 0 rfl) ?_
    refine lv_iconst (v := (nI 0)) hF.1 hF.2.1 dX6_begin_48 (by decide) ?_
    refine kPut (C := RX6) (T := TX6) (N := 10) (index := 92) (v := .int (nI 0)) hF hK hP hD hS (inT inBX6) tyX6_ok nmX6 0 rfl rfl 6 (by decide) rfl (List.mem_cons_of_mem _ mF_X6_92) rfl rfl rfl (Nat.le_of_ble_eq_true rfl) dX6_begin_49 (fun H locs hP hD hS => ?_)
    have hP : PG G [oC wk 6 [.ref t, .ref en, .ref vo, .ref se, .ref rs, .int (bgA fl ro pr), .int (nI 0), .long nm, .int (zI la), .int (zI sl)], oC rs 2 [.ref ra, .int (nI (60 - n))], aC G ra 60 (va_cpy fl f 0 (60 - n) n), oC se 3 [.ref t, .int us, .int ro, .int pr], oC a2 1 [.ref b2, .int (nI n)], aC G b2 40 fl] H := hP
    have hD : va_D A [oC wk 6 [.ref t, .ref en, .ref vo, .ref se, .ref rs, .int (bgA fl ro pr), .int (nI 0), .long nm, .int (zI la), .int (zI sl)], oC rs 2 [.ref ra, .int (nI (60 - n))], aC G ra 60 (va_cpy fl f 0 (60 - n) n), oC se 3 [.ref t, .int us, .int ro, .int pr], oC a2 1 [.ref b2, .int (nI n)], aC G b2 40 fl] := hD
    refine kRetV hF hr hlk hK hP hD hS hQ () [0, 1, 2, 3, 4, 5] (by decide) rfl (Nat.le_of_ble_eq_true rfl) (Nat.le_of_ble_eq_true rfl) dX6_begin_52 ?_
    exact (by first | rfl | trivial | exact zI_1 (by first | assumption | omega) | exact zI_0 (by first | assumption | omega) | (simp_all; done))
set_option maxHeartbeats 4000000 in
set_option maxRecDepth 100000 in
theorem c_X6_hasName (l : Launch) (G : GG) (sz : Nat) (wk : Nat) (t : Nat) (en : Nat) (vo : Nat) (se : Nat) (rs : Nat) (ra : Nat) (st : Nat) (f : Nat → Int32) (wa : Int32) (hp : Nat) (nm : Int64) (la : Prop) (sl : Prop) (hs : st ≤ 60) (hf : ∀ j, okC (f j)) : CtI l G yX6_hasName wsX6_hasName 1 21 0 0 sz [.ref wk] [oC wk 6 [.ref t, .ref en, .ref vo, .ref se, .ref rs, .int wa, .int (nI hp), .long nm, .int (zI la), .int (zI sl)], oC rs 2 [.ref ra, .int (nI st)], aC G ra 60 f] (fun r (u : Nat) => match u with | (s2) => r = (zI (s2 < 60)) ∧ s2 = scan (isS f) (60 - st) st) (fun (u : Nat) => match u with | (s2) => [oC wk 6 [.ref t, .ref en, .ref vo, .ref se, .ref rs, .int wa, .int (nI hp), .long nm, .int (zI la), .int (zI sl)], oC rs 2 [.ref ra, .int (nI s2)], aC G ra 60 f]) := by
  refine kMet (Qc := fun A => va_Qi _ (Bw G A _) A) (cc := cX6_hasName) (nL := 2) (ret := some (.boolean)) (by decide) rfl (Nat.le_of_ble_eq_true rfl) ?_
  intro p e s m args below meth c A Q hF hr hlk hnme hK hP hD hA hS hQ hsz ls hl
  have hl : lv_has ls 2 [(0, .ref wk)] := hl
  refine lv_iconst (v := (nI 0)) hF.1 hF.2.1 dX6_hasName_0 (by decide) ?_
  refine lv_istore_n (lv' := [(1, .int (nI 0)), (0, .ref wk)]) hF.1 hF.2.1 dX6_hasName_1 rfl hl (by decide) rfl (fun ls hl => ?_)
  have loop_2 : ∀ (n_2 : Nat) (k s1 : Nat), 60 - k < n_2 → (s1 = st + k ∧ s1 ≤ 60) → (scan (isS f) (60 - s1) s1 = scan (isS f) (60 - st) st) → ∀ (H : Heap) (locs : List Loc) (ls : Array Slot), PG G [oC wk 6 [.ref t, .ref en, .ref vo, .ref se, .ref rs, .int wa, .int (nI hp), .long nm, .int (zI la), .int (zI sl)], oC rs 2 [.ref ra, .int (nI s1)], aC G ra 60 f] H → va_D A [oC wk 6 [.ref t, .ref en, .ref vo, .ref se, .ref rs, .int wa, .int (nI hp), .long nm, .int (zI la), .int (zI sl)], oC rs 2 [.ref ra, .int (nI s1)], aC G ra 60 f] → va_S A s.heap H locs → lv_has ls 2 [(1, .int (nI k)), (0, .ref wk)] → W p l e (Rm 1 0 0 21) s m args below meth c H locs 0 0 Q (F0 m 2 ls []) := by
    intro n_2
    induction n_2 with
    | zero => intro k s1 hm; exact absurd hm (Nat.not_lt_zero _)
    | succ n_2 ih_2 =>
      intro k s1 hm_2 hk hR H locs ls hP hD hS hl
      refine lv_iload_n hF.1 hF.2.1 dX6_hasName_2 rfl (lv_at hl 0 rfl) ?_
      refine lv_bipush (v := (nI 60)) hF.1 hF.2.1 dX6_hasName_3 (by decide) ?_
      refine kGeN (tgt := 32) hF dX6_hasName_5 (by decide) (by omega) (by omega) (fun c_1 => ?_) (fun c_1 => ?_)
      · refine lv_aload_n hF.1 hF.2.1 dX6_hasName_32 rfl (lv_at hl 1 rfl) ?_
        refine kGet (C := RX6) (T := TX6) (N := 10) (index := 12) hF hK hP (inT inBX6) 0 rfl rfl 4 (by decide) rfl (List.mem_cons_of_mem _ mF_X6_12) rfl dX6_hasName_33 ?_
        refine kCallI (wr := [oC wk 6 [.ref t, .ref en, .ref vo, .ref se, .ref rs, .int wa, .int (nI hp), .long nm, .int (zI la), .int (zI sl)]]) (va_runV (As := []) (rest := []) hF (c_X2_isEmpty l G _ rs ra s1 f (by first | assumption | omega)) (cwVB 0 hF rfl mL_X6_99 mI_X2_isEmpty mS_X2_isEmpty mN_X2 mC_X2_isEmpty rfl hd_X2_isEmpty rfl rfl ⟨Nat.le_of_ble_eq_true rfl, Nat.le_of_ble_eq_true rfl⟩) (kPre hK hP hD [1, 2] (by decide) rfl (q0 := 1) (ci := 2) rfl rfl rfl) rfl rfl hl.1 rfl (lv_room (Nat.le_of_ble_eq_true rfl)) dX6_hasName_36 ⟨Nat.le_of_ble_eq_true rfl, Nat.le_of_ble_eq_true rfl⟩) hP hD hS hA [1, 2] [0] rfl rfl (by decide) (by decide) (fun r u H locs hw_2 hP hD hS => ?_)
        have hw_2 := hw_2.symm
        subst hw_2
        have hP : PG G [oC wk 6 [.ref t, .ref en, .ref vo, .ref se, .ref rs, .int wa, .int (nI hp), .long nm, .int (zI la), .int (zI sl)], oC rs 2 [.ref ra, .int (nI s1)], aC G ra 60 f] H := hP
        have hD : va_D A [oC wk 6 [.ref t, .ref en, .ref vo, .ref se, .ref rs, .int wa, .int (nI hp), .long nm, .int (zI la), .int (zI sl)], oC rs 2 [.ref ra, .int (nI s1)], aC G ra 60 f] := hD
        refine kIfNeZ (tgt := 46) hF dX6_hasName_39 (by decide) (fun c_3 => ?_) (fun c_3 => ?_)
        · refine lv_iconst (v := (nI 0)) hF.1 hF.2.1 dX6_hasName_46 (by decide) ?_
          refine kRetI (v := (nI 0)) hF hr hlk hK hP hD hS hQ rfl (s1) [0, 1, 2] (by decide) rfl (Nat.le_of_ble_eq_true rfl) (Nat.le_of_ble_eq_true rfl) dX6_hasName_47 ?_
          exact ⟨zI_0 (by omega), by rw [← hR]; exact (scan_x (fun h9 => by first | (exfalso; omega) | exact decide_eq_false (fun h8 => ‹¬ (s1 < 60 ∧ f s1 = nI 47)› ⟨h9, h8⟩))).symm⟩
        · refine lv_iconst (v := (nI 1)) hF.1 hF.2.1 dX6_hasName_42 (by decide) ?_
          refine lv_goto (tgt := 47) hF.1 hF.2.1 dX6_hasName_43 (by decide) ?_
          refine kRetI (v := (nI 1)) hF hr hlk hK hP hD hS hQ rfl (s1) [0, 1, 2] (by decide) rfl (Nat.le_of_ble_eq_true rfl) (Nat.le_of_ble_eq_true rfl) dX6_hasName_47 ?_
          exact ⟨zI_1 (by omega), by rw [← hR]; exact (scan_x (fun h9 => by first | (exfalso; omega) | exact decide_eq_false (fun h8 => ‹¬ (s1 < 60 ∧ f s1 = nI 47)› ⟨h9, h8⟩))).symm⟩
      · refine lv_aload_n hF.1 hF.2.1 dX6_hasName_8 rfl (lv_at hl 1 rfl) ?_
        refine kGet (C := RX6) (T := TX6) (N := 10) (index := 12) hF hK hP (inT inBX6) 0 rfl rfl 4 (by decide) rfl (List.mem_cons_of_mem _ mF_X6_12) rfl dX6_hasName_9 ?_
        refine kCallI (wr := [oC wk 6 [.ref t, .ref en, .ref vo, .ref se, .ref rs, .int wa, .int (nI hp), .long nm, .int (zI la), .int (zI sl)]]) (va_runV (As := []) (rest := []) hF (c_X2_beginsWithSlash l G _ rs ra s1 f (by first | assumption | omega)) (cwVB 0 hF rfl mL_X6_81 mI_X2_beginsWithSlash mS_X2_beginsWithSlash mN_X2 mC_X2_beginsWithSlash rfl hd_X2_beginsWithSlash rfl rfl ⟨Nat.le_of_ble_eq_true rfl, Nat.le_of_ble_eq_true rfl⟩) (kPre hK hP hD [1, 2] (by decide) rfl (q0 := 1) (ci := 2) rfl rfl rfl) rfl rfl hl.1 rfl (lv_room (Nat.le_of_ble_eq_true rfl)) dX6_hasName_12 ⟨Nat.le_of_ble_eq_true rfl, Nat.le_of_ble_eq_true rfl⟩) hP hD hS hA [1, 2] [0] rfl rfl (by decide) (by decide) (fun r u H locs hw_4 hP hD hS => ?_)
        have hw_4 := hw_4.symm
        subst hw_4
        have hP : PG G [oC wk 6 [.ref t, .ref en, .ref vo, .ref se, .ref rs, .int wa, .int (nI hp), .long nm, .int (zI la), .int (zI sl)], oC rs 2 [.ref ra, .int (nI s1)], aC G ra 60 f] H := hP
        have hD : va_D A [oC wk 6 [.ref t, .ref en, .ref vo, .ref se, .ref rs, .int wa, .int (nI hp), .long nm, .int (zI la), .int (zI sl)], oC rs 2 [.ref ra, .int (nI s1)], aC G ra 60 f] := hD
        refine kIfEqZ (tgt := 32) hF dX6_hasName_15 (by decide) (fun c_5 => ?_) (fun c_5 => ?_)
        · refine lv_aload_n hF.1 hF.2.1 dX6_hasName_32 rfl (lv_at hl 1 rfl) ?_
          refine kGet (C := RX6) (T := TX6) (N := 10) (index := 12) hF hK hP (inT inBX6) 0 rfl rfl 4 (by decide) rfl (List.mem_cons_of_mem _ mF_X6_12) rfl dX6_hasName_33 ?_
          refine kCallI (wr := [oC wk 6 [.ref t, .ref en, .ref vo, .ref se, .ref rs, .int wa, .int (nI hp), .long nm, .int (zI la), .int (zI sl)]]) (va_runV (As := []) (rest := []) hF (c_X2_isEmpty l G H.size rs ra s1 f (by first | assumption | omega)) (cwVB 0 hF rfl mL_X6_99 mI_X2_isEmpty mS_X2_isEmpty mN_X2 mC_X2_isEmpty rfl hd_X2_isEmpty rfl rfl ⟨Nat.le_of_ble_eq_true rfl, Nat.le_of_ble_eq_true rfl⟩) (kPre hK hP hD [1, 2] (by decide) rfl (q0 := 1) (ci := 2) rfl rfl rfl) rfl rfl hl.1 rfl (lv_room (Nat.le_of_ble_eq_true rfl)) dX6_hasName_36 ⟨Nat.le_of_ble_eq_true rfl, Nat.le_of_ble_eq_true rfl⟩) hP hD hS hA [1, 2] [0] rfl rfl (by decide) (by decide) (fun r u H locs hw_6 hP hD hS => ?_)
          have hw_6 := hw_6.symm
          subst hw_6
          have hP : PG G [oC wk 6 [.ref t, .ref en, .ref vo, .ref se, .ref rs, .int wa, .int (nI hp), .long nm, .int (zI la), .int (zI sl)], oC rs 2 [.ref ra, .int (nI s1)], aC G ra 60 f] H := hP
          have hD : va_D A [oC wk 6 [.ref t, .ref en, .ref vo, .ref se, .ref rs, .int wa, .int (nI hp), .long nm, .int (zI la), .int (zI sl)], oC rs 2 [.ref ra, .int (nI s1)], aC G ra 60 f] := hD
          refine kIfNeZ (tgt := 46) hF dX6_hasName_39 (by decide) (fun c_7 => ?_) (fun c_7 => ?_)
          · refine lv_iconst (v := (nI 0)) hF.1 hF.2.1 dX6_hasName_46 (by decide) ?_
            refine kRetI (v := (nI 0)) hF hr hlk hK hP hD hS hQ rfl (s1) [0, 1, 2] (by decide) rfl (Nat.le_of_ble_eq_true rfl) (Nat.le_of_ble_eq_true rfl) dX6_hasName_47 ?_
            exact ⟨zI_0 (by omega), by rw [← hR]; exact (scan_x (fun h9 => by first | (exfalso; omega) | exact decide_eq_false (fun h8 => ‹¬ (s1 < 60 ∧ f s1 = nI 47)› ⟨h9, h8⟩))).symm⟩
          · refine lv_iconst (v := (nI 1)) hF.1 hF.2.1 dX6_hasName_42 (by decide) ?_
            refine lv_goto (tgt := 47) hF.1 hF.2.1 dX6_hasName_43 (by decide) ?_
            refine kRetI (v := (nI 1)) hF hr hlk hK hP hD hS hQ rfl (s1) [0, 1, 2] (by decide) rfl (Nat.le_of_ble_eq_true rfl) (Nat.le_of_ble_eq_true rfl) dX6_hasName_47 ?_
            exact ⟨zI_1 (by omega), by rw [← hR]; exact (scan_x (fun h9 => by first | (exfalso; omega) | exact decide_eq_false (fun h8 => ‹¬ (s1 < 60 ∧ f s1 = nI 47)› ⟨h9, h8⟩))).symm⟩
        · obtain ⟨hx1, hx2⟩ := c_5
          refine lv_aload_n hF.1 hF.2.1 dX6_hasName_18 rfl (lv_at hl 1 rfl) ?_
          refine kGet (C := RX6) (T := TX6) (N := 10) (index := 12) hF hK hP (inT inBX6) 0 rfl rfl 4 (by decide) rfl (List.mem_cons_of_mem _ mF_X6_12) rfl dX6_hasName_19 ?_
          refine kCallI (wr := [oC wk 6 [.ref t, .ref en, .ref vo, .ref se, .ref rs, .int wa, .int (nI hp), .long nm, .int (zI la), .int (zI sl)]]) (va_runV (As := []) (rest := []) hF (c_X2_take l G H.size rs ra s1 f (by first | assumption | omega) (by first | assumption | omega)) (cwVB 0 hF rfl mL_X6_95 mI_X2_take mS_X2_take mN_X2 mC_X2_take rfl hd_X2_take rfl rfl ⟨Nat.le_of_ble_eq_true rfl, Nat.le_of_ble_eq_true rfl⟩) (kPre hK hP hD [1, 2] (by decide) rfl (q0 := 1) (ci := 2) rfl rfl rfl) rfl rfl hl.1 rfl (lv_room (Nat.le_of_ble_eq_true rfl)) dX6_hasName_22 ⟨Nat.le_of_ble_eq_true rfl, Nat.le_of_ble_eq_true rfl⟩) hP hD hS hA [1, 2] [0] rfl rfl (by decide) (by decide) (fun r u H locs hw_8 hP hD hS => ?_)
          have hw_8 := hw_8.symm
          subst hw_8
          have hP : PG G [oC wk 6 [.ref t, .ref en, .ref vo, .ref se, .ref rs, .int wa, .int (nI hp), .long nm, .int (zI la), .int (zI sl)], oC rs 2 [.ref ra, .int (nI (s1 + 1))], aC G ra 60 f] H := hP
          have hD : va_D A [oC wk 6 [.ref t, .ref en, .ref vo, .ref se, .ref rs, .int wa, .int (nI hp), .long nm, .int (zI la), .int (zI sl)], oC rs 2 [.ref ra, .int (nI (s1 + 1))], aC G ra 60 f] := hD
          refine lv_pop hF.1 hF.2.1 dX6_hasName_25 rfl ?_
          refine lv_iinc (v := (nI (k + 1))) (lv' := [(1, .int (nI (k + 1))), (0, .ref wk)]) hF.1 hF.2.1 dX6_hasName_26 hl (k := 0) rfl (nI_inc1 _) (by decide) rfl (fun ls hl => ?_)
          refine lv_goto (tgt := 2) hF.1 hF.2.1 dX6_hasName_29 (by decide) ?_
          exact ih_2 (k + 1) (s1 + 1) (by omega) (by omega) (by rw [← hR]; exact (scan_t (by omega) (decide_eq_true hx2)).symm) H locs ls hP hD hS (lv_sub hl [0, 1] rfl)
  exact loop_2 _ 0 st (Nat.lt_succ_self _) (by omega) (rfl) _ _ _ hP hD hS (lv_sub hl [0, 1] rfl)
set_option maxHeartbeats 4000000 in
set_option maxRecDepth 100000 in
theorem c_X6_takeName (l : Launch) (G : GG) (sz : Nat) (wk : Nat) (t : Nat) (en : Nat) (vo : Nat) (se : Nat) (rs : Nat) (ra : Nat) (st : Nat) (f : Nat → Int32) (wa : Int32) (hp : Nat) (nm : Int64) (la : Prop) (sl : Prop) (us : Int32) (ro : Int32) (pr : Int32) (tk : Nat) (tm : Nat) (to_ : Nat) (tv : Nat) (tp : Nat) (tl : Nat) (kF : Nat → Int32) (mF : Nat → Int32) (oF : Nat → Int32) (hs : st ≤ 60) (hf : ∀ j, okC (f j)) (hwa : vp_in wa 40) : CtI l G yX6_takeName wsX6_takeName 2 45 0 0 sz [.ref wk] [oC wk 6 [.ref t, .ref en, .ref vo, .ref se, .ref rs, .int wa, .int (nI hp), .long nm, .int (zI la), .int (zI sl)], oC rs 2 [.ref ra, .int (nI st)], aC G ra 60 f, oC se 3 [.ref t, .int us, .int ro, .int pr], oC t 4 [.ref tk, .ref tm, .ref to_, .ref tv, .ref tp, .ref tl], aI G tk 40 kF, aI G tm 40 mF, aI G to_ 40 oF] (fun r (u : Nat × Int64) => match u with | (s2, n2) => r = (tkR kF mF oF us wa (s2 - st)) ∧ s2 = scan (noS f) (60 - st) st ∧ n2 = nmC f (s2 - st) st (lN 0) ∧ st ≤ s2 ∧ s2 ≤ 60) (fun (u : Nat × Int64) => match u with | (s2, n2) => [oC wk 6 [.ref t, .ref en, .ref vo, .ref se, .ref rs, .int wa, .int (nI hp), .long n2, .int (zI (scan (isS f) (60 - s2) s2 = 60)), .int (zI (s2 < 60))], oC rs 2 [.ref ra, .int (nI s2)], aC G ra 60 f, oC se 3 [.ref t, .int us, .int ro, .int pr], oC t 4 [.ref tk, .ref tm, .ref to_, .ref tv, .ref tp, .ref tl], aI G tk 40 kF, aI G tm 40 mF, aI G to_ 40 oF]) := by
  refine kMet (Qc := fun A => va_Qi _ (Bw G A _) A) (cc := cX6_takeName) (nL := 3) (ret := some (.int)) (by decide) rfl (Nat.le_of_ble_eq_true rfl) ?_
  intro p e s m args below meth c A Q hF hr hlk hnme hK hP hD hA hS hQ hsz ls hl
  have hl : lv_has ls 3 [(0, .ref wk)] := hl
  refine lv_aload_n hF.1 hF.2.1 dX6_takeName_0 rfl (lv_at hl 0 rfl) ?_
  refine lv_lconst (v := lN 0) hF.1 hF.2.1 dX6_takeName_1 (by decide) ?_
  refine kPut (C := RX6) (T := TX6) (N := 10) (index := 38) (v := .long (lN 0)) hF hK hP hD hS (inT inBX6) tyX6_ok nmX6 0 rfl rfl 7 (by decide) rfl (List.mem_cons_of_mem _ mF_X6_38) rfl rfl rfl (Nat.le_of_ble_eq_true rfl) dX6_takeName_2 (fun H locs hP hD hS => ?_)
  have hP : PG G [oC wk 6 [.ref t, .ref en, .ref vo, .ref se, .ref rs, .int wa, .int (nI hp), .long (lN 0), .int (zI la), .int (zI sl)], oC rs 2 [.ref ra, .int (nI st)], aC G ra 60 f, oC se 3 [.ref t, .int us, .int ro, .int pr], oC t 4 [.ref tk, .ref tm, .ref to_, .ref tv, .ref tp, .ref tl], aI G tk 40 kF, aI G tm 40 mF, aI G to_ 40 oF] H := hP
  have hD : va_D A [oC wk 6 [.ref t, .ref en, .ref vo, .ref se, .ref rs, .int wa, .int (nI hp), .long (lN 0), .int (zI la), .int (zI sl)], oC rs 2 [.ref ra, .int (nI st)], aC G ra 60 f, oC se 3 [.ref t, .int us, .int ro, .int pr], oC t 4 [.ref tk, .ref tm, .ref to_, .ref tv, .ref tp, .ref tl], aI G tk 40 kF, aI G tm 40 mF, aI G to_ 40 oF] := hD
  refine lv_aload_n hF.1 hF.2.1 dX6_takeName_5 rfl (lv_at hl 0 rfl) ?_
  refine kGet (C := RX6) (T := TX6) (N := 10) (index := 12) hF hK hP (inT inBX6) 0 rfl rfl 4 (by decide) rfl (List.mem_cons_of_mem _ mF_X6_12) rfl dX6_takeName_6 ?_
  refine kCallI (wr := [oC wk 6 [.ref t, .ref en, .ref vo, .ref se, .ref rs, .int wa, .int (nI hp), .long (lN 0), .int (zI la), .int (zI sl)], oC se 3 [.ref t, .int us, .int ro, .int pr], oC t 4 [.ref tk, .ref tm, .ref to_, .ref tv, .ref tp, .ref tl], aI G tk 40 kF, aI G tm 40 mF, aI G to_ 40 oF]) (va_runV (As := []) (rest := []) hF (c_X2_size l G _ rs ra st f (by first | assumption | omega)) (cwVB 0 hF rfl mL_X6_100 mI_X2_size mS_X2_size mN_X2 mC_X2_size rfl hd_X2_size rfl rfl ⟨Nat.le_of_ble_eq_true rfl, Nat.le_of_ble_eq_true rfl⟩) (kPre hK hP hD [1, 2] (by decide) rfl (q0 := 1) (ci := 2) rfl rfl rfl) rfl rfl hl.1 rfl (lv_room (Nat.le_of_ble_eq_true rfl)) dX6_takeName_9 ⟨Nat.le_of_ble_eq_true rfl, Nat.le_of_ble_eq_true rfl⟩) hP hD hS hA [1, 2] [0, 3, 4, 5, 6, 7] rfl rfl (by decide) (by decide) (fun r u H locs hw_1 hP hD hS => ?_)
  have hw_1 := hw_1.symm
  subst hw_1
  have hP : PG G [oC wk 6 [.ref t, .ref en, .ref vo, .ref se, .ref rs, .int wa, .int (nI hp), .long (lN 0), .int (zI la), .int (zI sl)], oC rs 2 [.ref ra, .int (nI st)], aC G ra 60 f, oC se 3 [.ref t, .int us, .int ro, .int pr], oC t 4 [.ref tk, .ref tm, .ref to_, .ref tv, .ref tp, .ref tl], aI G tk 40 kF, aI G tm 40 mF, aI G to_ 40 oF] H := va_P.sub hP [0, 6, 7, 1, 2, 3, 4, 5] rfl
  have hD : va_D A [oC wk 6 [.ref t, .ref en, .ref vo, .ref se, .ref rs, .int wa, .int (nI hp), .long (lN 0), .int (zI la), .int (zI sl)], oC rs 2 [.ref ra, .int (nI st)], aC G ra 60 f, oC se 3 [.ref t, .int us, .int ro, .int pr], oC t 4 [.ref tk, .ref tm, .ref to_, .ref tv, .ref tp, .ref tl], aI G tk 40 kF, aI G tm 40 mF, aI G to_ 40 oF] := va_D.sub hD [0, 6, 7, 1, 2, 3, 4, 5] (by decide) rfl
  refine lv_istore_n (lv' := [(1, .int (nI (60 - st))), (0, .ref wk)]) hF.1 hF.2.1 dX6_takeName_12 rfl hl (by decide) rfl (fun ls hl => ?_)
  refine lv_iconst (v := (nI 0)) hF.1 hF.2.1 dX6_takeName_13 (by decide) ?_
  refine lv_istore_n (lv' := [(2, .int (nI 0)), (1, .int (nI (60 - st))), (0, .ref wk)]) hF.1 hF.2.1 dX6_takeName_14 rfl hl (by decide) rfl (fun ls hl => ?_)
  have loop_15 : ∀ (n_15 : Nat) (k s1 : Nat) (z : Int64), 60 - k < n_15 → (s1 = st + k ∧ s1 ≤ 60) → (scan (noS f) (60 - s1) s1 = scan (noS f) (60 - st) st) → (nmC f (scan (noS f) (60 - st) st - s1) s1 z = nmC f (scan (noS f) (60 - st) st - st) st (lN 0)) → ∀ (H : Heap) (locs : List Loc) (ls : Array Slot), PG G [oC wk 6 [.ref t, .ref en, .ref vo, .ref se, .ref rs, .int wa, .int (nI hp), .long z, .int (zI la), .int (zI sl)], oC rs 2 [.ref ra, .int (nI s1)], aC G ra 60 f, oC se 3 [.ref t, .int us, .int ro, .int pr], oC t 4 [.ref tk, .ref tm, .ref to_, .ref tv, .ref tp, .ref tl], aI G tk 40 kF, aI G tm 40 mF, aI G to_ 40 oF] H → va_D A [oC wk 6 [.ref t, .ref en, .ref vo, .ref se, .ref rs, .int wa, .int (nI hp), .long z, .int (zI la), .int (zI sl)], oC rs 2 [.ref ra, .int (nI s1)], aC G ra 60 f, oC se 3 [.ref t, .int us, .int ro, .int pr], oC t 4 [.ref tk, .ref tm, .ref to_, .ref tv, .ref tp, .ref tl], aI G tk 40 kF, aI G tm 40 mF, aI G to_ 40 oF] → va_S A s.heap H locs → lv_has ls 3 [(2, .int (nI k)), (1, .int (nI (60 - st))), (0, .ref wk)] → W p l e (Rm 2 0 0 45) s m args below meth c H locs 0 0 Q (F0 m 15 ls []) := by
    intro n_15
    induction n_15 with
    | zero => intro k s1 z hm; exact absurd hm (Nat.not_lt_zero _)
    | succ n_15 ih_15 =>
      intro k s1 z hm_15 hk hR hN H locs ls hP hD hS hl
      refine lv_iload_n hF.1 hF.2.1 dX6_takeName_15 rfl (lv_at hl 0 rfl) ?_
      refine lv_bipush (v := (nI 60)) hF.1 hF.2.1 dX6_takeName_16 (by decide) ?_
      refine kGeN (tgt := 67) hF dX6_takeName_18 (by decide) (by omega) (by omega) (fun c_2 => ?_) (fun c_2 => ?_)
      · have hJ : scan (noS f) (60 - st) st = s1 := by rw [← hR]; exact scan_x (fun h9 => by first | (exfalso; omega) | (simp only [Bool.not_eq_false', decide_eq_true_eq]; exact (by assumption : s1 < 60 ∧ f s1 = nI 47).2))
        have hZ : z = nmC f (s1 - st) st (lN 0) := by have h := hN; rw [hJ, nmC_e (Nat.le_refl s1)] at h; exact h
        refine lv_iload_n hF.1 hF.2.1 dX6_takeName_67 rfl (lv_at hl 1 rfl) ?_
        refine lv_aload_n hF.1 hF.2.1 dX6_takeName_68 rfl (lv_at hl 2 rfl) ?_
        refine kGet (C := RX6) (T := TX6) (N := 10) (index := 12) hF hK hP (inT inBX6) 0 rfl rfl 4 (by decide) rfl (List.mem_cons_of_mem _ mF_X6_12) rfl dX6_takeName_69 ?_
        refine kCallI (wr := [oC wk 6 [.ref t, .ref en, .ref vo, .ref se, .ref rs, .int wa, .int (nI hp), .long z, .int (zI la), .int (zI sl)], oC se 3 [.ref t, .int us, .int ro, .int pr], oC t 4 [.ref tk, .ref tm, .ref to_, .ref tv, .ref tp, .ref tl], aI G tk 40 kF, aI G tm 40 mF, aI G to_ 40 oF]) (va_runV (As := []) (rest := [.int (nI (60 - st))]) hF (c_X2_size l G H.size rs ra s1 f (by first | assumption | omega)) (cwVB 0 hF rfl mL_X6_100 mI_X2_size mS_X2_size mN_X2 mC_X2_size rfl hd_X2_size rfl rfl ⟨Nat.le_of_ble_eq_true rfl, Nat.le_of_ble_eq_true rfl⟩) (kPre hK hP hD [1, 2] (by decide) rfl (q0 := 1) (ci := 2) rfl rfl rfl) rfl rfl hl.1 rfl (lv_room (Nat.le_of_ble_eq_true rfl)) dX6_takeName_72 ⟨Nat.le_of_ble_eq_true rfl, Nat.le_of_ble_eq_true rfl⟩) hP hD hS hA [1, 2] [0, 3, 4, 5, 6, 7] rfl rfl (by decide) (by decide) (fun r u H locs hw_3 hP hD hS => ?_)
        have hw_3 := hw_3.symm
        subst hw_3
        have hP : PG G [oC wk 6 [.ref t, .ref en, .ref vo, .ref se, .ref rs, .int wa, .int (nI hp), .long z, .int (zI la), .int (zI sl)], oC rs 2 [.ref ra, .int (nI s1)], aC G ra 60 f, oC se 3 [.ref t, .int us, .int ro, .int pr], oC t 4 [.ref tk, .ref tm, .ref to_, .ref tv, .ref tp, .ref tl], aI G tk 40 kF, aI G tm 40 mF, aI G to_ 40 oF] H := va_P.sub hP [0, 6, 7, 1, 2, 3, 4, 5] rfl
        have hD : va_D A [oC wk 6 [.ref t, .ref en, .ref vo, .ref se, .ref rs, .int wa, .int (nI hp), .long z, .int (zI la), .int (zI sl)], oC rs 2 [.ref ra, .int (nI s1)], aC G ra 60 f, oC se 3 [.ref t, .int us, .int ro, .int pr], oC t 4 [.ref tk, .ref tm, .ref to_, .ref tv, .ref tp, .ref tl], aI G tk 40 kF, aI G tm 40 mF, aI G to_ 40 oF] := va_D.sub hD [0, 6, 7, 1, 2, 3, 4, 5] (by decide) rfl
        refine lv_isub hF.1 hF.2.1 dX6_takeName_75 ?_
        refine kTop (y := (nI ((60 - st) - (60 - s1)))) (pk_sub (by omega)) ?_
        refine lv_istore_n (lv' := [(2, .int (nI ((60 - st) - (60 - s1)))), (1, .int (nI (60 - st))), (0, .ref wk)]) hF.1 hF.2.1 dX6_takeName_76 rfl hl (by decide) rfl (fun ls hl => ?_)
        refine lv_aload_n hF.1 hF.2.1 dX6_takeName_77 rfl (lv_at hl 2 rfl) ?_
        refine lv_aload_n hF.1 hF.2.1 dX6_takeName_78 rfl (lv_at hl 2 rfl) ?_
        refine kGet (C := RX6) (T := TX6) (N := 10) (index := 12) hF hK hP (inT inBX6) 0 rfl rfl 4 (by decide) rfl (List.mem_cons_of_mem _ mF_X6_12) rfl dX6_takeName_79 ?_
        refine kCallI (wr := [oC wk 6 [.ref t, .ref en, .ref vo, .ref se, .ref rs, .int wa, .int (nI hp), .long z, .int (zI la), .int (zI sl)], oC se 3 [.ref t, .int us, .int ro, .int pr], oC t 4 [.ref tk, .ref tm, .ref to_, .ref tv, .ref tp, .ref tl], aI G tk 40 kF, aI G tm 40 mF, aI G to_ 40 oF]) (va_runV (As := []) (rest := [.ref wk]) hF (c_X2_hasSlashesAlone l G H.size rs ra s1 f (by first | assumption | omega)) (cwVB 0 hF rfl mL_X6_103 mI_X2_hasSlashesAlone mS_X2_hasSlashesAlone mN_X2 mC_X2_hasSlashesAlone rfl hd_X2_hasSlashesAlone rfl rfl ⟨Nat.le_of_ble_eq_true rfl, Nat.le_of_ble_eq_true rfl⟩) (kPre hK hP hD [1, 2] (by decide) rfl (q0 := 1) (ci := 2) rfl rfl rfl) rfl rfl hl.1 rfl (lv_room (Nat.le_of_ble_eq_true rfl)) dX6_takeName_82 ⟨Nat.le_of_ble_eq_true rfl, Nat.le_of_ble_eq_true rfl⟩) hP hD hS hA [1, 2] [0, 3, 4, 5, 6, 7] rfl rfl (by decide) (by decide) (fun r u H locs hw_4 hP hD hS => ?_)
        have hw_4 := hw_4.symm
        subst hw_4
        have hP : PG G [oC wk 6 [.ref t, .ref en, .ref vo, .ref se, .ref rs, .int wa, .int (nI hp), .long z, .int (zI la), .int (zI sl)], oC rs 2 [.ref ra, .int (nI s1)], aC G ra 60 f, oC se 3 [.ref t, .int us, .int ro, .int pr], oC t 4 [.ref tk, .ref tm, .ref to_, .ref tv, .ref tp, .ref tl], aI G tk 40 kF, aI G tm 40 mF, aI G to_ 40 oF] H := va_P.sub hP [0, 6, 7, 1, 2, 3, 4, 5] rfl
        have hD : va_D A [oC wk 6 [.ref t, .ref en, .ref vo, .ref se, .ref rs, .int wa, .int (nI hp), .long z, .int (zI la), .int (zI sl)], oC rs 2 [.ref ra, .int (nI s1)], aC G ra 60 f, oC se 3 [.ref t, .int us, .int ro, .int pr], oC t 4 [.ref tk, .ref tm, .ref to_, .ref tv, .ref tp, .ref tl], aI G tk 40 kF, aI G tm 40 mF, aI G to_ 40 oF] := va_D.sub hD [0, 6, 7, 1, 2, 3, 4, 5] (by decide) rfl
        refine kPut (C := RX6) (T := TX6) (N := 10) (index := 71) (v := .int (zI (scan (isS f) (60 - s1) s1 = 60))) hF hK hP hD hS (inT inBX6) tyX6_ok nmX6 0 rfl rfl 8 (by decide) rfl (List.mem_cons_of_mem _ mF_X6_71) rfl (zI_nar _) (zI_fit _) (Nat.le_of_ble_eq_true rfl) dX6_takeName_85 (fun H locs hP hD hS => ?_)
        have hP : PG G [oC wk 6 [.ref t, .ref en, .ref vo, .ref se, .ref rs, .int wa, .int (nI hp), .long z, .int (zI (scan (isS f) (60 - s1) s1 = 60)), .int (zI sl)], oC rs 2 [.ref ra, .int (nI s1)], aC G ra 60 f, oC se 3 [.ref t, .int us, .int ro, .int pr], oC t 4 [.ref tk, .ref tm, .ref to_, .ref tv, .ref tp, .ref tl], aI G tk 40 kF, aI G tm 40 mF, aI G to_ 40 oF] H := hP
        have hD : va_D A [oC wk 6 [.ref t, .ref en, .ref vo, .ref se, .ref rs, .int wa, .int (nI hp), .long z, .int (zI (scan (isS f) (60 - s1) s1 = 60)), .int (zI sl)], oC rs 2 [.ref ra, .int (nI s1)], aC G ra 60 f, oC se 3 [.ref t, .int us, .int ro, .int pr], oC t 4 [.ref tk, .ref tm, .ref to_, .ref tv, .ref tp, .ref tl], aI G tk 40 kF, aI G tm 40 mF, aI G to_ 40 oF] := hD
        refine lv_aload_n hF.1 hF.2.1 dX6_takeName_88 rfl (lv_at hl 2 rfl) ?_
        refine lv_aload_n hF.1 hF.2.1 dX6_takeName_89 rfl (lv_at hl 2 rfl) ?_
        refine kGet (C := RX6) (T := TX6) (N := 10) (index := 12) hF hK hP (inT inBX6) 0 rfl rfl 4 (by decide) rfl (List.mem_cons_of_mem _ mF_X6_12) rfl dX6_takeName_90 ?_
        refine kCallI (wr := [oC wk 6 [.ref t, .ref en, .ref vo, .ref se, .ref rs, .int wa, .int (nI hp), .long z, .int (zI (scan (isS f) (60 - s1) s1 = 60)), .int (zI sl)], oC se 3 [.ref t, .int us, .int ro, .int pr], oC t 4 [.ref tk, .ref tm, .ref to_, .ref tv, .ref tp, .ref tl], aI G tk 40 kF, aI G tm 40 mF, aI G to_ 40 oF]) (va_runV (As := []) (rest := [.ref wk]) hF (c_X2_isEmpty l G H.size rs ra s1 f (by first | assumption | omega)) (cwVB 0 hF rfl mL_X6_99 mI_X2_isEmpty mS_X2_isEmpty mN_X2 mC_X2_isEmpty rfl hd_X2_isEmpty rfl rfl ⟨Nat.le_of_ble_eq_true rfl, Nat.le_of_ble_eq_true rfl⟩) (kPre hK hP hD [1, 2] (by decide) rfl (q0 := 1) (ci := 2) rfl rfl rfl) rfl rfl hl.1 rfl (lv_room (Nat.le_of_ble_eq_true rfl)) dX6_takeName_93 ⟨Nat.le_of_ble_eq_true rfl, Nat.le_of_ble_eq_true rfl⟩) hP hD hS hA [1, 2] [0, 3, 4, 5, 6, 7] rfl rfl (by decide) (by decide) (fun r u H locs hw_5 hP hD hS => ?_)
        have hw_5 := hw_5.symm
        subst hw_5
        have hP : PG G [oC wk 6 [.ref t, .ref en, .ref vo, .ref se, .ref rs, .int wa, .int (nI hp), .long z, .int (zI (scan (isS f) (60 - s1) s1 = 60)), .int (zI sl)], oC rs 2 [.ref ra, .int (nI s1)], aC G ra 60 f, oC se 3 [.ref t, .int us, .int ro, .int pr], oC t 4 [.ref tk, .ref tm, .ref to_, .ref tv, .ref tp, .ref tl], aI G tk 40 kF, aI G tm 40 mF, aI G to_ 40 oF] H := va_P.sub hP [0, 6, 7, 1, 2, 3, 4, 5] rfl
        have hD : va_D A [oC wk 6 [.ref t, .ref en, .ref vo, .ref se, .ref rs, .int wa, .int (nI hp), .long z, .int (zI (scan (isS f) (60 - s1) s1 = 60)), .int (zI sl)], oC rs 2 [.ref ra, .int (nI s1)], aC G ra 60 f, oC se 3 [.ref t, .int us, .int ro, .int pr], oC t 4 [.ref tk, .ref tm, .ref to_, .ref tv, .ref tp, .ref tl], aI G tk 40 kF, aI G tm 40 mF, aI G to_ 40 oF] := va_D.sub hD [0, 6, 7, 1, 2, 3, 4, 5] (by decide) rfl
        refine kIfNeZ (tgt := 103) hF dX6_takeName_96 (by decide) (fun c_6 => ?_) (fun c_6 => ?_)
        · refine lv_iconst (v := (nI 0)) hF.1 hF.2.1 dX6_takeName_103 (by decide) ?_
          refine kTop (y := zI (s1 < 60)) (first_z (by first | exact Or.inl ⟨rfl, by omega⟩ | exact Or.inr ⟨rfl, by omega⟩)) ?_
          refine kPut (C := RX6) (T := TX6) (N := 10) (index := 42) (v := .int (zI (s1 < 60))) hF hK hP hD hS (inT inBX6) tyX6_ok nmX6 0 rfl rfl 9 (by decide) rfl (List.mem_cons_of_mem _ mF_X6_42) rfl (zI_nar _) (zI_fit _) (Nat.le_of_ble_eq_true rfl) dX6_takeName_104 (fun H locs hP hD hS => ?_)
          have hP : PG G [oC wk 6 [.ref t, .ref en, .ref vo, .ref se, .ref rs, .int wa, .int (nI hp), .long z, .int (zI (scan (isS f) (60 - s1) s1 = 60)), .int (zI (s1 < 60))], oC rs 2 [.ref ra, .int (nI s1)], aC G ra 60 f, oC se 3 [.ref t, .int us, .int ro, .int pr], oC t 4 [.ref tk, .ref tm, .ref to_, .ref tv, .ref tp, .ref tl], aI G tk 40 kF, aI G tm 40 mF, aI G to_ 40 oF] H := hP
          have hD : va_D A [oC wk 6 [.ref t, .ref en, .ref vo, .ref se, .ref rs, .int wa, .int (nI hp), .long z, .int (zI (scan (isS f) (60 - s1) s1 = 60)), .int (zI (s1 < 60))], oC rs 2 [.ref ra, .int (nI s1)], aC G ra 60 f, oC se 3 [.ref t, .int us, .int ro, .int pr], oC t 4 [.ref tk, .ref tm, .ref to_, .ref tv, .ref tp, .ref tl], aI G tk 40 kF, aI G tm 40 mF, aI G to_ 40 oF] := hD
          refine lv_aload_n hF.1 hF.2.1 dX6_takeName_107 rfl (lv_at hl 2 rfl) ?_
          refine kGet (C := RX6) (T := TX6) (N := 10) (index := 18) hF hK hP (inT inBX6) 0 rfl rfl 0 (by decide) rfl (List.mem_cons_of_mem _ mF_X6_18) rfl dX6_takeName_108 ?_
          refine lv_aload_n hF.1 hF.2.1 dX6_takeName_111 rfl (lv_at hl 2 rfl) ?_
          refine kGet (C := RX6) (T := TX6) (N := 10) (index := 34) hF hK hP (inT inBX6) 0 rfl rfl 5 (by decide) rfl (List.mem_cons_of_mem _ mF_X6_34) rfl dX6_takeName_112 ?_
          refine kCallI (wr := [oC wk 6 [.ref t, .ref en, .ref vo, .ref se, .ref rs, .int wa, .int (nI hp), .long z, .int (zI (scan (isS f) (60 - s1) s1 = 60)), .int (zI (s1 < 60))], oC rs 2 [.ref ra, .int (nI s1)], aC G ra 60 f, oC se 3 [.ref t, .int us, .int ro, .int pr], aI G tm 40 mF, aI G to_ 40 oF]) (va_runV (As := [.int wa]) (rest := []) hF (c_X4_isDirectory l G H.size t tk tm to_ tv tp tl kF wa (by first | assumption | omega)) (cwVB 1 hF rfl mL_X6_106 mI_X4_isDirectory mS_X4_isDirectory mN_X4 mC_X4_isDirectory rfl hd_X4_isDirectory rfl rfl ⟨Nat.le_of_ble_eq_true rfl, Nat.le_of_ble_eq_true rfl⟩) (kPre hK hP hD [4, 5] (by decide) rfl (q0 := 4) (ci := 4) rfl rfl rfl) rfl rfl hl.1 rfl (lv_room (Nat.le_of_ble_eq_true rfl)) dX6_takeName_115 ⟨Nat.le_of_ble_eq_true rfl, Nat.le_of_ble_eq_true rfl⟩) hP hD hS hA [4, 5] [0, 1, 2, 3, 6, 7] rfl rfl (by decide) (by decide) (fun r u H locs hw_7 hP hD hS => ?_)
          have hw_7 := hw_7.symm
          subst hw_7
          have hP : PG G [oC wk 6 [.ref t, .ref en, .ref vo, .ref se, .ref rs, .int wa, .int (nI hp), .long z, .int (zI (scan (isS f) (60 - s1) s1 = 60)), .int (zI (s1 < 60))], oC rs 2 [.ref ra, .int (nI s1)], aC G ra 60 f, oC se 3 [.ref t, .int us, .int ro, .int pr], oC t 4 [.ref tk, .ref tm, .ref to_, .ref tv, .ref tp, .ref tl], aI G tk 40 kF, aI G tm 40 mF, aI G to_ 40 oF] H := va_P.sub hP [0, 1, 2, 3, 6, 7, 4, 5] rfl
          have hD : va_D A [oC wk 6 [.ref t, .ref en, .ref vo, .ref se, .ref rs, .int wa, .int (nI hp), .long z, .int (zI (scan (isS f) (60 - s1) s1 = 60)), .int (zI (s1 < 60))], oC rs 2 [.ref ra, .int (nI s1)], aC G ra 60 f, oC se 3 [.ref t, .int us, .int ro, .int pr], oC t 4 [.ref tk, .ref tm, .ref to_, .ref tv, .ref tp, .ref tl], aI G tk 40 kF, aI G tm 40 mF, aI G to_ 40 oF] := va_D.sub hD [0, 1, 2, 3, 6, 7, 4, 5] (by decide) rfl
          refine kIfNeZ (tgt := 124) hF dX6_takeName_118 (by decide) (fun c_8 => ?_) (fun c_8 => ?_)
          · refine lv_aload_n hF.1 hF.2.1 dX6_takeName_124 rfl (lv_at hl 2 rfl) ?_
            refine kGet (C := RX6) (T := TX6) (N := 10) (index := 30) hF hK hP (inT inBX6) 0 rfl rfl 3 (by decide) rfl (List.mem_cons_of_mem _ mF_X6_30) rfl dX6_takeName_125 ?_
            refine lv_iconst (v := (nI 1)) hF.1 hF.2.1 dX6_takeName_128 (by decide) ?_
            refine lv_aload_n hF.1 hF.2.1 dX6_takeName_129 rfl (lv_at hl 2 rfl) ?_
            refine kGet (C := RX6) (T := TX6) (N := 10) (index := 34) hF hK hP (inT inBX6) 0 rfl rfl 5 (by decide) rfl (List.mem_cons_of_mem _ mF_X6_34) rfl dX6_takeName_130 ?_
            refine kCallI (wr := [oC wk 6 [.ref t, .ref en, .ref vo, .ref se, .ref rs, .int wa, .int (nI hp), .long z, .int (zI (scan (isS f) (60 - s1) s1 = 60)), .int (zI (s1 < 60))], oC rs 2 [.ref ra, .int (nI s1)], aC G ra 60 f, aI G tk 40 kF]) (va_runV (As := [.int (nI 1), .int wa]) (rest := []) hF (c_X3_may l G H.size se t us ro pr tk tm to_ tv tp tl mF oF (nI 1) wa (by first | assumption | omega)) (cwVB 2 hF rfl mL_X6_112 mI_X3_may mS_X3_may mN_X3 mC_X3_may rfl hd_X3_may rfl rfl ⟨Nat.le_of_ble_eq_true rfl, Nat.le_of_ble_eq_true rfl⟩) (kPre hK hP hD [3, 4, 6, 7] (by decide) rfl (q0 := 3) (ci := 3) rfl rfl rfl) rfl rfl hl.1 rfl (lv_room (Nat.le_of_ble_eq_true rfl)) dX6_takeName_133 ⟨Nat.le_of_ble_eq_true rfl, Nat.le_of_ble_eq_true rfl⟩) hP hD hS hA [3, 4, 6, 7] [0, 1, 2, 5] rfl rfl (by decide) (by decide) (fun r u H locs hw_9 hP hD hS => ?_)
            have hw_9 := hw_9.symm
            subst hw_9
            have hP : PG G [oC wk 6 [.ref t, .ref en, .ref vo, .ref se, .ref rs, .int wa, .int (nI hp), .long z, .int (zI (scan (isS f) (60 - s1) s1 = 60)), .int (zI (s1 < 60))], oC rs 2 [.ref ra, .int (nI s1)], aC G ra 60 f, oC se 3 [.ref t, .int us, .int ro, .int pr], oC t 4 [.ref tk, .ref tm, .ref to_, .ref tv, .ref tp, .ref tl], aI G tk 40 kF, aI G tm 40 mF, aI G to_ 40 oF] H := va_P.sub hP [0, 1, 2, 4, 5, 3, 6, 7] rfl
            have hD : va_D A [oC wk 6 [.ref t, .ref en, .ref vo, .ref se, .ref rs, .int wa, .int (nI hp), .long z, .int (zI (scan (isS f) (60 - s1) s1 = 60)), .int (zI (s1 < 60))], oC rs 2 [.ref ra, .int (nI s1)], aC G ra 60 f, oC se 3 [.ref t, .int us, .int ro, .int pr], oC t 4 [.ref tk, .ref tm, .ref to_, .ref tv, .ref tp, .ref tl], aI G tk 40 kF, aI G tm 40 mF, aI G to_ 40 oF] := va_D.sub hD [0, 1, 2, 4, 5, 3, 6, 7] (by decide) rfl
            refine kIfNeZ (tgt := 142) hF dX6_takeName_136 (by decide) (fun c_10 => ?_) (fun c_10 => ?_)
            · refine lv_iload_n hF.1 hF.2.1 dX6_takeName_142 rfl (lv_at hl 0 rfl) ?_
              refine lv_bipush (v := (nI 6)) hF.1 hF.2.1 dX6_takeName_143 (by decide) ?_
              refine kLeN (tgt := 153) hF dX6_takeName_145 (by decide) (by omega) (by omega) (fun c_11 => ?_) (fun c_11 => ?_)
              · refine lv_iconst (v := (nI 0)) hF.1 hF.2.1 dX6_takeName_153 (by decide) ?_
                refine kRetI (v := (nI 0)) hF hr hlk hK hP hD hS hQ rfl (s1, z) [0, 1, 2, 3, 4, 5, 6, 7] (by decide) rfl (Nat.le_of_ble_eq_true rfl) (Nat.le_of_ble_eq_true rfl) dX6_takeName_154 ?_
                refine ⟨?_, hJ.symm, hZ, by omega, by omega⟩
                unfold tkR
                first | (exfalso; omega) | rw [if_neg (by assumption)] | (rw [if_pos (by assumption)]; first | rw [pI_f (by assumption)] | (rw [pI_t (by assumption)]; first | rw [if_pos (by omega)] | rw [if_neg (by omega)]))
              · refine lv_bipush (v := (-5)) hF.1 hF.2.1 dX6_takeName_148 (by decide) ?_
                refine lv_goto (tgt := 154) hF.1 hF.2.1 dX6_takeName_150 (by decide) ?_
                refine kRetI (v := (-5)) hF hr hlk hK hP hD hS hQ rfl (s1, z) [0, 1, 2, 3, 4, 5, 6, 7] (by decide) rfl (Nat.le_of_ble_eq_true rfl) (Nat.le_of_ble_eq_true rfl) dX6_takeName_154 ?_
                refine ⟨?_, hJ.symm, hZ, by omega, by omega⟩
                unfold tkR
                first | (exfalso; omega) | rw [if_neg (by assumption)] | (rw [if_pos (by assumption)]; first | rw [pI_f (by assumption)] | (rw [pI_t (by assumption)]; first | rw [if_pos (by omega)] | rw [if_neg (by omega)]))
            · refine lv_bipush (v := (-3)) hF.1 hF.2.1 dX6_takeName_139 (by decide) ?_
              refine kRetI (v := (-3)) hF hr hlk hK hP hD hS hQ rfl (s1, z) [0, 1, 2, 3, 4, 5, 6, 7] (by decide) rfl (Nat.le_of_ble_eq_true rfl) (Nat.le_of_ble_eq_true rfl) dX6_takeName_141 ?_
              refine ⟨?_, hJ.symm, hZ, by omega, by omega⟩
              unfold tkR
              first | (exfalso; omega) | rw [if_neg (by assumption)] | (rw [if_pos (by assumption)]; first | rw [pI_f (by assumption)] | (rw [pI_t (by assumption)]; first | rw [if_pos (by omega)] | rw [if_neg (by omega)]))
          · refine lv_bipush (v := (-2)) hF.1 hF.2.1 dX6_takeName_121 (by decide) ?_
            refine kRetI (v := (-2)) hF hr hlk hK hP hD hS hQ rfl (s1, z) [0, 1, 2, 3, 4, 5, 6, 7] (by decide) rfl (Nat.le_of_ble_eq_true rfl) (Nat.le_of_ble_eq_true rfl) dX6_takeName_123 ?_
            refine ⟨?_, hJ.symm, hZ, by omega, by omega⟩
            unfold tkR
            first | (exfalso; omega) | rw [if_neg (by assumption)] | (rw [if_pos (by assumption)]; first | rw [pI_f (by assumption)] | (rw [pI_t (by assumption)]; first | rw [if_pos (by omega)] | rw [if_neg (by omega)]))
        · refine lv_iconst (v := (nI 1)) hF.1 hF.2.1 dX6_takeName_99 (by decide) ?_
          refine lv_goto (tgt := 104) hF.1 hF.2.1 dX6_takeName_100 (by decide) ?_
          refine kTop (y := zI (s1 < 60)) (first_z (by first | exact Or.inl ⟨rfl, by omega⟩ | exact Or.inr ⟨rfl, by omega⟩)) ?_
          refine kPut (C := RX6) (T := TX6) (N := 10) (index := 42) (v := .int (zI (s1 < 60))) hF hK hP hD hS (inT inBX6) tyX6_ok nmX6 0 rfl rfl 9 (by decide) rfl (List.mem_cons_of_mem _ mF_X6_42) rfl (zI_nar _) (zI_fit _) (Nat.le_of_ble_eq_true rfl) dX6_takeName_104 (fun H locs hP hD hS => ?_)
          have hP : PG G [oC wk 6 [.ref t, .ref en, .ref vo, .ref se, .ref rs, .int wa, .int (nI hp), .long z, .int (zI (scan (isS f) (60 - s1) s1 = 60)), .int (zI (s1 < 60))], oC rs 2 [.ref ra, .int (nI s1)], aC G ra 60 f, oC se 3 [.ref t, .int us, .int ro, .int pr], oC t 4 [.ref tk, .ref tm, .ref to_, .ref tv, .ref tp, .ref tl], aI G tk 40 kF, aI G tm 40 mF, aI G to_ 40 oF] H := hP
          have hD : va_D A [oC wk 6 [.ref t, .ref en, .ref vo, .ref se, .ref rs, .int wa, .int (nI hp), .long z, .int (zI (scan (isS f) (60 - s1) s1 = 60)), .int (zI (s1 < 60))], oC rs 2 [.ref ra, .int (nI s1)], aC G ra 60 f, oC se 3 [.ref t, .int us, .int ro, .int pr], oC t 4 [.ref tk, .ref tm, .ref to_, .ref tv, .ref tp, .ref tl], aI G tk 40 kF, aI G tm 40 mF, aI G to_ 40 oF] := hD
          refine lv_aload_n hF.1 hF.2.1 dX6_takeName_107 rfl (lv_at hl 2 rfl) ?_
          refine kGet (C := RX6) (T := TX6) (N := 10) (index := 18) hF hK hP (inT inBX6) 0 rfl rfl 0 (by decide) rfl (List.mem_cons_of_mem _ mF_X6_18) rfl dX6_takeName_108 ?_
          refine lv_aload_n hF.1 hF.2.1 dX6_takeName_111 rfl (lv_at hl 2 rfl) ?_
          refine kGet (C := RX6) (T := TX6) (N := 10) (index := 34) hF hK hP (inT inBX6) 0 rfl rfl 5 (by decide) rfl (List.mem_cons_of_mem _ mF_X6_34) rfl dX6_takeName_112 ?_
          refine kCallI (wr := [oC wk 6 [.ref t, .ref en, .ref vo, .ref se, .ref rs, .int wa, .int (nI hp), .long z, .int (zI (scan (isS f) (60 - s1) s1 = 60)), .int (zI (s1 < 60))], oC rs 2 [.ref ra, .int (nI s1)], aC G ra 60 f, oC se 3 [.ref t, .int us, .int ro, .int pr], aI G tm 40 mF, aI G to_ 40 oF]) (va_runV (As := [.int wa]) (rest := []) hF (c_X4_isDirectory l G H.size t tk tm to_ tv tp tl kF wa (by first | assumption | omega)) (cwVB 1 hF rfl mL_X6_106 mI_X4_isDirectory mS_X4_isDirectory mN_X4 mC_X4_isDirectory rfl hd_X4_isDirectory rfl rfl ⟨Nat.le_of_ble_eq_true rfl, Nat.le_of_ble_eq_true rfl⟩) (kPre hK hP hD [4, 5] (by decide) rfl (q0 := 4) (ci := 4) rfl rfl rfl) rfl rfl hl.1 rfl (lv_room (Nat.le_of_ble_eq_true rfl)) dX6_takeName_115 ⟨Nat.le_of_ble_eq_true rfl, Nat.le_of_ble_eq_true rfl⟩) hP hD hS hA [4, 5] [0, 1, 2, 3, 6, 7] rfl rfl (by decide) (by decide) (fun r u H locs hw_12 hP hD hS => ?_)
          have hw_12 := hw_12.symm
          subst hw_12
          have hP : PG G [oC wk 6 [.ref t, .ref en, .ref vo, .ref se, .ref rs, .int wa, .int (nI hp), .long z, .int (zI (scan (isS f) (60 - s1) s1 = 60)), .int (zI (s1 < 60))], oC rs 2 [.ref ra, .int (nI s1)], aC G ra 60 f, oC se 3 [.ref t, .int us, .int ro, .int pr], oC t 4 [.ref tk, .ref tm, .ref to_, .ref tv, .ref tp, .ref tl], aI G tk 40 kF, aI G tm 40 mF, aI G to_ 40 oF] H := va_P.sub hP [0, 1, 2, 3, 6, 7, 4, 5] rfl
          have hD : va_D A [oC wk 6 [.ref t, .ref en, .ref vo, .ref se, .ref rs, .int wa, .int (nI hp), .long z, .int (zI (scan (isS f) (60 - s1) s1 = 60)), .int (zI (s1 < 60))], oC rs 2 [.ref ra, .int (nI s1)], aC G ra 60 f, oC se 3 [.ref t, .int us, .int ro, .int pr], oC t 4 [.ref tk, .ref tm, .ref to_, .ref tv, .ref tp, .ref tl], aI G tk 40 kF, aI G tm 40 mF, aI G to_ 40 oF] := va_D.sub hD [0, 1, 2, 3, 6, 7, 4, 5] (by decide) rfl
          refine kIfNeZ (tgt := 124) hF dX6_takeName_118 (by decide) (fun c_13 => ?_) (fun c_13 => ?_)
          · refine lv_aload_n hF.1 hF.2.1 dX6_takeName_124 rfl (lv_at hl 2 rfl) ?_
            refine kGet (C := RX6) (T := TX6) (N := 10) (index := 30) hF hK hP (inT inBX6) 0 rfl rfl 3 (by decide) rfl (List.mem_cons_of_mem _ mF_X6_30) rfl dX6_takeName_125 ?_
            refine lv_iconst (v := (nI 1)) hF.1 hF.2.1 dX6_takeName_128 (by decide) ?_
            refine lv_aload_n hF.1 hF.2.1 dX6_takeName_129 rfl (lv_at hl 2 rfl) ?_
            refine kGet (C := RX6) (T := TX6) (N := 10) (index := 34) hF hK hP (inT inBX6) 0 rfl rfl 5 (by decide) rfl (List.mem_cons_of_mem _ mF_X6_34) rfl dX6_takeName_130 ?_
            refine kCallI (wr := [oC wk 6 [.ref t, .ref en, .ref vo, .ref se, .ref rs, .int wa, .int (nI hp), .long z, .int (zI (scan (isS f) (60 - s1) s1 = 60)), .int (zI (s1 < 60))], oC rs 2 [.ref ra, .int (nI s1)], aC G ra 60 f, aI G tk 40 kF]) (va_runV (As := [.int (nI 1), .int wa]) (rest := []) hF (c_X3_may l G H.size se t us ro pr tk tm to_ tv tp tl mF oF (nI 1) wa (by first | assumption | omega)) (cwVB 2 hF rfl mL_X6_112 mI_X3_may mS_X3_may mN_X3 mC_X3_may rfl hd_X3_may rfl rfl ⟨Nat.le_of_ble_eq_true rfl, Nat.le_of_ble_eq_true rfl⟩) (kPre hK hP hD [3, 4, 6, 7] (by decide) rfl (q0 := 3) (ci := 3) rfl rfl rfl) rfl rfl hl.1 rfl (lv_room (Nat.le_of_ble_eq_true rfl)) dX6_takeName_133 ⟨Nat.le_of_ble_eq_true rfl, Nat.le_of_ble_eq_true rfl⟩) hP hD hS hA [3, 4, 6, 7] [0, 1, 2, 5] rfl rfl (by decide) (by decide) (fun r u H locs hw_14 hP hD hS => ?_)
            have hw_14 := hw_14.symm
            subst hw_14
            have hP : PG G [oC wk 6 [.ref t, .ref en, .ref vo, .ref se, .ref rs, .int wa, .int (nI hp), .long z, .int (zI (scan (isS f) (60 - s1) s1 = 60)), .int (zI (s1 < 60))], oC rs 2 [.ref ra, .int (nI s1)], aC G ra 60 f, oC se 3 [.ref t, .int us, .int ro, .int pr], oC t 4 [.ref tk, .ref tm, .ref to_, .ref tv, .ref tp, .ref tl], aI G tk 40 kF, aI G tm 40 mF, aI G to_ 40 oF] H := va_P.sub hP [0, 1, 2, 4, 5, 3, 6, 7] rfl
            have hD : va_D A [oC wk 6 [.ref t, .ref en, .ref vo, .ref se, .ref rs, .int wa, .int (nI hp), .long z, .int (zI (scan (isS f) (60 - s1) s1 = 60)), .int (zI (s1 < 60))], oC rs 2 [.ref ra, .int (nI s1)], aC G ra 60 f, oC se 3 [.ref t, .int us, .int ro, .int pr], oC t 4 [.ref tk, .ref tm, .ref to_, .ref tv, .ref tp, .ref tl], aI G tk 40 kF, aI G tm 40 mF, aI G to_ 40 oF] := va_D.sub hD [0, 1, 2, 4, 5, 3, 6, 7] (by decide) rfl
            refine kIfNeZ (tgt := 142) hF dX6_takeName_136 (by decide) (fun c_15 => ?_) (fun c_15 => ?_)
            · refine lv_iload_n hF.1 hF.2.1 dX6_takeName_142 rfl (lv_at hl 0 rfl) ?_
              refine lv_bipush (v := (nI 6)) hF.1 hF.2.1 dX6_takeName_143 (by decide) ?_
              refine kLeN (tgt := 153) hF dX6_takeName_145 (by decide) (by omega) (by omega) (fun c_16 => ?_) (fun c_16 => ?_)
              · refine lv_iconst (v := (nI 0)) hF.1 hF.2.1 dX6_takeName_153 (by decide) ?_
                refine kRetI (v := (nI 0)) hF hr hlk hK hP hD hS hQ rfl (s1, z) [0, 1, 2, 3, 4, 5, 6, 7] (by decide) rfl (Nat.le_of_ble_eq_true rfl) (Nat.le_of_ble_eq_true rfl) dX6_takeName_154 ?_
                refine ⟨?_, hJ.symm, hZ, by omega, by omega⟩
                unfold tkR
                first | (exfalso; omega) | rw [if_neg (by assumption)] | (rw [if_pos (by assumption)]; first | rw [pI_f (by assumption)] | (rw [pI_t (by assumption)]; first | rw [if_pos (by omega)] | rw [if_neg (by omega)]))
              · refine lv_bipush (v := (-5)) hF.1 hF.2.1 dX6_takeName_148 (by decide) ?_
                refine lv_goto (tgt := 154) hF.1 hF.2.1 dX6_takeName_150 (by decide) ?_
                refine kRetI (v := (-5)) hF hr hlk hK hP hD hS hQ rfl (s1, z) [0, 1, 2, 3, 4, 5, 6, 7] (by decide) rfl (Nat.le_of_ble_eq_true rfl) (Nat.le_of_ble_eq_true rfl) dX6_takeName_154 ?_
                refine ⟨?_, hJ.symm, hZ, by omega, by omega⟩
                unfold tkR
                first | (exfalso; omega) | rw [if_neg (by assumption)] | (rw [if_pos (by assumption)]; first | rw [pI_f (by assumption)] | (rw [pI_t (by assumption)]; first | rw [if_pos (by omega)] | rw [if_neg (by omega)]))
            · refine lv_bipush (v := (-3)) hF.1 hF.2.1 dX6_takeName_139 (by decide) ?_
              refine kRetI (v := (-3)) hF hr hlk hK hP hD hS hQ rfl (s1, z) [0, 1, 2, 3, 4, 5, 6, 7] (by decide) rfl (Nat.le_of_ble_eq_true rfl) (Nat.le_of_ble_eq_true rfl) dX6_takeName_141 ?_
              refine ⟨?_, hJ.symm, hZ, by omega, by omega⟩
              unfold tkR
              first | (exfalso; omega) | rw [if_neg (by assumption)] | (rw [if_pos (by assumption)]; first | rw [pI_f (by assumption)] | (rw [pI_t (by assumption)]; first | rw [if_pos (by omega)] | rw [if_neg (by omega)]))
          · refine lv_bipush (v := (-2)) hF.1 hF.2.1 dX6_takeName_121 (by decide) ?_
            refine kRetI (v := (-2)) hF hr hlk hK hP hD hS hQ rfl (s1, z) [0, 1, 2, 3, 4, 5, 6, 7] (by decide) rfl (Nat.le_of_ble_eq_true rfl) (Nat.le_of_ble_eq_true rfl) dX6_takeName_123 ?_
            refine ⟨?_, hJ.symm, hZ, by omega, by omega⟩
            unfold tkR
            first | (exfalso; omega) | rw [if_neg (by assumption)] | (rw [if_pos (by assumption)]; first | rw [pI_f (by assumption)] | (rw [pI_t (by assumption)]; first | rw [if_pos (by omega)] | rw [if_neg (by omega)]))
      · refine lv_aload_n hF.1 hF.2.1 dX6_takeName_21 rfl (lv_at hl 2 rfl) ?_
        refine kGet (C := RX6) (T := TX6) (N := 10) (index := 12) hF hK hP (inT inBX6) 0 rfl rfl 4 (by decide) rfl (List.mem_cons_of_mem _ mF_X6_12) rfl dX6_takeName_22 ?_
        refine kCallI (wr := [oC wk 6 [.ref t, .ref en, .ref vo, .ref se, .ref rs, .int wa, .int (nI hp), .long z, .int (zI la), .int (zI sl)], oC se 3 [.ref t, .int us, .int ro, .int pr], oC t 4 [.ref tk, .ref tm, .ref to_, .ref tv, .ref tp, .ref tl], aI G tk 40 kF, aI G tm 40 mF, aI G to_ 40 oF]) (va_runV (As := []) (rest := []) hF (c_X2_isEmpty l G H.size rs ra s1 f (by first | assumption | omega)) (cwVB 0 hF rfl mL_X6_99 mI_X2_isEmpty mS_X2_isEmpty mN_X2 mC_X2_isEmpty rfl hd_X2_isEmpty rfl rfl ⟨Nat.le_of_ble_eq_true rfl, Nat.le_of_ble_eq_true rfl⟩) (kPre hK hP hD [1, 2] (by decide) rfl (q0 := 1) (ci := 2) rfl rfl rfl) rfl rfl hl.1 rfl (lv_room (Nat.le_of_ble_eq_true rfl)) dX6_takeName_25 ⟨Nat.le_of_ble_eq_true rfl, Nat.le_of_ble_eq_true rfl⟩) hP hD hS hA [1, 2] [0, 3, 4, 5, 6, 7] rfl rfl (by decide) (by decide) (fun r u H locs hw_17 hP hD hS => ?_)
        have hw_17 := hw_17.symm
        subst hw_17
        have hP : PG G [oC wk 6 [.ref t, .ref en, .ref vo, .ref se, .ref rs, .int wa, .int (nI hp), .long z, .int (zI la), .int (zI sl)], oC rs 2 [.ref ra, .int (nI s1)], aC G ra 60 f, oC se 3 [.ref t, .int us, .int ro, .int pr], oC t 4 [.ref tk, .ref tm, .ref to_, .ref tv, .ref tp, .ref tl], aI G tk 40 kF, aI G tm 40 mF, aI G to_ 40 oF] H := va_P.sub hP [0, 6, 7, 1, 2, 3, 4, 5] rfl
        have hD : va_D A [oC wk 6 [.ref t, .ref en, .ref vo, .ref se, .ref rs, .int wa, .int (nI hp), .long z, .int (zI la), .int (zI sl)], oC rs 2 [.ref ra, .int (nI s1)], aC G ra 60 f, oC se 3 [.ref t, .int us, .int ro, .int pr], oC t 4 [.ref tk, .ref tm, .ref to_, .ref tv, .ref tp, .ref tl], aI G tk 40 kF, aI G tm 40 mF, aI G to_ 40 oF] := va_D.sub hD [0, 6, 7, 1, 2, 3, 4, 5] (by decide) rfl
        refine kIfNeZ (tgt := 67) hF dX6_takeName_28 (by decide) (fun c_18 => ?_) (fun c_18 => ?_)
        · have hJ : scan (noS f) (60 - st) st = s1 := by rw [← hR]; exact scan_x (fun h9 => by first | (exfalso; omega) | (simp only [Bool.not_eq_false', decide_eq_true_eq]; exact (by assumption : s1 < 60 ∧ f s1 = nI 47).2))
          have hZ : z = nmC f (s1 - st) st (lN 0) := by have h := hN; rw [hJ, nmC_e (Nat.le_refl s1)] at h; exact h
          refine lv_iload_n hF.1 hF.2.1 dX6_takeName_67 rfl (lv_at hl 1 rfl) ?_
          refine lv_aload_n hF.1 hF.2.1 dX6_takeName_68 rfl (lv_at hl 2 rfl) ?_
          refine kGet (C := RX6) (T := TX6) (N := 10) (index := 12) hF hK hP (inT inBX6) 0 rfl rfl 4 (by decide) rfl (List.mem_cons_of_mem _ mF_X6_12) rfl dX6_takeName_69 ?_
          refine kCallI (wr := [oC wk 6 [.ref t, .ref en, .ref vo, .ref se, .ref rs, .int wa, .int (nI hp), .long z, .int (zI la), .int (zI sl)], oC se 3 [.ref t, .int us, .int ro, .int pr], oC t 4 [.ref tk, .ref tm, .ref to_, .ref tv, .ref tp, .ref tl], aI G tk 40 kF, aI G tm 40 mF, aI G to_ 40 oF]) (va_runV (As := []) (rest := [.int (nI (60 - st))]) hF (c_X2_size l G H.size rs ra s1 f (by first | assumption | omega)) (cwVB 0 hF rfl mL_X6_100 mI_X2_size mS_X2_size mN_X2 mC_X2_size rfl hd_X2_size rfl rfl ⟨Nat.le_of_ble_eq_true rfl, Nat.le_of_ble_eq_true rfl⟩) (kPre hK hP hD [1, 2] (by decide) rfl (q0 := 1) (ci := 2) rfl rfl rfl) rfl rfl hl.1 rfl (lv_room (Nat.le_of_ble_eq_true rfl)) dX6_takeName_72 ⟨Nat.le_of_ble_eq_true rfl, Nat.le_of_ble_eq_true rfl⟩) hP hD hS hA [1, 2] [0, 3, 4, 5, 6, 7] rfl rfl (by decide) (by decide) (fun r u H locs hw_19 hP hD hS => ?_)
          have hw_19 := hw_19.symm
          subst hw_19
          have hP : PG G [oC wk 6 [.ref t, .ref en, .ref vo, .ref se, .ref rs, .int wa, .int (nI hp), .long z, .int (zI la), .int (zI sl)], oC rs 2 [.ref ra, .int (nI s1)], aC G ra 60 f, oC se 3 [.ref t, .int us, .int ro, .int pr], oC t 4 [.ref tk, .ref tm, .ref to_, .ref tv, .ref tp, .ref tl], aI G tk 40 kF, aI G tm 40 mF, aI G to_ 40 oF] H := va_P.sub hP [0, 6, 7, 1, 2, 3, 4, 5] rfl
          have hD : va_D A [oC wk 6 [.ref t, .ref en, .ref vo, .ref se, .ref rs, .int wa, .int (nI hp), .long z, .int (zI la), .int (zI sl)], oC rs 2 [.ref ra, .int (nI s1)], aC G ra 60 f, oC se 3 [.ref t, .int us, .int ro, .int pr], oC t 4 [.ref tk, .ref tm, .ref to_, .ref tv, .ref tp, .ref tl], aI G tk 40 kF, aI G tm 40 mF, aI G to_ 40 oF] := va_D.sub hD [0, 6, 7, 1, 2, 3, 4, 5] (by decide) rfl
          refine lv_isub hF.1 hF.2.1 dX6_takeName_75 ?_
          refine kTop (y := (nI ((60 - st) - (60 - s1)))) (pk_sub (by omega)) ?_
          refine lv_istore_n (lv' := [(2, .int (nI ((60 - st) - (60 - s1)))), (1, .int (nI (60 - st))), (0, .ref wk)]) hF.1 hF.2.1 dX6_takeName_76 rfl hl (by decide) rfl (fun ls hl => ?_)
          refine lv_aload_n hF.1 hF.2.1 dX6_takeName_77 rfl (lv_at hl 2 rfl) ?_
          refine lv_aload_n hF.1 hF.2.1 dX6_takeName_78 rfl (lv_at hl 2 rfl) ?_
          refine kGet (C := RX6) (T := TX6) (N := 10) (index := 12) hF hK hP (inT inBX6) 0 rfl rfl 4 (by decide) rfl (List.mem_cons_of_mem _ mF_X6_12) rfl dX6_takeName_79 ?_
          refine kCallI (wr := [oC wk 6 [.ref t, .ref en, .ref vo, .ref se, .ref rs, .int wa, .int (nI hp), .long z, .int (zI la), .int (zI sl)], oC se 3 [.ref t, .int us, .int ro, .int pr], oC t 4 [.ref tk, .ref tm, .ref to_, .ref tv, .ref tp, .ref tl], aI G tk 40 kF, aI G tm 40 mF, aI G to_ 40 oF]) (va_runV (As := []) (rest := [.ref wk]) hF (c_X2_hasSlashesAlone l G H.size rs ra s1 f (by first | assumption | omega)) (cwVB 0 hF rfl mL_X6_103 mI_X2_hasSlashesAlone mS_X2_hasSlashesAlone mN_X2 mC_X2_hasSlashesAlone rfl hd_X2_hasSlashesAlone rfl rfl ⟨Nat.le_of_ble_eq_true rfl, Nat.le_of_ble_eq_true rfl⟩) (kPre hK hP hD [1, 2] (by decide) rfl (q0 := 1) (ci := 2) rfl rfl rfl) rfl rfl hl.1 rfl (lv_room (Nat.le_of_ble_eq_true rfl)) dX6_takeName_82 ⟨Nat.le_of_ble_eq_true rfl, Nat.le_of_ble_eq_true rfl⟩) hP hD hS hA [1, 2] [0, 3, 4, 5, 6, 7] rfl rfl (by decide) (by decide) (fun r u H locs hw_20 hP hD hS => ?_)
          have hw_20 := hw_20.symm
          subst hw_20
          have hP : PG G [oC wk 6 [.ref t, .ref en, .ref vo, .ref se, .ref rs, .int wa, .int (nI hp), .long z, .int (zI la), .int (zI sl)], oC rs 2 [.ref ra, .int (nI s1)], aC G ra 60 f, oC se 3 [.ref t, .int us, .int ro, .int pr], oC t 4 [.ref tk, .ref tm, .ref to_, .ref tv, .ref tp, .ref tl], aI G tk 40 kF, aI G tm 40 mF, aI G to_ 40 oF] H := va_P.sub hP [0, 6, 7, 1, 2, 3, 4, 5] rfl
          have hD : va_D A [oC wk 6 [.ref t, .ref en, .ref vo, .ref se, .ref rs, .int wa, .int (nI hp), .long z, .int (zI la), .int (zI sl)], oC rs 2 [.ref ra, .int (nI s1)], aC G ra 60 f, oC se 3 [.ref t, .int us, .int ro, .int pr], oC t 4 [.ref tk, .ref tm, .ref to_, .ref tv, .ref tp, .ref tl], aI G tk 40 kF, aI G tm 40 mF, aI G to_ 40 oF] := va_D.sub hD [0, 6, 7, 1, 2, 3, 4, 5] (by decide) rfl
          refine kPut (C := RX6) (T := TX6) (N := 10) (index := 71) (v := .int (zI (scan (isS f) (60 - s1) s1 = 60))) hF hK hP hD hS (inT inBX6) tyX6_ok nmX6 0 rfl rfl 8 (by decide) rfl (List.mem_cons_of_mem _ mF_X6_71) rfl (zI_nar _) (zI_fit _) (Nat.le_of_ble_eq_true rfl) dX6_takeName_85 (fun H locs hP hD hS => ?_)
          have hP : PG G [oC wk 6 [.ref t, .ref en, .ref vo, .ref se, .ref rs, .int wa, .int (nI hp), .long z, .int (zI (scan (isS f) (60 - s1) s1 = 60)), .int (zI sl)], oC rs 2 [.ref ra, .int (nI s1)], aC G ra 60 f, oC se 3 [.ref t, .int us, .int ro, .int pr], oC t 4 [.ref tk, .ref tm, .ref to_, .ref tv, .ref tp, .ref tl], aI G tk 40 kF, aI G tm 40 mF, aI G to_ 40 oF] H := hP
          have hD : va_D A [oC wk 6 [.ref t, .ref en, .ref vo, .ref se, .ref rs, .int wa, .int (nI hp), .long z, .int (zI (scan (isS f) (60 - s1) s1 = 60)), .int (zI sl)], oC rs 2 [.ref ra, .int (nI s1)], aC G ra 60 f, oC se 3 [.ref t, .int us, .int ro, .int pr], oC t 4 [.ref tk, .ref tm, .ref to_, .ref tv, .ref tp, .ref tl], aI G tk 40 kF, aI G tm 40 mF, aI G to_ 40 oF] := hD
          refine lv_aload_n hF.1 hF.2.1 dX6_takeName_88 rfl (lv_at hl 2 rfl) ?_
          refine lv_aload_n hF.1 hF.2.1 dX6_takeName_89 rfl (lv_at hl 2 rfl) ?_
          refine kGet (C := RX6) (T := TX6) (N := 10) (index := 12) hF hK hP (inT inBX6) 0 rfl rfl 4 (by decide) rfl (List.mem_cons_of_mem _ mF_X6_12) rfl dX6_takeName_90 ?_
          refine kCallI (wr := [oC wk 6 [.ref t, .ref en, .ref vo, .ref se, .ref rs, .int wa, .int (nI hp), .long z, .int (zI (scan (isS f) (60 - s1) s1 = 60)), .int (zI sl)], oC se 3 [.ref t, .int us, .int ro, .int pr], oC t 4 [.ref tk, .ref tm, .ref to_, .ref tv, .ref tp, .ref tl], aI G tk 40 kF, aI G tm 40 mF, aI G to_ 40 oF]) (va_runV (As := []) (rest := [.ref wk]) hF (c_X2_isEmpty l G H.size rs ra s1 f (by first | assumption | omega)) (cwVB 0 hF rfl mL_X6_99 mI_X2_isEmpty mS_X2_isEmpty mN_X2 mC_X2_isEmpty rfl hd_X2_isEmpty rfl rfl ⟨Nat.le_of_ble_eq_true rfl, Nat.le_of_ble_eq_true rfl⟩) (kPre hK hP hD [1, 2] (by decide) rfl (q0 := 1) (ci := 2) rfl rfl rfl) rfl rfl hl.1 rfl (lv_room (Nat.le_of_ble_eq_true rfl)) dX6_takeName_93 ⟨Nat.le_of_ble_eq_true rfl, Nat.le_of_ble_eq_true rfl⟩) hP hD hS hA [1, 2] [0, 3, 4, 5, 6, 7] rfl rfl (by decide) (by decide) (fun r u H locs hw_21 hP hD hS => ?_)
          have hw_21 := hw_21.symm
          subst hw_21
          have hP : PG G [oC wk 6 [.ref t, .ref en, .ref vo, .ref se, .ref rs, .int wa, .int (nI hp), .long z, .int (zI (scan (isS f) (60 - s1) s1 = 60)), .int (zI sl)], oC rs 2 [.ref ra, .int (nI s1)], aC G ra 60 f, oC se 3 [.ref t, .int us, .int ro, .int pr], oC t 4 [.ref tk, .ref tm, .ref to_, .ref tv, .ref tp, .ref tl], aI G tk 40 kF, aI G tm 40 mF, aI G to_ 40 oF] H := va_P.sub hP [0, 6, 7, 1, 2, 3, 4, 5] rfl
          have hD : va_D A [oC wk 6 [.ref t, .ref en, .ref vo, .ref se, .ref rs, .int wa, .int (nI hp), .long z, .int (zI (scan (isS f) (60 - s1) s1 = 60)), .int (zI sl)], oC rs 2 [.ref ra, .int (nI s1)], aC G ra 60 f, oC se 3 [.ref t, .int us, .int ro, .int pr], oC t 4 [.ref tk, .ref tm, .ref to_, .ref tv, .ref tp, .ref tl], aI G tk 40 kF, aI G tm 40 mF, aI G to_ 40 oF] := va_D.sub hD [0, 6, 7, 1, 2, 3, 4, 5] (by decide) rfl
          refine kIfNeZ (tgt := 103) hF dX6_takeName_96 (by decide) (fun c_22 => ?_) (fun c_22 => ?_)
          · refine lv_iconst (v := (nI 0)) hF.1 hF.2.1 dX6_takeName_103 (by decide) ?_
            refine kTop (y := zI (s1 < 60)) (first_z (by first | exact Or.inl ⟨rfl, by omega⟩ | exact Or.inr ⟨rfl, by omega⟩)) ?_
            refine kPut (C := RX6) (T := TX6) (N := 10) (index := 42) (v := .int (zI (s1 < 60))) hF hK hP hD hS (inT inBX6) tyX6_ok nmX6 0 rfl rfl 9 (by decide) rfl (List.mem_cons_of_mem _ mF_X6_42) rfl (zI_nar _) (zI_fit _) (Nat.le_of_ble_eq_true rfl) dX6_takeName_104 (fun H locs hP hD hS => ?_)
            have hP : PG G [oC wk 6 [.ref t, .ref en, .ref vo, .ref se, .ref rs, .int wa, .int (nI hp), .long z, .int (zI (scan (isS f) (60 - s1) s1 = 60)), .int (zI (s1 < 60))], oC rs 2 [.ref ra, .int (nI s1)], aC G ra 60 f, oC se 3 [.ref t, .int us, .int ro, .int pr], oC t 4 [.ref tk, .ref tm, .ref to_, .ref tv, .ref tp, .ref tl], aI G tk 40 kF, aI G tm 40 mF, aI G to_ 40 oF] H := hP
            have hD : va_D A [oC wk 6 [.ref t, .ref en, .ref vo, .ref se, .ref rs, .int wa, .int (nI hp), .long z, .int (zI (scan (isS f) (60 - s1) s1 = 60)), .int (zI (s1 < 60))], oC rs 2 [.ref ra, .int (nI s1)], aC G ra 60 f, oC se 3 [.ref t, .int us, .int ro, .int pr], oC t 4 [.ref tk, .ref tm, .ref to_, .ref tv, .ref tp, .ref tl], aI G tk 40 kF, aI G tm 40 mF, aI G to_ 40 oF] := hD
            refine lv_aload_n hF.1 hF.2.1 dX6_takeName_107 rfl (lv_at hl 2 rfl) ?_
            refine kGet (C := RX6) (T := TX6) (N := 10) (index := 18) hF hK hP (inT inBX6) 0 rfl rfl 0 (by decide) rfl (List.mem_cons_of_mem _ mF_X6_18) rfl dX6_takeName_108 ?_
            refine lv_aload_n hF.1 hF.2.1 dX6_takeName_111 rfl (lv_at hl 2 rfl) ?_
            refine kGet (C := RX6) (T := TX6) (N := 10) (index := 34) hF hK hP (inT inBX6) 0 rfl rfl 5 (by decide) rfl (List.mem_cons_of_mem _ mF_X6_34) rfl dX6_takeName_112 ?_
            refine kCallI (wr := [oC wk 6 [.ref t, .ref en, .ref vo, .ref se, .ref rs, .int wa, .int (nI hp), .long z, .int (zI (scan (isS f) (60 - s1) s1 = 60)), .int (zI (s1 < 60))], oC rs 2 [.ref ra, .int (nI s1)], aC G ra 60 f, oC se 3 [.ref t, .int us, .int ro, .int pr], aI G tm 40 mF, aI G to_ 40 oF]) (va_runV (As := [.int wa]) (rest := []) hF (c_X4_isDirectory l G H.size t tk tm to_ tv tp tl kF wa (by first | assumption | omega)) (cwVB 1 hF rfl mL_X6_106 mI_X4_isDirectory mS_X4_isDirectory mN_X4 mC_X4_isDirectory rfl hd_X4_isDirectory rfl rfl ⟨Nat.le_of_ble_eq_true rfl, Nat.le_of_ble_eq_true rfl⟩) (kPre hK hP hD [4, 5] (by decide) rfl (q0 := 4) (ci := 4) rfl rfl rfl) rfl rfl hl.1 rfl (lv_room (Nat.le_of_ble_eq_true rfl)) dX6_takeName_115 ⟨Nat.le_of_ble_eq_true rfl, Nat.le_of_ble_eq_true rfl⟩) hP hD hS hA [4, 5] [0, 1, 2, 3, 6, 7] rfl rfl (by decide) (by decide) (fun r u H locs hw_23 hP hD hS => ?_)
            have hw_23 := hw_23.symm
            subst hw_23
            have hP : PG G [oC wk 6 [.ref t, .ref en, .ref vo, .ref se, .ref rs, .int wa, .int (nI hp), .long z, .int (zI (scan (isS f) (60 - s1) s1 = 60)), .int (zI (s1 < 60))], oC rs 2 [.ref ra, .int (nI s1)], aC G ra 60 f, oC se 3 [.ref t, .int us, .int ro, .int pr], oC t 4 [.ref tk, .ref tm, .ref to_, .ref tv, .ref tp, .ref tl], aI G tk 40 kF, aI G tm 40 mF, aI G to_ 40 oF] H := va_P.sub hP [0, 1, 2, 3, 6, 7, 4, 5] rfl
            have hD : va_D A [oC wk 6 [.ref t, .ref en, .ref vo, .ref se, .ref rs, .int wa, .int (nI hp), .long z, .int (zI (scan (isS f) (60 - s1) s1 = 60)), .int (zI (s1 < 60))], oC rs 2 [.ref ra, .int (nI s1)], aC G ra 60 f, oC se 3 [.ref t, .int us, .int ro, .int pr], oC t 4 [.ref tk, .ref tm, .ref to_, .ref tv, .ref tp, .ref tl], aI G tk 40 kF, aI G tm 40 mF, aI G to_ 40 oF] := va_D.sub hD [0, 1, 2, 3, 6, 7, 4, 5] (by decide) rfl
            refine kIfNeZ (tgt := 124) hF dX6_takeName_118 (by decide) (fun c_24 => ?_) (fun c_24 => ?_)
            · refine lv_aload_n hF.1 hF.2.1 dX6_takeName_124 rfl (lv_at hl 2 rfl) ?_
              refine kGet (C := RX6) (T := TX6) (N := 10) (index := 30) hF hK hP (inT inBX6) 0 rfl rfl 3 (by decide) rfl (List.mem_cons_of_mem _ mF_X6_30) rfl dX6_takeName_125 ?_
              refine lv_iconst (v := (nI 1)) hF.1 hF.2.1 dX6_takeName_128 (by decide) ?_
              refine lv_aload_n hF.1 hF.2.1 dX6_takeName_129 rfl (lv_at hl 2 rfl) ?_
              refine kGet (C := RX6) (T := TX6) (N := 10) (index := 34) hF hK hP (inT inBX6) 0 rfl rfl 5 (by decide) rfl (List.mem_cons_of_mem _ mF_X6_34) rfl dX6_takeName_130 ?_
              refine kCallI (wr := [oC wk 6 [.ref t, .ref en, .ref vo, .ref se, .ref rs, .int wa, .int (nI hp), .long z, .int (zI (scan (isS f) (60 - s1) s1 = 60)), .int (zI (s1 < 60))], oC rs 2 [.ref ra, .int (nI s1)], aC G ra 60 f, aI G tk 40 kF]) (va_runV (As := [.int (nI 1), .int wa]) (rest := []) hF (c_X3_may l G H.size se t us ro pr tk tm to_ tv tp tl mF oF (nI 1) wa (by first | assumption | omega)) (cwVB 2 hF rfl mL_X6_112 mI_X3_may mS_X3_may mN_X3 mC_X3_may rfl hd_X3_may rfl rfl ⟨Nat.le_of_ble_eq_true rfl, Nat.le_of_ble_eq_true rfl⟩) (kPre hK hP hD [3, 4, 6, 7] (by decide) rfl (q0 := 3) (ci := 3) rfl rfl rfl) rfl rfl hl.1 rfl (lv_room (Nat.le_of_ble_eq_true rfl)) dX6_takeName_133 ⟨Nat.le_of_ble_eq_true rfl, Nat.le_of_ble_eq_true rfl⟩) hP hD hS hA [3, 4, 6, 7] [0, 1, 2, 5] rfl rfl (by decide) (by decide) (fun r u H locs hw_25 hP hD hS => ?_)
              have hw_25 := hw_25.symm
              subst hw_25
              have hP : PG G [oC wk 6 [.ref t, .ref en, .ref vo, .ref se, .ref rs, .int wa, .int (nI hp), .long z, .int (zI (scan (isS f) (60 - s1) s1 = 60)), .int (zI (s1 < 60))], oC rs 2 [.ref ra, .int (nI s1)], aC G ra 60 f, oC se 3 [.ref t, .int us, .int ro, .int pr], oC t 4 [.ref tk, .ref tm, .ref to_, .ref tv, .ref tp, .ref tl], aI G tk 40 kF, aI G tm 40 mF, aI G to_ 40 oF] H := va_P.sub hP [0, 1, 2, 4, 5, 3, 6, 7] rfl
              have hD : va_D A [oC wk 6 [.ref t, .ref en, .ref vo, .ref se, .ref rs, .int wa, .int (nI hp), .long z, .int (zI (scan (isS f) (60 - s1) s1 = 60)), .int (zI (s1 < 60))], oC rs 2 [.ref ra, .int (nI s1)], aC G ra 60 f, oC se 3 [.ref t, .int us, .int ro, .int pr], oC t 4 [.ref tk, .ref tm, .ref to_, .ref tv, .ref tp, .ref tl], aI G tk 40 kF, aI G tm 40 mF, aI G to_ 40 oF] := va_D.sub hD [0, 1, 2, 4, 5, 3, 6, 7] (by decide) rfl
              refine kIfNeZ (tgt := 142) hF dX6_takeName_136 (by decide) (fun c_26 => ?_) (fun c_26 => ?_)
              · refine lv_iload_n hF.1 hF.2.1 dX6_takeName_142 rfl (lv_at hl 0 rfl) ?_
                refine lv_bipush (v := (nI 6)) hF.1 hF.2.1 dX6_takeName_143 (by decide) ?_
                refine kLeN (tgt := 153) hF dX6_takeName_145 (by decide) (by omega) (by omega) (fun c_27 => ?_) (fun c_27 => ?_)
                · refine lv_iconst (v := (nI 0)) hF.1 hF.2.1 dX6_takeName_153 (by decide) ?_
                  refine kRetI (v := (nI 0)) hF hr hlk hK hP hD hS hQ rfl (s1, z) [0, 1, 2, 3, 4, 5, 6, 7] (by decide) rfl (Nat.le_of_ble_eq_true rfl) (Nat.le_of_ble_eq_true rfl) dX6_takeName_154 ?_
                  refine ⟨?_, hJ.symm, hZ, by omega, by omega⟩
                  unfold tkR
                  first | (exfalso; omega) | rw [if_neg (by assumption)] | (rw [if_pos (by assumption)]; first | rw [pI_f (by assumption)] | (rw [pI_t (by assumption)]; first | rw [if_pos (by omega)] | rw [if_neg (by omega)]))
                · refine lv_bipush (v := (-5)) hF.1 hF.2.1 dX6_takeName_148 (by decide) ?_
                  refine lv_goto (tgt := 154) hF.1 hF.2.1 dX6_takeName_150 (by decide) ?_
                  refine kRetI (v := (-5)) hF hr hlk hK hP hD hS hQ rfl (s1, z) [0, 1, 2, 3, 4, 5, 6, 7] (by decide) rfl (Nat.le_of_ble_eq_true rfl) (Nat.le_of_ble_eq_true rfl) dX6_takeName_154 ?_
                  refine ⟨?_, hJ.symm, hZ, by omega, by omega⟩
                  unfold tkR
                  first | (exfalso; omega) | rw [if_neg (by assumption)] | (rw [if_pos (by assumption)]; first | rw [pI_f (by assumption)] | (rw [pI_t (by assumption)]; first | rw [if_pos (by omega)] | rw [if_neg (by omega)]))
              · refine lv_bipush (v := (-3)) hF.1 hF.2.1 dX6_takeName_139 (by decide) ?_
                refine kRetI (v := (-3)) hF hr hlk hK hP hD hS hQ rfl (s1, z) [0, 1, 2, 3, 4, 5, 6, 7] (by decide) rfl (Nat.le_of_ble_eq_true rfl) (Nat.le_of_ble_eq_true rfl) dX6_takeName_141 ?_
                refine ⟨?_, hJ.symm, hZ, by omega, by omega⟩
                unfold tkR
                first | (exfalso; omega) | rw [if_neg (by assumption)] | (rw [if_pos (by assumption)]; first | rw [pI_f (by assumption)] | (rw [pI_t (by assumption)]; first | rw [if_pos (by omega)] | rw [if_neg (by omega)]))
            · refine lv_bipush (v := (-2)) hF.1 hF.2.1 dX6_takeName_121 (by decide) ?_
              refine kRetI (v := (-2)) hF hr hlk hK hP hD hS hQ rfl (s1, z) [0, 1, 2, 3, 4, 5, 6, 7] (by decide) rfl (Nat.le_of_ble_eq_true rfl) (Nat.le_of_ble_eq_true rfl) dX6_takeName_123 ?_
              refine ⟨?_, hJ.symm, hZ, by omega, by omega⟩
              unfold tkR
              first | (exfalso; omega) | rw [if_neg (by assumption)] | (rw [if_pos (by assumption)]; first | rw [pI_f (by assumption)] | (rw [pI_t (by assumption)]; first | rw [if_pos (by omega)] | rw [if_neg (by omega)]))
          · refine lv_iconst (v := (nI 1)) hF.1 hF.2.1 dX6_takeName_99 (by decide) ?_
            refine lv_goto (tgt := 104) hF.1 hF.2.1 dX6_takeName_100 (by decide) ?_
            refine kTop (y := zI (s1 < 60)) (first_z (by first | exact Or.inl ⟨rfl, by omega⟩ | exact Or.inr ⟨rfl, by omega⟩)) ?_
            refine kPut (C := RX6) (T := TX6) (N := 10) (index := 42) (v := .int (zI (s1 < 60))) hF hK hP hD hS (inT inBX6) tyX6_ok nmX6 0 rfl rfl 9 (by decide) rfl (List.mem_cons_of_mem _ mF_X6_42) rfl (zI_nar _) (zI_fit _) (Nat.le_of_ble_eq_true rfl) dX6_takeName_104 (fun H locs hP hD hS => ?_)
            have hP : PG G [oC wk 6 [.ref t, .ref en, .ref vo, .ref se, .ref rs, .int wa, .int (nI hp), .long z, .int (zI (scan (isS f) (60 - s1) s1 = 60)), .int (zI (s1 < 60))], oC rs 2 [.ref ra, .int (nI s1)], aC G ra 60 f, oC se 3 [.ref t, .int us, .int ro, .int pr], oC t 4 [.ref tk, .ref tm, .ref to_, .ref tv, .ref tp, .ref tl], aI G tk 40 kF, aI G tm 40 mF, aI G to_ 40 oF] H := hP
            have hD : va_D A [oC wk 6 [.ref t, .ref en, .ref vo, .ref se, .ref rs, .int wa, .int (nI hp), .long z, .int (zI (scan (isS f) (60 - s1) s1 = 60)), .int (zI (s1 < 60))], oC rs 2 [.ref ra, .int (nI s1)], aC G ra 60 f, oC se 3 [.ref t, .int us, .int ro, .int pr], oC t 4 [.ref tk, .ref tm, .ref to_, .ref tv, .ref tp, .ref tl], aI G tk 40 kF, aI G tm 40 mF, aI G to_ 40 oF] := hD
            refine lv_aload_n hF.1 hF.2.1 dX6_takeName_107 rfl (lv_at hl 2 rfl) ?_
            refine kGet (C := RX6) (T := TX6) (N := 10) (index := 18) hF hK hP (inT inBX6) 0 rfl rfl 0 (by decide) rfl (List.mem_cons_of_mem _ mF_X6_18) rfl dX6_takeName_108 ?_
            refine lv_aload_n hF.1 hF.2.1 dX6_takeName_111 rfl (lv_at hl 2 rfl) ?_
            refine kGet (C := RX6) (T := TX6) (N := 10) (index := 34) hF hK hP (inT inBX6) 0 rfl rfl 5 (by decide) rfl (List.mem_cons_of_mem _ mF_X6_34) rfl dX6_takeName_112 ?_
            refine kCallI (wr := [oC wk 6 [.ref t, .ref en, .ref vo, .ref se, .ref rs, .int wa, .int (nI hp), .long z, .int (zI (scan (isS f) (60 - s1) s1 = 60)), .int (zI (s1 < 60))], oC rs 2 [.ref ra, .int (nI s1)], aC G ra 60 f, oC se 3 [.ref t, .int us, .int ro, .int pr], aI G tm 40 mF, aI G to_ 40 oF]) (va_runV (As := [.int wa]) (rest := []) hF (c_X4_isDirectory l G H.size t tk tm to_ tv tp tl kF wa (by first | assumption | omega)) (cwVB 1 hF rfl mL_X6_106 mI_X4_isDirectory mS_X4_isDirectory mN_X4 mC_X4_isDirectory rfl hd_X4_isDirectory rfl rfl ⟨Nat.le_of_ble_eq_true rfl, Nat.le_of_ble_eq_true rfl⟩) (kPre hK hP hD [4, 5] (by decide) rfl (q0 := 4) (ci := 4) rfl rfl rfl) rfl rfl hl.1 rfl (lv_room (Nat.le_of_ble_eq_true rfl)) dX6_takeName_115 ⟨Nat.le_of_ble_eq_true rfl, Nat.le_of_ble_eq_true rfl⟩) hP hD hS hA [4, 5] [0, 1, 2, 3, 6, 7] rfl rfl (by decide) (by decide) (fun r u H locs hw_28 hP hD hS => ?_)
            have hw_28 := hw_28.symm
            subst hw_28
            have hP : PG G [oC wk 6 [.ref t, .ref en, .ref vo, .ref se, .ref rs, .int wa, .int (nI hp), .long z, .int (zI (scan (isS f) (60 - s1) s1 = 60)), .int (zI (s1 < 60))], oC rs 2 [.ref ra, .int (nI s1)], aC G ra 60 f, oC se 3 [.ref t, .int us, .int ro, .int pr], oC t 4 [.ref tk, .ref tm, .ref to_, .ref tv, .ref tp, .ref tl], aI G tk 40 kF, aI G tm 40 mF, aI G to_ 40 oF] H := va_P.sub hP [0, 1, 2, 3, 6, 7, 4, 5] rfl
            have hD : va_D A [oC wk 6 [.ref t, .ref en, .ref vo, .ref se, .ref rs, .int wa, .int (nI hp), .long z, .int (zI (scan (isS f) (60 - s1) s1 = 60)), .int (zI (s1 < 60))], oC rs 2 [.ref ra, .int (nI s1)], aC G ra 60 f, oC se 3 [.ref t, .int us, .int ro, .int pr], oC t 4 [.ref tk, .ref tm, .ref to_, .ref tv, .ref tp, .ref tl], aI G tk 40 kF, aI G tm 40 mF, aI G to_ 40 oF] := va_D.sub hD [0, 1, 2, 3, 6, 7, 4, 5] (by decide) rfl
            refine kIfNeZ (tgt := 124) hF dX6_takeName_118 (by decide) (fun c_29 => ?_) (fun c_29 => ?_)
            · refine lv_aload_n hF.1 hF.2.1 dX6_takeName_124 rfl (lv_at hl 2 rfl) ?_
              refine kGet (C := RX6) (T := TX6) (N := 10) (index := 30) hF hK hP (inT inBX6) 0 rfl rfl 3 (by decide) rfl (List.mem_cons_of_mem _ mF_X6_30) rfl dX6_takeName_125 ?_
              refine lv_iconst (v := (nI 1)) hF.1 hF.2.1 dX6_takeName_128 (by decide) ?_
              refine lv_aload_n hF.1 hF.2.1 dX6_takeName_129 rfl (lv_at hl 2 rfl) ?_
              refine kGet (C := RX6) (T := TX6) (N := 10) (index := 34) hF hK hP (inT inBX6) 0 rfl rfl 5 (by decide) rfl (List.mem_cons_of_mem _ mF_X6_34) rfl dX6_takeName_130 ?_
              refine kCallI (wr := [oC wk 6 [.ref t, .ref en, .ref vo, .ref se, .ref rs, .int wa, .int (nI hp), .long z, .int (zI (scan (isS f) (60 - s1) s1 = 60)), .int (zI (s1 < 60))], oC rs 2 [.ref ra, .int (nI s1)], aC G ra 60 f, aI G tk 40 kF]) (va_runV (As := [.int (nI 1), .int wa]) (rest := []) hF (c_X3_may l G H.size se t us ro pr tk tm to_ tv tp tl mF oF (nI 1) wa (by first | assumption | omega)) (cwVB 2 hF rfl mL_X6_112 mI_X3_may mS_X3_may mN_X3 mC_X3_may rfl hd_X3_may rfl rfl ⟨Nat.le_of_ble_eq_true rfl, Nat.le_of_ble_eq_true rfl⟩) (kPre hK hP hD [3, 4, 6, 7] (by decide) rfl (q0 := 3) (ci := 3) rfl rfl rfl) rfl rfl hl.1 rfl (lv_room (Nat.le_of_ble_eq_true rfl)) dX6_takeName_133 ⟨Nat.le_of_ble_eq_true rfl, Nat.le_of_ble_eq_true rfl⟩) hP hD hS hA [3, 4, 6, 7] [0, 1, 2, 5] rfl rfl (by decide) (by decide) (fun r u H locs hw_30 hP hD hS => ?_)
              have hw_30 := hw_30.symm
              subst hw_30
              have hP : PG G [oC wk 6 [.ref t, .ref en, .ref vo, .ref se, .ref rs, .int wa, .int (nI hp), .long z, .int (zI (scan (isS f) (60 - s1) s1 = 60)), .int (zI (s1 < 60))], oC rs 2 [.ref ra, .int (nI s1)], aC G ra 60 f, oC se 3 [.ref t, .int us, .int ro, .int pr], oC t 4 [.ref tk, .ref tm, .ref to_, .ref tv, .ref tp, .ref tl], aI G tk 40 kF, aI G tm 40 mF, aI G to_ 40 oF] H := va_P.sub hP [0, 1, 2, 4, 5, 3, 6, 7] rfl
              have hD : va_D A [oC wk 6 [.ref t, .ref en, .ref vo, .ref se, .ref rs, .int wa, .int (nI hp), .long z, .int (zI (scan (isS f) (60 - s1) s1 = 60)), .int (zI (s1 < 60))], oC rs 2 [.ref ra, .int (nI s1)], aC G ra 60 f, oC se 3 [.ref t, .int us, .int ro, .int pr], oC t 4 [.ref tk, .ref tm, .ref to_, .ref tv, .ref tp, .ref tl], aI G tk 40 kF, aI G tm 40 mF, aI G to_ 40 oF] := va_D.sub hD [0, 1, 2, 4, 5, 3, 6, 7] (by decide) rfl
              refine kIfNeZ (tgt := 142) hF dX6_takeName_136 (by decide) (fun c_31 => ?_) (fun c_31 => ?_)
              · refine lv_iload_n hF.1 hF.2.1 dX6_takeName_142 rfl (lv_at hl 0 rfl) ?_
                refine lv_bipush (v := (nI 6)) hF.1 hF.2.1 dX6_takeName_143 (by decide) ?_
                refine kLeN (tgt := 153) hF dX6_takeName_145 (by decide) (by omega) (by omega) (fun c_32 => ?_) (fun c_32 => ?_)
                · refine lv_iconst (v := (nI 0)) hF.1 hF.2.1 dX6_takeName_153 (by decide) ?_
                  refine kRetI (v := (nI 0)) hF hr hlk hK hP hD hS hQ rfl (s1, z) [0, 1, 2, 3, 4, 5, 6, 7] (by decide) rfl (Nat.le_of_ble_eq_true rfl) (Nat.le_of_ble_eq_true rfl) dX6_takeName_154 ?_
                  refine ⟨?_, hJ.symm, hZ, by omega, by omega⟩
                  unfold tkR
                  first | (exfalso; omega) | rw [if_neg (by assumption)] | (rw [if_pos (by assumption)]; first | rw [pI_f (by assumption)] | (rw [pI_t (by assumption)]; first | rw [if_pos (by omega)] | rw [if_neg (by omega)]))
                · refine lv_bipush (v := (-5)) hF.1 hF.2.1 dX6_takeName_148 (by decide) ?_
                  refine lv_goto (tgt := 154) hF.1 hF.2.1 dX6_takeName_150 (by decide) ?_
                  refine kRetI (v := (-5)) hF hr hlk hK hP hD hS hQ rfl (s1, z) [0, 1, 2, 3, 4, 5, 6, 7] (by decide) rfl (Nat.le_of_ble_eq_true rfl) (Nat.le_of_ble_eq_true rfl) dX6_takeName_154 ?_
                  refine ⟨?_, hJ.symm, hZ, by omega, by omega⟩
                  unfold tkR
                  first | (exfalso; omega) | rw [if_neg (by assumption)] | (rw [if_pos (by assumption)]; first | rw [pI_f (by assumption)] | (rw [pI_t (by assumption)]; first | rw [if_pos (by omega)] | rw [if_neg (by omega)]))
              · refine lv_bipush (v := (-3)) hF.1 hF.2.1 dX6_takeName_139 (by decide) ?_
                refine kRetI (v := (-3)) hF hr hlk hK hP hD hS hQ rfl (s1, z) [0, 1, 2, 3, 4, 5, 6, 7] (by decide) rfl (Nat.le_of_ble_eq_true rfl) (Nat.le_of_ble_eq_true rfl) dX6_takeName_141 ?_
                refine ⟨?_, hJ.symm, hZ, by omega, by omega⟩
                unfold tkR
                first | (exfalso; omega) | rw [if_neg (by assumption)] | (rw [if_pos (by assumption)]; first | rw [pI_f (by assumption)] | (rw [pI_t (by assumption)]; first | rw [if_pos (by omega)] | rw [if_neg (by omega)]))
            · refine lv_bipush (v := (-2)) hF.1 hF.2.1 dX6_takeName_121 (by decide) ?_
              refine kRetI (v := (-2)) hF hr hlk hK hP hD hS hQ rfl (s1, z) [0, 1, 2, 3, 4, 5, 6, 7] (by decide) rfl (Nat.le_of_ble_eq_true rfl) (Nat.le_of_ble_eq_true rfl) dX6_takeName_123 ?_
              refine ⟨?_, hJ.symm, hZ, by omega, by omega⟩
              unfold tkR
              first | (exfalso; omega) | rw [if_neg (by assumption)] | (rw [if_pos (by assumption)]; first | rw [pI_f (by assumption)] | (rw [pI_t (by assumption)]; first | rw [if_pos (by omega)] | rw [if_neg (by omega)]))
        · refine lv_aload_n hF.1 hF.2.1 dX6_takeName_31 rfl (lv_at hl 2 rfl) ?_
          refine kGet (C := RX6) (T := TX6) (N := 10) (index := 12) hF hK hP (inT inBX6) 0 rfl rfl 4 (by decide) rfl (List.mem_cons_of_mem _ mF_X6_12) rfl dX6_takeName_32 ?_
          refine kCallI (wr := [oC wk 6 [.ref t, .ref en, .ref vo, .ref se, .ref rs, .int wa, .int (nI hp), .long z, .int (zI la), .int (zI sl)], oC se 3 [.ref t, .int us, .int ro, .int pr], oC t 4 [.ref tk, .ref tm, .ref to_, .ref tv, .ref tp, .ref tl], aI G tk 40 kF, aI G tm 40 mF, aI G to_ 40 oF]) (va_runV (As := []) (rest := []) hF (c_X2_beginsWithSlash l G H.size rs ra s1 f (by first | assumption | omega)) (cwVB 0 hF rfl mL_X6_81 mI_X2_beginsWithSlash mS_X2_beginsWithSlash mN_X2 mC_X2_beginsWithSlash rfl hd_X2_beginsWithSlash rfl rfl ⟨Nat.le_of_ble_eq_true rfl, Nat.le_of_ble_eq_true rfl⟩) (kPre hK hP hD [1, 2] (by decide) rfl (q0 := 1) (ci := 2) rfl rfl rfl) rfl rfl hl.1 rfl (lv_room (Nat.le_of_ble_eq_true rfl)) dX6_takeName_35 ⟨Nat.le_of_ble_eq_true rfl, Nat.le_of_ble_eq_true rfl⟩) hP hD hS hA [1, 2] [0, 3, 4, 5, 6, 7] rfl rfl (by decide) (by decide) (fun r u H locs hw_33 hP hD hS => ?_)
          have hw_33 := hw_33.symm
          subst hw_33
          have hP : PG G [oC wk 6 [.ref t, .ref en, .ref vo, .ref se, .ref rs, .int wa, .int (nI hp), .long z, .int (zI la), .int (zI sl)], oC rs 2 [.ref ra, .int (nI s1)], aC G ra 60 f, oC se 3 [.ref t, .int us, .int ro, .int pr], oC t 4 [.ref tk, .ref tm, .ref to_, .ref tv, .ref tp, .ref tl], aI G tk 40 kF, aI G tm 40 mF, aI G to_ 40 oF] H := va_P.sub hP [0, 6, 7, 1, 2, 3, 4, 5] rfl
          have hD : va_D A [oC wk 6 [.ref t, .ref en, .ref vo, .ref se, .ref rs, .int wa, .int (nI hp), .long z, .int (zI la), .int (zI sl)], oC rs 2 [.ref ra, .int (nI s1)], aC G ra 60 f, oC se 3 [.ref t, .int us, .int ro, .int pr], oC t 4 [.ref tk, .ref tm, .ref to_, .ref tv, .ref tp, .ref tl], aI G tk 40 kF, aI G tm 40 mF, aI G to_ 40 oF] := va_D.sub hD [0, 6, 7, 1, 2, 3, 4, 5] (by decide) rfl
          refine kIfNeZ (tgt := 67) hF dX6_takeName_38 (by decide) (fun c_34 => ?_) (fun c_34 => ?_)
          · have hJ : scan (noS f) (60 - st) st = s1 := by rw [← hR]; exact scan_x (fun h9 => by first | (exfalso; omega) | (simp only [Bool.not_eq_false', decide_eq_true_eq]; exact (by assumption : s1 < 60 ∧ f s1 = nI 47).2))
            have hZ : z = nmC f (s1 - st) st (lN 0) := by have h := hN; rw [hJ, nmC_e (Nat.le_refl s1)] at h; exact h
            refine lv_iload_n hF.1 hF.2.1 dX6_takeName_67 rfl (lv_at hl 1 rfl) ?_
            refine lv_aload_n hF.1 hF.2.1 dX6_takeName_68 rfl (lv_at hl 2 rfl) ?_
            refine kGet (C := RX6) (T := TX6) (N := 10) (index := 12) hF hK hP (inT inBX6) 0 rfl rfl 4 (by decide) rfl (List.mem_cons_of_mem _ mF_X6_12) rfl dX6_takeName_69 ?_
            refine kCallI (wr := [oC wk 6 [.ref t, .ref en, .ref vo, .ref se, .ref rs, .int wa, .int (nI hp), .long z, .int (zI la), .int (zI sl)], oC se 3 [.ref t, .int us, .int ro, .int pr], oC t 4 [.ref tk, .ref tm, .ref to_, .ref tv, .ref tp, .ref tl], aI G tk 40 kF, aI G tm 40 mF, aI G to_ 40 oF]) (va_runV (As := []) (rest := [.int (nI (60 - st))]) hF (c_X2_size l G H.size rs ra s1 f (by first | assumption | omega)) (cwVB 0 hF rfl mL_X6_100 mI_X2_size mS_X2_size mN_X2 mC_X2_size rfl hd_X2_size rfl rfl ⟨Nat.le_of_ble_eq_true rfl, Nat.le_of_ble_eq_true rfl⟩) (kPre hK hP hD [1, 2] (by decide) rfl (q0 := 1) (ci := 2) rfl rfl rfl) rfl rfl hl.1 rfl (lv_room (Nat.le_of_ble_eq_true rfl)) dX6_takeName_72 ⟨Nat.le_of_ble_eq_true rfl, Nat.le_of_ble_eq_true rfl⟩) hP hD hS hA [1, 2] [0, 3, 4, 5, 6, 7] rfl rfl (by decide) (by decide) (fun r u H locs hw_35 hP hD hS => ?_)
            have hw_35 := hw_35.symm
            subst hw_35
            have hP : PG G [oC wk 6 [.ref t, .ref en, .ref vo, .ref se, .ref rs, .int wa, .int (nI hp), .long z, .int (zI la), .int (zI sl)], oC rs 2 [.ref ra, .int (nI s1)], aC G ra 60 f, oC se 3 [.ref t, .int us, .int ro, .int pr], oC t 4 [.ref tk, .ref tm, .ref to_, .ref tv, .ref tp, .ref tl], aI G tk 40 kF, aI G tm 40 mF, aI G to_ 40 oF] H := va_P.sub hP [0, 6, 7, 1, 2, 3, 4, 5] rfl
            have hD : va_D A [oC wk 6 [.ref t, .ref en, .ref vo, .ref se, .ref rs, .int wa, .int (nI hp), .long z, .int (zI la), .int (zI sl)], oC rs 2 [.ref ra, .int (nI s1)], aC G ra 60 f, oC se 3 [.ref t, .int us, .int ro, .int pr], oC t 4 [.ref tk, .ref tm, .ref to_, .ref tv, .ref tp, .ref tl], aI G tk 40 kF, aI G tm 40 mF, aI G to_ 40 oF] := va_D.sub hD [0, 6, 7, 1, 2, 3, 4, 5] (by decide) rfl
            refine lv_isub hF.1 hF.2.1 dX6_takeName_75 ?_
            refine kTop (y := (nI ((60 - st) - (60 - s1)))) (pk_sub (by omega)) ?_
            refine lv_istore_n (lv' := [(2, .int (nI ((60 - st) - (60 - s1)))), (1, .int (nI (60 - st))), (0, .ref wk)]) hF.1 hF.2.1 dX6_takeName_76 rfl hl (by decide) rfl (fun ls hl => ?_)
            refine lv_aload_n hF.1 hF.2.1 dX6_takeName_77 rfl (lv_at hl 2 rfl) ?_
            refine lv_aload_n hF.1 hF.2.1 dX6_takeName_78 rfl (lv_at hl 2 rfl) ?_
            refine kGet (C := RX6) (T := TX6) (N := 10) (index := 12) hF hK hP (inT inBX6) 0 rfl rfl 4 (by decide) rfl (List.mem_cons_of_mem _ mF_X6_12) rfl dX6_takeName_79 ?_
            refine kCallI (wr := [oC wk 6 [.ref t, .ref en, .ref vo, .ref se, .ref rs, .int wa, .int (nI hp), .long z, .int (zI la), .int (zI sl)], oC se 3 [.ref t, .int us, .int ro, .int pr], oC t 4 [.ref tk, .ref tm, .ref to_, .ref tv, .ref tp, .ref tl], aI G tk 40 kF, aI G tm 40 mF, aI G to_ 40 oF]) (va_runV (As := []) (rest := [.ref wk]) hF (c_X2_hasSlashesAlone l G H.size rs ra s1 f (by first | assumption | omega)) (cwVB 0 hF rfl mL_X6_103 mI_X2_hasSlashesAlone mS_X2_hasSlashesAlone mN_X2 mC_X2_hasSlashesAlone rfl hd_X2_hasSlashesAlone rfl rfl ⟨Nat.le_of_ble_eq_true rfl, Nat.le_of_ble_eq_true rfl⟩) (kPre hK hP hD [1, 2] (by decide) rfl (q0 := 1) (ci := 2) rfl rfl rfl) rfl rfl hl.1 rfl (lv_room (Nat.le_of_ble_eq_true rfl)) dX6_takeName_82 ⟨Nat.le_of_ble_eq_true rfl, Nat.le_of_ble_eq_true rfl⟩) hP hD hS hA [1, 2] [0, 3, 4, 5, 6, 7] rfl rfl (by decide) (by decide) (fun r u H locs hw_36 hP hD hS => ?_)
            have hw_36 := hw_36.symm
            subst hw_36
            have hP : PG G [oC wk 6 [.ref t, .ref en, .ref vo, .ref se, .ref rs, .int wa, .int (nI hp), .long z, .int (zI la), .int (zI sl)], oC rs 2 [.ref ra, .int (nI s1)], aC G ra 60 f, oC se 3 [.ref t, .int us, .int ro, .int pr], oC t 4 [.ref tk, .ref tm, .ref to_, .ref tv, .ref tp, .ref tl], aI G tk 40 kF, aI G tm 40 mF, aI G to_ 40 oF] H := va_P.sub hP [0, 6, 7, 1, 2, 3, 4, 5] rfl
            have hD : va_D A [oC wk 6 [.ref t, .ref en, .ref vo, .ref se, .ref rs, .int wa, .int (nI hp), .long z, .int (zI la), .int (zI sl)], oC rs 2 [.ref ra, .int (nI s1)], aC G ra 60 f, oC se 3 [.ref t, .int us, .int ro, .int pr], oC t 4 [.ref tk, .ref tm, .ref to_, .ref tv, .ref tp, .ref tl], aI G tk 40 kF, aI G tm 40 mF, aI G to_ 40 oF] := va_D.sub hD [0, 6, 7, 1, 2, 3, 4, 5] (by decide) rfl
            refine kPut (C := RX6) (T := TX6) (N := 10) (index := 71) (v := .int (zI (scan (isS f) (60 - s1) s1 = 60))) hF hK hP hD hS (inT inBX6) tyX6_ok nmX6 0 rfl rfl 8 (by decide) rfl (List.mem_cons_of_mem _ mF_X6_71) rfl (zI_nar _) (zI_fit _) (Nat.le_of_ble_eq_true rfl) dX6_takeName_85 (fun H locs hP hD hS => ?_)
            have hP : PG G [oC wk 6 [.ref t, .ref en, .ref vo, .ref se, .ref rs, .int wa, .int (nI hp), .long z, .int (zI (scan (isS f) (60 - s1) s1 = 60)), .int (zI sl)], oC rs 2 [.ref ra, .int (nI s1)], aC G ra 60 f, oC se 3 [.ref t, .int us, .int ro, .int pr], oC t 4 [.ref tk, .ref tm, .ref to_, .ref tv, .ref tp, .ref tl], aI G tk 40 kF, aI G tm 40 mF, aI G to_ 40 oF] H := hP
            have hD : va_D A [oC wk 6 [.ref t, .ref en, .ref vo, .ref se, .ref rs, .int wa, .int (nI hp), .long z, .int (zI (scan (isS f) (60 - s1) s1 = 60)), .int (zI sl)], oC rs 2 [.ref ra, .int (nI s1)], aC G ra 60 f, oC se 3 [.ref t, .int us, .int ro, .int pr], oC t 4 [.ref tk, .ref tm, .ref to_, .ref tv, .ref tp, .ref tl], aI G tk 40 kF, aI G tm 40 mF, aI G to_ 40 oF] := hD
            refine lv_aload_n hF.1 hF.2.1 dX6_takeName_88 rfl (lv_at hl 2 rfl) ?_
            refine lv_aload_n hF.1 hF.2.1 dX6_takeName_89 rfl (lv_at hl 2 rfl) ?_
            refine kGet (C := RX6) (T := TX6) (N := 10) (index := 12) hF hK hP (inT inBX6) 0 rfl rfl 4 (by decide) rfl (List.mem_cons_of_mem _ mF_X6_12) rfl dX6_takeName_90 ?_
            refine kCallI (wr := [oC wk 6 [.ref t, .ref en, .ref vo, .ref se, .ref rs, .int wa, .int (nI hp), .long z, .int (zI (scan (isS f) (60 - s1) s1 = 60)), .int (zI sl)], oC se 3 [.ref t, .int us, .int ro, .int pr], oC t 4 [.ref tk, .ref tm, .ref to_, .ref tv, .ref tp, .ref tl], aI G tk 40 kF, aI G tm 40 mF, aI G to_ 40 oF]) (va_runV (As := []) (rest := [.ref wk]) hF (c_X2_isEmpty l G H.size rs ra s1 f (by first | assumption | omega)) (cwVB 0 hF rfl mL_X6_99 mI_X2_isEmpty mS_X2_isEmpty mN_X2 mC_X2_isEmpty rfl hd_X2_isEmpty rfl rfl ⟨Nat.le_of_ble_eq_true rfl, Nat.le_of_ble_eq_true rfl⟩) (kPre hK hP hD [1, 2] (by decide) rfl (q0 := 1) (ci := 2) rfl rfl rfl) rfl rfl hl.1 rfl (lv_room (Nat.le_of_ble_eq_true rfl)) dX6_takeName_93 ⟨Nat.le_of_ble_eq_true rfl, Nat.le_of_ble_eq_true rfl⟩) hP hD hS hA [1, 2] [0, 3, 4, 5, 6, 7] rfl rfl (by decide) (by decide) (fun r u H locs hw_37 hP hD hS => ?_)
            have hw_37 := hw_37.symm
            subst hw_37
            have hP : PG G [oC wk 6 [.ref t, .ref en, .ref vo, .ref se, .ref rs, .int wa, .int (nI hp), .long z, .int (zI (scan (isS f) (60 - s1) s1 = 60)), .int (zI sl)], oC rs 2 [.ref ra, .int (nI s1)], aC G ra 60 f, oC se 3 [.ref t, .int us, .int ro, .int pr], oC t 4 [.ref tk, .ref tm, .ref to_, .ref tv, .ref tp, .ref tl], aI G tk 40 kF, aI G tm 40 mF, aI G to_ 40 oF] H := va_P.sub hP [0, 6, 7, 1, 2, 3, 4, 5] rfl
            have hD : va_D A [oC wk 6 [.ref t, .ref en, .ref vo, .ref se, .ref rs, .int wa, .int (nI hp), .long z, .int (zI (scan (isS f) (60 - s1) s1 = 60)), .int (zI sl)], oC rs 2 [.ref ra, .int (nI s1)], aC G ra 60 f, oC se 3 [.ref t, .int us, .int ro, .int pr], oC t 4 [.ref tk, .ref tm, .ref to_, .ref tv, .ref tp, .ref tl], aI G tk 40 kF, aI G tm 40 mF, aI G to_ 40 oF] := va_D.sub hD [0, 6, 7, 1, 2, 3, 4, 5] (by decide) rfl
            refine kIfNeZ (tgt := 103) hF dX6_takeName_96 (by decide) (fun c_38 => ?_) (fun c_38 => ?_)
            · refine lv_iconst (v := (nI 0)) hF.1 hF.2.1 dX6_takeName_103 (by decide) ?_
              refine kTop (y := zI (s1 < 60)) (first_z (by first | exact Or.inl ⟨rfl, by omega⟩ | exact Or.inr ⟨rfl, by omega⟩)) ?_
              refine kPut (C := RX6) (T := TX6) (N := 10) (index := 42) (v := .int (zI (s1 < 60))) hF hK hP hD hS (inT inBX6) tyX6_ok nmX6 0 rfl rfl 9 (by decide) rfl (List.mem_cons_of_mem _ mF_X6_42) rfl (zI_nar _) (zI_fit _) (Nat.le_of_ble_eq_true rfl) dX6_takeName_104 (fun H locs hP hD hS => ?_)
              have hP : PG G [oC wk 6 [.ref t, .ref en, .ref vo, .ref se, .ref rs, .int wa, .int (nI hp), .long z, .int (zI (scan (isS f) (60 - s1) s1 = 60)), .int (zI (s1 < 60))], oC rs 2 [.ref ra, .int (nI s1)], aC G ra 60 f, oC se 3 [.ref t, .int us, .int ro, .int pr], oC t 4 [.ref tk, .ref tm, .ref to_, .ref tv, .ref tp, .ref tl], aI G tk 40 kF, aI G tm 40 mF, aI G to_ 40 oF] H := hP
              have hD : va_D A [oC wk 6 [.ref t, .ref en, .ref vo, .ref se, .ref rs, .int wa, .int (nI hp), .long z, .int (zI (scan (isS f) (60 - s1) s1 = 60)), .int (zI (s1 < 60))], oC rs 2 [.ref ra, .int (nI s1)], aC G ra 60 f, oC se 3 [.ref t, .int us, .int ro, .int pr], oC t 4 [.ref tk, .ref tm, .ref to_, .ref tv, .ref tp, .ref tl], aI G tk 40 kF, aI G tm 40 mF, aI G to_ 40 oF] := hD
              refine lv_aload_n hF.1 hF.2.1 dX6_takeName_107 rfl (lv_at hl 2 rfl) ?_
              refine kGet (C := RX6) (T := TX6) (N := 10) (index := 18) hF hK hP (inT inBX6) 0 rfl rfl 0 (by decide) rfl (List.mem_cons_of_mem _ mF_X6_18) rfl dX6_takeName_108 ?_
              refine lv_aload_n hF.1 hF.2.1 dX6_takeName_111 rfl (lv_at hl 2 rfl) ?_
              refine kGet (C := RX6) (T := TX6) (N := 10) (index := 34) hF hK hP (inT inBX6) 0 rfl rfl 5 (by decide) rfl (List.mem_cons_of_mem _ mF_X6_34) rfl dX6_takeName_112 ?_
              refine kCallI (wr := [oC wk 6 [.ref t, .ref en, .ref vo, .ref se, .ref rs, .int wa, .int (nI hp), .long z, .int (zI (scan (isS f) (60 - s1) s1 = 60)), .int (zI (s1 < 60))], oC rs 2 [.ref ra, .int (nI s1)], aC G ra 60 f, oC se 3 [.ref t, .int us, .int ro, .int pr], aI G tm 40 mF, aI G to_ 40 oF]) (va_runV (As := [.int wa]) (rest := []) hF (c_X4_isDirectory l G H.size t tk tm to_ tv tp tl kF wa (by first | assumption | omega)) (cwVB 1 hF rfl mL_X6_106 mI_X4_isDirectory mS_X4_isDirectory mN_X4 mC_X4_isDirectory rfl hd_X4_isDirectory rfl rfl ⟨Nat.le_of_ble_eq_true rfl, Nat.le_of_ble_eq_true rfl⟩) (kPre hK hP hD [4, 5] (by decide) rfl (q0 := 4) (ci := 4) rfl rfl rfl) rfl rfl hl.1 rfl (lv_room (Nat.le_of_ble_eq_true rfl)) dX6_takeName_115 ⟨Nat.le_of_ble_eq_true rfl, Nat.le_of_ble_eq_true rfl⟩) hP hD hS hA [4, 5] [0, 1, 2, 3, 6, 7] rfl rfl (by decide) (by decide) (fun r u H locs hw_39 hP hD hS => ?_)
              have hw_39 := hw_39.symm
              subst hw_39
              have hP : PG G [oC wk 6 [.ref t, .ref en, .ref vo, .ref se, .ref rs, .int wa, .int (nI hp), .long z, .int (zI (scan (isS f) (60 - s1) s1 = 60)), .int (zI (s1 < 60))], oC rs 2 [.ref ra, .int (nI s1)], aC G ra 60 f, oC se 3 [.ref t, .int us, .int ro, .int pr], oC t 4 [.ref tk, .ref tm, .ref to_, .ref tv, .ref tp, .ref tl], aI G tk 40 kF, aI G tm 40 mF, aI G to_ 40 oF] H := va_P.sub hP [0, 1, 2, 3, 6, 7, 4, 5] rfl
              have hD : va_D A [oC wk 6 [.ref t, .ref en, .ref vo, .ref se, .ref rs, .int wa, .int (nI hp), .long z, .int (zI (scan (isS f) (60 - s1) s1 = 60)), .int (zI (s1 < 60))], oC rs 2 [.ref ra, .int (nI s1)], aC G ra 60 f, oC se 3 [.ref t, .int us, .int ro, .int pr], oC t 4 [.ref tk, .ref tm, .ref to_, .ref tv, .ref tp, .ref tl], aI G tk 40 kF, aI G tm 40 mF, aI G to_ 40 oF] := va_D.sub hD [0, 1, 2, 3, 6, 7, 4, 5] (by decide) rfl
              refine kIfNeZ (tgt := 124) hF dX6_takeName_118 (by decide) (fun c_40 => ?_) (fun c_40 => ?_)
              · refine lv_aload_n hF.1 hF.2.1 dX6_takeName_124 rfl (lv_at hl 2 rfl) ?_
                refine kGet (C := RX6) (T := TX6) (N := 10) (index := 30) hF hK hP (inT inBX6) 0 rfl rfl 3 (by decide) rfl (List.mem_cons_of_mem _ mF_X6_30) rfl dX6_takeName_125 ?_
                refine lv_iconst (v := (nI 1)) hF.1 hF.2.1 dX6_takeName_128 (by decide) ?_
                refine lv_aload_n hF.1 hF.2.1 dX6_takeName_129 rfl (lv_at hl 2 rfl) ?_
                refine kGet (C := RX6) (T := TX6) (N := 10) (index := 34) hF hK hP (inT inBX6) 0 rfl rfl 5 (by decide) rfl (List.mem_cons_of_mem _ mF_X6_34) rfl dX6_takeName_130 ?_
                refine kCallI (wr := [oC wk 6 [.ref t, .ref en, .ref vo, .ref se, .ref rs, .int wa, .int (nI hp), .long z, .int (zI (scan (isS f) (60 - s1) s1 = 60)), .int (zI (s1 < 60))], oC rs 2 [.ref ra, .int (nI s1)], aC G ra 60 f, aI G tk 40 kF]) (va_runV (As := [.int (nI 1), .int wa]) (rest := []) hF (c_X3_may l G H.size se t us ro pr tk tm to_ tv tp tl mF oF (nI 1) wa (by first | assumption | omega)) (cwVB 2 hF rfl mL_X6_112 mI_X3_may mS_X3_may mN_X3 mC_X3_may rfl hd_X3_may rfl rfl ⟨Nat.le_of_ble_eq_true rfl, Nat.le_of_ble_eq_true rfl⟩) (kPre hK hP hD [3, 4, 6, 7] (by decide) rfl (q0 := 3) (ci := 3) rfl rfl rfl) rfl rfl hl.1 rfl (lv_room (Nat.le_of_ble_eq_true rfl)) dX6_takeName_133 ⟨Nat.le_of_ble_eq_true rfl, Nat.le_of_ble_eq_true rfl⟩) hP hD hS hA [3, 4, 6, 7] [0, 1, 2, 5] rfl rfl (by decide) (by decide) (fun r u H locs hw_41 hP hD hS => ?_)
                have hw_41 := hw_41.symm
                subst hw_41
                have hP : PG G [oC wk 6 [.ref t, .ref en, .ref vo, .ref se, .ref rs, .int wa, .int (nI hp), .long z, .int (zI (scan (isS f) (60 - s1) s1 = 60)), .int (zI (s1 < 60))], oC rs 2 [.ref ra, .int (nI s1)], aC G ra 60 f, oC se 3 [.ref t, .int us, .int ro, .int pr], oC t 4 [.ref tk, .ref tm, .ref to_, .ref tv, .ref tp, .ref tl], aI G tk 40 kF, aI G tm 40 mF, aI G to_ 40 oF] H := va_P.sub hP [0, 1, 2, 4, 5, 3, 6, 7] rfl
                have hD : va_D A [oC wk 6 [.ref t, .ref en, .ref vo, .ref se, .ref rs, .int wa, .int (nI hp), .long z, .int (zI (scan (isS f) (60 - s1) s1 = 60)), .int (zI (s1 < 60))], oC rs 2 [.ref ra, .int (nI s1)], aC G ra 60 f, oC se 3 [.ref t, .int us, .int ro, .int pr], oC t 4 [.ref tk, .ref tm, .ref to_, .ref tv, .ref tp, .ref tl], aI G tk 40 kF, aI G tm 40 mF, aI G to_ 40 oF] := va_D.sub hD [0, 1, 2, 4, 5, 3, 6, 7] (by decide) rfl
                refine kIfNeZ (tgt := 142) hF dX6_takeName_136 (by decide) (fun c_42 => ?_) (fun c_42 => ?_)
                · refine lv_iload_n hF.1 hF.2.1 dX6_takeName_142 rfl (lv_at hl 0 rfl) ?_
                  refine lv_bipush (v := (nI 6)) hF.1 hF.2.1 dX6_takeName_143 (by decide) ?_
                  refine kLeN (tgt := 153) hF dX6_takeName_145 (by decide) (by omega) (by omega) (fun c_43 => ?_) (fun c_43 => ?_)
                  · refine lv_iconst (v := (nI 0)) hF.1 hF.2.1 dX6_takeName_153 (by decide) ?_
                    refine kRetI (v := (nI 0)) hF hr hlk hK hP hD hS hQ rfl (s1, z) [0, 1, 2, 3, 4, 5, 6, 7] (by decide) rfl (Nat.le_of_ble_eq_true rfl) (Nat.le_of_ble_eq_true rfl) dX6_takeName_154 ?_
                    refine ⟨?_, hJ.symm, hZ, by omega, by omega⟩
                    unfold tkR
                    first | (exfalso; omega) | rw [if_neg (by assumption)] | (rw [if_pos (by assumption)]; first | rw [pI_f (by assumption)] | (rw [pI_t (by assumption)]; first | rw [if_pos (by omega)] | rw [if_neg (by omega)]))
                  · refine lv_bipush (v := (-5)) hF.1 hF.2.1 dX6_takeName_148 (by decide) ?_
                    refine lv_goto (tgt := 154) hF.1 hF.2.1 dX6_takeName_150 (by decide) ?_
                    refine kRetI (v := (-5)) hF hr hlk hK hP hD hS hQ rfl (s1, z) [0, 1, 2, 3, 4, 5, 6, 7] (by decide) rfl (Nat.le_of_ble_eq_true rfl) (Nat.le_of_ble_eq_true rfl) dX6_takeName_154 ?_
                    refine ⟨?_, hJ.symm, hZ, by omega, by omega⟩
                    unfold tkR
                    first | (exfalso; omega) | rw [if_neg (by assumption)] | (rw [if_pos (by assumption)]; first | rw [pI_f (by assumption)] | (rw [pI_t (by assumption)]; first | rw [if_pos (by omega)] | rw [if_neg (by omega)]))
                · refine lv_bipush (v := (-3)) hF.1 hF.2.1 dX6_takeName_139 (by decide) ?_
                  refine kRetI (v := (-3)) hF hr hlk hK hP hD hS hQ rfl (s1, z) [0, 1, 2, 3, 4, 5, 6, 7] (by decide) rfl (Nat.le_of_ble_eq_true rfl) (Nat.le_of_ble_eq_true rfl) dX6_takeName_141 ?_
                  refine ⟨?_, hJ.symm, hZ, by omega, by omega⟩
                  unfold tkR
                  first | (exfalso; omega) | rw [if_neg (by assumption)] | (rw [if_pos (by assumption)]; first | rw [pI_f (by assumption)] | (rw [pI_t (by assumption)]; first | rw [if_pos (by omega)] | rw [if_neg (by omega)]))
              · refine lv_bipush (v := (-2)) hF.1 hF.2.1 dX6_takeName_121 (by decide) ?_
                refine kRetI (v := (-2)) hF hr hlk hK hP hD hS hQ rfl (s1, z) [0, 1, 2, 3, 4, 5, 6, 7] (by decide) rfl (Nat.le_of_ble_eq_true rfl) (Nat.le_of_ble_eq_true rfl) dX6_takeName_123 ?_
                refine ⟨?_, hJ.symm, hZ, by omega, by omega⟩
                unfold tkR
                first | (exfalso; omega) | rw [if_neg (by assumption)] | (rw [if_pos (by assumption)]; first | rw [pI_f (by assumption)] | (rw [pI_t (by assumption)]; first | rw [if_pos (by omega)] | rw [if_neg (by omega)]))
            · refine lv_iconst (v := (nI 1)) hF.1 hF.2.1 dX6_takeName_99 (by decide) ?_
              refine lv_goto (tgt := 104) hF.1 hF.2.1 dX6_takeName_100 (by decide) ?_
              refine kTop (y := zI (s1 < 60)) (first_z (by first | exact Or.inl ⟨rfl, by omega⟩ | exact Or.inr ⟨rfl, by omega⟩)) ?_
              refine kPut (C := RX6) (T := TX6) (N := 10) (index := 42) (v := .int (zI (s1 < 60))) hF hK hP hD hS (inT inBX6) tyX6_ok nmX6 0 rfl rfl 9 (by decide) rfl (List.mem_cons_of_mem _ mF_X6_42) rfl (zI_nar _) (zI_fit _) (Nat.le_of_ble_eq_true rfl) dX6_takeName_104 (fun H locs hP hD hS => ?_)
              have hP : PG G [oC wk 6 [.ref t, .ref en, .ref vo, .ref se, .ref rs, .int wa, .int (nI hp), .long z, .int (zI (scan (isS f) (60 - s1) s1 = 60)), .int (zI (s1 < 60))], oC rs 2 [.ref ra, .int (nI s1)], aC G ra 60 f, oC se 3 [.ref t, .int us, .int ro, .int pr], oC t 4 [.ref tk, .ref tm, .ref to_, .ref tv, .ref tp, .ref tl], aI G tk 40 kF, aI G tm 40 mF, aI G to_ 40 oF] H := hP
              have hD : va_D A [oC wk 6 [.ref t, .ref en, .ref vo, .ref se, .ref rs, .int wa, .int (nI hp), .long z, .int (zI (scan (isS f) (60 - s1) s1 = 60)), .int (zI (s1 < 60))], oC rs 2 [.ref ra, .int (nI s1)], aC G ra 60 f, oC se 3 [.ref t, .int us, .int ro, .int pr], oC t 4 [.ref tk, .ref tm, .ref to_, .ref tv, .ref tp, .ref tl], aI G tk 40 kF, aI G tm 40 mF, aI G to_ 40 oF] := hD
              refine lv_aload_n hF.1 hF.2.1 dX6_takeName_107 rfl (lv_at hl 2 rfl) ?_
              refine kGet (C := RX6) (T := TX6) (N := 10) (index := 18) hF hK hP (inT inBX6) 0 rfl rfl 0 (by decide) rfl (List.mem_cons_of_mem _ mF_X6_18) rfl dX6_takeName_108 ?_
              refine lv_aload_n hF.1 hF.2.1 dX6_takeName_111 rfl (lv_at hl 2 rfl) ?_
              refine kGet (C := RX6) (T := TX6) (N := 10) (index := 34) hF hK hP (inT inBX6) 0 rfl rfl 5 (by decide) rfl (List.mem_cons_of_mem _ mF_X6_34) rfl dX6_takeName_112 ?_
              refine kCallI (wr := [oC wk 6 [.ref t, .ref en, .ref vo, .ref se, .ref rs, .int wa, .int (nI hp), .long z, .int (zI (scan (isS f) (60 - s1) s1 = 60)), .int (zI (s1 < 60))], oC rs 2 [.ref ra, .int (nI s1)], aC G ra 60 f, oC se 3 [.ref t, .int us, .int ro, .int pr], aI G tm 40 mF, aI G to_ 40 oF]) (va_runV (As := [.int wa]) (rest := []) hF (c_X4_isDirectory l G H.size t tk tm to_ tv tp tl kF wa (by first | assumption | omega)) (cwVB 1 hF rfl mL_X6_106 mI_X4_isDirectory mS_X4_isDirectory mN_X4 mC_X4_isDirectory rfl hd_X4_isDirectory rfl rfl ⟨Nat.le_of_ble_eq_true rfl, Nat.le_of_ble_eq_true rfl⟩) (kPre hK hP hD [4, 5] (by decide) rfl (q0 := 4) (ci := 4) rfl rfl rfl) rfl rfl hl.1 rfl (lv_room (Nat.le_of_ble_eq_true rfl)) dX6_takeName_115 ⟨Nat.le_of_ble_eq_true rfl, Nat.le_of_ble_eq_true rfl⟩) hP hD hS hA [4, 5] [0, 1, 2, 3, 6, 7] rfl rfl (by decide) (by decide) (fun r u H locs hw_44 hP hD hS => ?_)
              have hw_44 := hw_44.symm
              subst hw_44
              have hP : PG G [oC wk 6 [.ref t, .ref en, .ref vo, .ref se, .ref rs, .int wa, .int (nI hp), .long z, .int (zI (scan (isS f) (60 - s1) s1 = 60)), .int (zI (s1 < 60))], oC rs 2 [.ref ra, .int (nI s1)], aC G ra 60 f, oC se 3 [.ref t, .int us, .int ro, .int pr], oC t 4 [.ref tk, .ref tm, .ref to_, .ref tv, .ref tp, .ref tl], aI G tk 40 kF, aI G tm 40 mF, aI G to_ 40 oF] H := va_P.sub hP [0, 1, 2, 3, 6, 7, 4, 5] rfl
              have hD : va_D A [oC wk 6 [.ref t, .ref en, .ref vo, .ref se, .ref rs, .int wa, .int (nI hp), .long z, .int (zI (scan (isS f) (60 - s1) s1 = 60)), .int (zI (s1 < 60))], oC rs 2 [.ref ra, .int (nI s1)], aC G ra 60 f, oC se 3 [.ref t, .int us, .int ro, .int pr], oC t 4 [.ref tk, .ref tm, .ref to_, .ref tv, .ref tp, .ref tl], aI G tk 40 kF, aI G tm 40 mF, aI G to_ 40 oF] := va_D.sub hD [0, 1, 2, 3, 6, 7, 4, 5] (by decide) rfl
              refine kIfNeZ (tgt := 124) hF dX6_takeName_118 (by decide) (fun c_45 => ?_) (fun c_45 => ?_)
              · refine lv_aload_n hF.1 hF.2.1 dX6_takeName_124 rfl (lv_at hl 2 rfl) ?_
                refine kGet (C := RX6) (T := TX6) (N := 10) (index := 30) hF hK hP (inT inBX6) 0 rfl rfl 3 (by decide) rfl (List.mem_cons_of_mem _ mF_X6_30) rfl dX6_takeName_125 ?_
                refine lv_iconst (v := (nI 1)) hF.1 hF.2.1 dX6_takeName_128 (by decide) ?_
                refine lv_aload_n hF.1 hF.2.1 dX6_takeName_129 rfl (lv_at hl 2 rfl) ?_
                refine kGet (C := RX6) (T := TX6) (N := 10) (index := 34) hF hK hP (inT inBX6) 0 rfl rfl 5 (by decide) rfl (List.mem_cons_of_mem _ mF_X6_34) rfl dX6_takeName_130 ?_
                refine kCallI (wr := [oC wk 6 [.ref t, .ref en, .ref vo, .ref se, .ref rs, .int wa, .int (nI hp), .long z, .int (zI (scan (isS f) (60 - s1) s1 = 60)), .int (zI (s1 < 60))], oC rs 2 [.ref ra, .int (nI s1)], aC G ra 60 f, aI G tk 40 kF]) (va_runV (As := [.int (nI 1), .int wa]) (rest := []) hF (c_X3_may l G H.size se t us ro pr tk tm to_ tv tp tl mF oF (nI 1) wa (by first | assumption | omega)) (cwVB 2 hF rfl mL_X6_112 mI_X3_may mS_X3_may mN_X3 mC_X3_may rfl hd_X3_may rfl rfl ⟨Nat.le_of_ble_eq_true rfl, Nat.le_of_ble_eq_true rfl⟩) (kPre hK hP hD [3, 4, 6, 7] (by decide) rfl (q0 := 3) (ci := 3) rfl rfl rfl) rfl rfl hl.1 rfl (lv_room (Nat.le_of_ble_eq_true rfl)) dX6_takeName_133 ⟨Nat.le_of_ble_eq_true rfl, Nat.le_of_ble_eq_true rfl⟩) hP hD hS hA [3, 4, 6, 7] [0, 1, 2, 5] rfl rfl (by decide) (by decide) (fun r u H locs hw_46 hP hD hS => ?_)
                have hw_46 := hw_46.symm
                subst hw_46
                have hP : PG G [oC wk 6 [.ref t, .ref en, .ref vo, .ref se, .ref rs, .int wa, .int (nI hp), .long z, .int (zI (scan (isS f) (60 - s1) s1 = 60)), .int (zI (s1 < 60))], oC rs 2 [.ref ra, .int (nI s1)], aC G ra 60 f, oC se 3 [.ref t, .int us, .int ro, .int pr], oC t 4 [.ref tk, .ref tm, .ref to_, .ref tv, .ref tp, .ref tl], aI G tk 40 kF, aI G tm 40 mF, aI G to_ 40 oF] H := va_P.sub hP [0, 1, 2, 4, 5, 3, 6, 7] rfl
                have hD : va_D A [oC wk 6 [.ref t, .ref en, .ref vo, .ref se, .ref rs, .int wa, .int (nI hp), .long z, .int (zI (scan (isS f) (60 - s1) s1 = 60)), .int (zI (s1 < 60))], oC rs 2 [.ref ra, .int (nI s1)], aC G ra 60 f, oC se 3 [.ref t, .int us, .int ro, .int pr], oC t 4 [.ref tk, .ref tm, .ref to_, .ref tv, .ref tp, .ref tl], aI G tk 40 kF, aI G tm 40 mF, aI G to_ 40 oF] := va_D.sub hD [0, 1, 2, 4, 5, 3, 6, 7] (by decide) rfl
                refine kIfNeZ (tgt := 142) hF dX6_takeName_136 (by decide) (fun c_47 => ?_) (fun c_47 => ?_)
                · refine lv_iload_n hF.1 hF.2.1 dX6_takeName_142 rfl (lv_at hl 0 rfl) ?_
                  refine lv_bipush (v := (nI 6)) hF.1 hF.2.1 dX6_takeName_143 (by decide) ?_
                  refine kLeN (tgt := 153) hF dX6_takeName_145 (by decide) (by omega) (by omega) (fun c_48 => ?_) (fun c_48 => ?_)
                  · refine lv_iconst (v := (nI 0)) hF.1 hF.2.1 dX6_takeName_153 (by decide) ?_
                    refine kRetI (v := (nI 0)) hF hr hlk hK hP hD hS hQ rfl (s1, z) [0, 1, 2, 3, 4, 5, 6, 7] (by decide) rfl (Nat.le_of_ble_eq_true rfl) (Nat.le_of_ble_eq_true rfl) dX6_takeName_154 ?_
                    refine ⟨?_, hJ.symm, hZ, by omega, by omega⟩
                    unfold tkR
                    first | (exfalso; omega) | rw [if_neg (by assumption)] | (rw [if_pos (by assumption)]; first | rw [pI_f (by assumption)] | (rw [pI_t (by assumption)]; first | rw [if_pos (by omega)] | rw [if_neg (by omega)]))
                  · refine lv_bipush (v := (-5)) hF.1 hF.2.1 dX6_takeName_148 (by decide) ?_
                    refine lv_goto (tgt := 154) hF.1 hF.2.1 dX6_takeName_150 (by decide) ?_
                    refine kRetI (v := (-5)) hF hr hlk hK hP hD hS hQ rfl (s1, z) [0, 1, 2, 3, 4, 5, 6, 7] (by decide) rfl (Nat.le_of_ble_eq_true rfl) (Nat.le_of_ble_eq_true rfl) dX6_takeName_154 ?_
                    refine ⟨?_, hJ.symm, hZ, by omega, by omega⟩
                    unfold tkR
                    first | (exfalso; omega) | rw [if_neg (by assumption)] | (rw [if_pos (by assumption)]; first | rw [pI_f (by assumption)] | (rw [pI_t (by assumption)]; first | rw [if_pos (by omega)] | rw [if_neg (by omega)]))
                · refine lv_bipush (v := (-3)) hF.1 hF.2.1 dX6_takeName_139 (by decide) ?_
                  refine kRetI (v := (-3)) hF hr hlk hK hP hD hS hQ rfl (s1, z) [0, 1, 2, 3, 4, 5, 6, 7] (by decide) rfl (Nat.le_of_ble_eq_true rfl) (Nat.le_of_ble_eq_true rfl) dX6_takeName_141 ?_
                  refine ⟨?_, hJ.symm, hZ, by omega, by omega⟩
                  unfold tkR
                  first | (exfalso; omega) | rw [if_neg (by assumption)] | (rw [if_pos (by assumption)]; first | rw [pI_f (by assumption)] | (rw [pI_t (by assumption)]; first | rw [if_pos (by omega)] | rw [if_neg (by omega)]))
              · refine lv_bipush (v := (-2)) hF.1 hF.2.1 dX6_takeName_121 (by decide) ?_
                refine kRetI (v := (-2)) hF hr hlk hK hP hD hS hQ rfl (s1, z) [0, 1, 2, 3, 4, 5, 6, 7] (by decide) rfl (Nat.le_of_ble_eq_true rfl) (Nat.le_of_ble_eq_true rfl) dX6_takeName_123 ?_
                refine ⟨?_, hJ.symm, hZ, by omega, by omega⟩
                unfold tkR
                first | (exfalso; omega) | rw [if_neg (by assumption)] | (rw [if_pos (by assumption)]; first | rw [pI_f (by assumption)] | (rw [pI_t (by assumption)]; first | rw [if_pos (by omega)] | rw [if_neg (by omega)]))
          · have hx3 : ¬ f s1 = nI 47 := fun h => c_34 ⟨by omega, h⟩
            refine lv_aload_n hF.1 hF.2.1 dX6_takeName_41 rfl (lv_at hl 2 rfl) ?_
            refine lv_aload_n hF.1 hF.2.1 dX6_takeName_42 rfl (lv_at hl 2 rfl) ?_
            refine kGet (C := RX6) (T := TX6) (N := 10) (index := 38) hF hK hP (inT inBX6) 0 rfl rfl 7 (by decide) rfl (List.mem_cons_of_mem _ mF_X6_38) rfl dX6_takeName_43 ?_
            refine lv_bipush (v := (nI 8)) hF.1 hF.2.1 dX6_takeName_46 (by decide) ?_
            refine lv_lshl hF.1 hF.2.1 dX6_takeName_48 rfl ?_
            refine lv_aload_n hF.1 hF.2.1 dX6_takeName_49 rfl (lv_at hl 2 rfl) ?_
            refine kGet (C := RX6) (T := TX6) (N := 10) (index := 12) hF hK hP (inT inBX6) 0 rfl rfl 4 (by decide) rfl (List.mem_cons_of_mem _ mF_X6_12) rfl dX6_takeName_50 ?_
            refine kCallI (wr := [oC wk 6 [.ref t, .ref en, .ref vo, .ref se, .ref rs, .int wa, .int (nI hp), .long z, .int (zI la), .int (zI sl)], oC se 3 [.ref t, .int us, .int ro, .int pr], oC t 4 [.ref tk, .ref tm, .ref to_, .ref tv, .ref tp, .ref tl], aI G tk 40 kF, aI G tm 40 mF, aI G to_ 40 oF]) (va_runV (As := []) (rest := [.long (z <<< ((nI 8).toInt64 &&& 63)), .ref wk]) hF (c_X2_take l G H.size rs ra s1 f (by first | assumption | omega) (by first | assumption | omega)) (cwVB 0 hF rfl mL_X6_95 mI_X2_take mS_X2_take mN_X2 mC_X2_take rfl hd_X2_take rfl rfl ⟨Nat.le_of_ble_eq_true rfl, Nat.le_of_ble_eq_true rfl⟩) (kPre hK hP hD [1, 2] (by decide) rfl (q0 := 1) (ci := 2) rfl rfl rfl) rfl rfl hl.1 rfl (lv_room (Nat.le_of_ble_eq_true rfl)) dX6_takeName_53 ⟨Nat.le_of_ble_eq_true rfl, Nat.le_of_ble_eq_true rfl⟩) hP hD hS hA [1, 2] [0, 3, 4, 5, 6, 7] rfl rfl (by decide) (by decide) (fun r u H locs hw_49 hP hD hS => ?_)
            have hw_49 := hw_49.symm
            subst hw_49
            have hP : PG G [oC wk 6 [.ref t, .ref en, .ref vo, .ref se, .ref rs, .int wa, .int (nI hp), .long z, .int (zI la), .int (zI sl)], oC rs 2 [.ref ra, .int (nI (s1 + 1))], aC G ra 60 f, oC se 3 [.ref t, .int us, .int ro, .int pr], oC t 4 [.ref tk, .ref tm, .ref to_, .ref tv, .ref tp, .ref tl], aI G tk 40 kF, aI G tm 40 mF, aI G to_ 40 oF] H := va_P.sub hP [0, 6, 7, 1, 2, 3, 4, 5] rfl
            have hD : va_D A [oC wk 6 [.ref t, .ref en, .ref vo, .ref se, .ref rs, .int wa, .int (nI hp), .long z, .int (zI la), .int (zI sl)], oC rs 2 [.ref ra, .int (nI (s1 + 1))], aC G ra 60 f, oC se 3 [.ref t, .int us, .int ro, .int pr], oC t 4 [.ref tk, .ref tm, .ref to_, .ref tv, .ref tp, .ref tl], aI G tk 40 kF, aI G tm 40 mF, aI G to_ 40 oF] := va_D.sub hD [0, 6, 7, 1, 2, 3, 4, 5] (by decide) rfl
            refine lv_i2l hF.1 hF.2.1 dX6_takeName_56 rfl ?_
            refine lv_lor hF.1 hF.2.1 dX6_takeName_57 ?_
            refine kPut (C := RX6) (T := TX6) (N := 10) (index := 38) (v := .long ((z <<< ((nI 8).toInt64 &&& 63)) ||| ((f s1).toInt64))) hF hK hP hD hS (inT inBX6) tyX6_ok nmX6 0 rfl rfl 7 (by decide) rfl (List.mem_cons_of_mem _ mF_X6_38) rfl rfl rfl (Nat.le_of_ble_eq_true rfl) dX6_takeName_58 (fun H locs hP hD hS => ?_)
            have hP : PG G [oC wk 6 [.ref t, .ref en, .ref vo, .ref se, .ref rs, .int wa, .int (nI hp), .long ((z <<< ((nI 8).toInt64 &&& 63)) ||| ((f s1).toInt64)), .int (zI la), .int (zI sl)], oC rs 2 [.ref ra, .int (nI (s1 + 1))], aC G ra 60 f, oC se 3 [.ref t, .int us, .int ro, .int pr], oC t 4 [.ref tk, .ref tm, .ref to_, .ref tv, .ref tp, .ref tl], aI G tk 40 kF, aI G tm 40 mF, aI G to_ 40 oF] H := hP
            have hD : va_D A [oC wk 6 [.ref t, .ref en, .ref vo, .ref se, .ref rs, .int wa, .int (nI hp), .long ((z <<< ((nI 8).toInt64 &&& 63)) ||| ((f s1).toInt64)), .int (zI la), .int (zI sl)], oC rs 2 [.ref ra, .int (nI (s1 + 1))], aC G ra 60 f, oC se 3 [.ref t, .int us, .int ro, .int pr], oC t 4 [.ref tk, .ref tm, .ref to_, .ref tv, .ref tp, .ref tl], aI G tk 40 kF, aI G tm 40 mF, aI G to_ 40 oF] := hD
            refine lv_iinc (v := (nI (k + 1))) (lv' := [(2, .int (nI (k + 1))), (1, .int (nI (60 - st))), (0, .ref wk)]) hF.1 hF.2.1 dX6_takeName_61 hl (k := 0) rfl (nI_inc1 _) (by decide) rfl (fun ls hl => ?_)
            refine lv_goto (tgt := 15) hF.1 hF.2.1 dX6_takeName_64 (by decide) ?_
            exact ih_15 (k + 1) (s1 + 1) ((z <<< ((nI 8).toInt64 &&& 63)) ||| ((f s1).toInt64)) (by omega) (by omega) (by rw [← hR]; exact (scan_t (by omega) (by simp [hx3])).symm) (by rw [← hN]; exact (nmC_s (by rw [← hR]; rw [scan_t (p := noS f) (n := 60) (by omega) (by simp [hx3])]; exact Nat.lt_of_lt_of_le (Nat.lt_succ_self s1) (scan_le _ _).1)).symm) H locs ls hP hD hS (lv_sub hl [0, 1, 2] rfl)
  exact loop_15 _ 0 st (lN 0) (Nat.lt_succ_self _) (by omega) (rfl) (rfl) _ _ _ hP hD hS (lv_sub hl [0, 1, 2] rfl)
