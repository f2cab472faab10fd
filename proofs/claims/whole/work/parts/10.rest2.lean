set_option maxHeartbeats 4000000 in
set_option maxRecDepth 100000 in
theorem c_X1_copy (l : Launch) (G : GG) (sz : Nat) (a : Nat) (b : Nat) (n : Nat) (f : Nat → Int32) (a2 : Nat) (b2 : Nat) (n0 : Nat) (fl : Nat → Int32) (hn : n ≤ 40) (hfl : ∀ j, okC (fl j)) : CtV l G yX1_copy wsX1_copy 1 40 0 0 sz [.ref a, .ref a2] [oC a 1 [.ref b, .int (nI n0)], aC G b 40 f, oC a2 1 [.ref b2, .int (nI n)], aC G b2 40 fl] (fun (_ : Unit) => True) (fun (_ : Unit) => [oC a 1 [.ref b, .int (nI n)], aC G b 40 (va_cpy fl f 0 0 n), oC a2 1 [.ref b2, .int (nI n)], aC G b2 40 fl]) := by
  refine kMet (Qc := fun A => va_Qv _ (Bw G A _) A) (cc := cX1_copy) (nL := 2) (ret := none) (by decide) rfl (Nat.le_of_ble_eq_true rfl) ?_
  intro p e s m args below meth c A Q hF hr hlk hnme hK hP hD hA hS hQ hsz ls hl
  have hl : lv_has ls 2 [(0, .ref a), (1, .ref a2)] := hl
  refine lv_aload_n hF.1 hF.2.1 dX1_copy_0 rfl (lv_at hl 1 rfl) ?_
  refine kGet (C := RX1) (T := TX1) (N := 2) (index := 9) hF hK hP (inT inBX1) 2 rfl rfl 0 (by decide) rfl (List.mem_cons_of_mem _ mF_X1_9) rfl dX1_copy_1 ?_
  refine lv_iconst (v := (nI 0)) hF.1 hF.2.1 dX1_copy_4 (by decide) ?_
  refine lv_aload_n hF.1 hF.2.1 dX1_copy_5 rfl (lv_at hl 0 rfl) ?_
  refine kGet (C := RX1) (T := TX1) (N := 2) (index := 9) hF hK hP (inT inBX1) 0 rfl rfl 0 (by decide) rfl (List.mem_cons_of_mem _ mF_X1_9) rfl dX1_copy_6 ?_
  refine lv_iconst (v := (nI 0)) hF.1 hF.2.1 dX1_copy_9 (by decide) ?_
  refine lv_aload_n hF.1 hF.2.1 dX1_copy_10 rfl (lv_at hl 1 rfl) ?_
  refine kGet (C := RX1) (T := TX1) (N := 2) (index := 15) hF hK hP (inT inBX1) 2 rfl rfl 1 (by decide) rfl (List.mem_cons_of_mem _ mF_X1_15) rfl dX1_copy_11 ?_
  refine kCopyC hF mL_X1_19 hl.1 hK hP hD hS 3 1 rfl rfl (by omega) (by omega) (by omega) (by omega) (by omega) (hfl) (Nat.le_of_ble_eq_true rfl) (Nat.le_of_ble_eq_true rfl) dX1_copy_14 (fun H locs hP hD hS => ?_)
  have hP : PG G [oC a 1 [.ref b, .int (nI n0)], aC G b 40 (va_cpy fl f 0 0 n), oC a2 1 [.ref b2, .int (nI n)], aC G b2 40 fl] H := hP
  have hD : va_D A [oC a 1 [.ref b, .int (nI n0)], aC G b 40 (va_cpy fl f 0 0 n), oC a2 1 [.ref b2, .int (nI n)], aC G b2 40 fl] := hD
  refine lv_aload_n hF.1 hF.2.1 dX1_copy_17 rfl (lv_at hl 0 rfl) ?_
  refine lv_aload_n hF.1 hF.2.1 dX1_copy_18 rfl (lv_at hl 1 rfl) ?_
  refine kGet (C := RX1) (T := TX1) (N := 2) (index := 15) hF hK hP (inT inBX1) 2 rfl rfl 1 (by decide) rfl (List.mem_cons_of_mem _ mF_X1_15) rfl dX1_copy_19 ?_
  refine kPut (C := RX1) (T := TX1) (N := 2) (index := 15) (v := .int (nI n)) hF hK hP hD hS (inT inBX1) tyX1_ok nmX1 0 rfl rfl 1 (by decide) rfl (List.mem_cons_of_mem _ mF_X1_15) rfl rfl rfl (Nat.le_of_ble_eq_true rfl) dX1_copy_22 (fun H locs hP hD hS => ?_)
  have hP : PG G [oC a 1 [.ref b, .int (nI n)], aC G b 40 (va_cpy fl f 0 0 n), oC a2 1 [.ref b2, .int (nI n)], aC G b2 40 fl] H := hP
  have hD : va_D A [oC a 1 [.ref b, .int (nI n)], aC G b 40 (va_cpy fl f 0 0 n), oC a2 1 [.ref b2, .int (nI n)], aC G b2 40 fl] := hD
  refine kRetV hF hr hlk hK hP hD hS hQ () [0, 1, 2, 3] (by decide) rfl (Nat.le_of_ble_eq_true rfl) (Nat.le_of_ble_eq_true rfl) dX1_copy_25 ?_
  exact (by first | rfl | trivial | exact zI_1 (by first | assumption | omega) | exact zI_0 (by first | assumption | omega) | (simp_all; done))
set_option maxHeartbeats 4000000 in
set_option maxRecDepth 100000 in
theorem c_X2_putLineBefore (l : Launch) (G : GG) (sz : Nat) (a : Nat) (b : Nat) (st : Nat) (f : Nat → Int32) (a2 : Nat) (b2 : Nat) (n : Nat) (fl : Nat → Int32) (hs : st ≤ 60) (hn : n ≤ 40) (h0 : 0 < n) (hfl : ∀ j, okC (fl j)) : CtI l G yX2_putLineBefore wsX2_putLineBefore 1 21 0 0 sz [.ref a, .ref a2] [oC a 2 [.ref b, .int (nI st)], aC G b 60 f, oC a2 1 [.ref b2, .int (nI n)], aC G b2 40 fl] (fun r (u : Nat × (Nat → Int32)) => match u with | (s2, f2) => r = (zI (n ≤ st)) ∧ (n ≤ st → s2 = st - n ∧ f2 = va_cpy fl f 0 (st - n) n) ∧ (¬ n ≤ st → s2 = st ∧ f2 = f)) (fun (u : Nat × (Nat → Int32)) => match u with | (s2, f2) => [oC a 2 [.ref b, .int (nI s2)], aC G b 60 f2, oC a2 1 [.ref b2, .int (nI n)], aC G b2 40 fl]) := by
  refine kMet (Qc := fun A => va_Qi _ (Bw G A _) A) (cc := cX2_putLineBefore) (nL := 3) (ret := some (.boolean)) (by decide) rfl (Nat.le_of_ble_eq_true rfl) ?_
  intro p e s m args below meth c A Q hF hr hlk hnme hK hP hD hA hS hQ hsz ls hl
  have hl : lv_has ls 3 [(0, .ref a), (1, .ref a2)] := hl
  refine lv_aload_n hF.1 hF.2.1 dX2_putLineBefore_0 rfl (lv_at hl 1 rfl) ?_
  refine kCallI (wr := [oC a 2 [.ref b, .int (nI st)], aC G b 60 f]) (va_runV (As := []) (rest := []) hF (c_X1_size l G _ a2 b2 n fl) (cwVB 0 hF rfl mL_X2_19 mI_X1_size mS_X1_size mN_X1 mC_X1_size rfl hd_X1_size rfl rfl ⟨Nat.le_of_ble_eq_true rfl, Nat.le_of_ble_eq_true rfl⟩) (kPre hK hP hD [2, 3] (by decide) rfl (q0 := 2) (ci := 1) rfl rfl rfl) rfl rfl hl.1 rfl (lv_room (Nat.le_of_ble_eq_true rfl)) dX2_putLineBefore_1 ⟨Nat.le_of_ble_eq_true rfl, Nat.le_of_ble_eq_true rfl⟩) hP hD hS hA [2, 3] [0, 1] rfl rfl (by decide) (by decide) (fun r u H locs hw_1 hP hD hS => ?_)
  have hw_1 := hw_1.symm
  subst hw_1
  have hP : PG G [oC a 2 [.ref b, .int (nI st)], aC G b 60 f, oC a2 1 [.ref b2, .int (nI n)], aC G b2 40 fl] H := hP
  have hD : va_D A [oC a 2 [.ref b, .int (nI st)], aC G b 60 f, oC a2 1 [.ref b2, .int (nI n)], aC G b2 40 fl] := hD
  refine lv_aload_n hF.1 hF.2.1 dX2_putLineBefore_4 rfl (lv_at hl 0 rfl) ?_
  refine kGet (C := RX2) (T := TX2) (N := 2) (index := 15) hF hK hP (inT inBX2) 0 rfl rfl 1 (by decide) rfl (List.mem_cons_of_mem _ mF_X2_15) rfl dX2_putLineBefore_5 ?_
  refine kLeN (tgt := 13) hF dX2_putLineBefore_8 (by decide) (by omega) (by omega) (fun c_2 => ?_) (fun c_2 => ?_)
  · refine lv_aload_n hF.1 hF.2.1 dX2_putLineBefore_13 rfl (lv_at hl 1 rfl) ?_
    refine kCallI (wr := [oC a 2 [.ref b, .int (nI st)], aC G b 60 f]) (va_runV (As := []) (rest := []) hF (c_X1_size l G H.size a2 b2 n fl) (cwVB 0 hF rfl mL_X2_19 mI_X1_size mS_X1_size mN_X1 mC_X1_size rfl hd_X1_size rfl rfl ⟨Nat.le_of_ble_eq_true rfl, Nat.le_of_ble_eq_true rfl⟩) (kPre hK hP hD [2, 3] (by decide) rfl (q0 := 2) (ci := 1) rfl rfl rfl) rfl rfl hl.1 rfl (lv_room (Nat.le_of_ble_eq_true rfl)) dX2_putLineBefore_14 ⟨Nat.le_of_ble_eq_true rfl, Nat.le_of_ble_eq_true rfl⟩) hP hD hS hA [2, 3] [0, 1] rfl rfl (by decide) (by decide) (fun r u H locs hw_3 hP hD hS => ?_)
    have hw_3 := hw_3.symm
    subst hw_3
    have hP : PG G [oC a 2 [.ref b, .int (nI st)], aC G b 60 f, oC a2 1 [.ref b2, .int (nI n)], aC G b2 40 fl] H := hP
    have hD : va_D A [oC a 2 [.ref b, .int (nI st)], aC G b 60 f, oC a2 1 [.ref b2, .int (nI n)], aC G b2 40 fl] := hD
    refine lv_iconst (v := (nI 1)) hF.1 hF.2.1 dX2_putLineBefore_17 (by decide) ?_
    refine lv_isub hF.1 hF.2.1 dX2_putLineBefore_18 ?_
    refine lv_istore_n (lv' := [(2, .int ((nI n) - (nI 1))), (0, .ref a), (1, .ref a2)]) hF.1 hF.2.1 dX2_putLineBefore_19 rfl hl (by decide) rfl (fun ls hl => ?_)
    have loop_20 : ∀ (n_20 : Nat) (i s1 : Nat) (f1 : Nat → Int32), i < n_20 → (i ≤ n ∧ s1 = st - (n - i)) → (f1 = va_cpy fl f i s1 (n - i)) → ∀ (H : Heap) (locs : List Loc) (ls : Array Slot), PG G [oC a 2 [.ref b, .int (nI s1)], aC G b 60 f1, oC a2 1 [.ref b2, .int (nI n)], aC G b2 40 fl] H → va_D A [oC a 2 [.ref b, .int (nI s1)], aC G b 60 f1, oC a2 1 [.ref b2, .int (nI n)], aC G b2 40 fl] → va_S A s.heap H locs → lv_has ls 3 [(2, .int ((nI i) - (nI 1))), (0, .ref a), (1, .ref a2)] → W p l e (Rm 1 0 0 21) s m args below meth c H locs 0 0 Q (F0 m 20 ls []) := by
      intro n_20
      induction n_20 with
      | zero => intro i s1 f1 hm; exact absurd hm (Nat.not_lt_zero _)
      | succ n_20 ih_20 =>
        intro i s1 f1 hm_20 hi hf1 H locs ls hP hD hS hl
        refine lv_iload_n hF.1 hF.2.1 dX2_putLineBefore_20 rfl (lv_at hl 0 rfl) ?_
        refine lv_if_lt (tgt := 39) hF.1 hF.2.1 dX2_putLineBefore_21 (by decide) (fun c_4 => ?_) (fun c_4 => ?_)
        · have c_4 := (nI_m1lt (by omega)).1 c_4
          refine lv_iconst (v := (nI 1)) hF.1 hF.2.1 dX2_putLineBefore_39 (by decide) ?_
          refine kRetI (v := (nI 1)) hF hr hlk hK hP hD hS hQ rfl (s1, f1) [0, 1, 2, 3] (by decide) rfl (Nat.le_of_ble_eq_true rfl) (Nat.le_of_ble_eq_true rfl) dX2_putLineBefore_40 ?_
          exact ⟨zI_1 (by omega), fun _ => ⟨by omega, by rw [hf1, show i = 0 by omega, show s1 = st - n by omega, Nat.sub_zero]⟩, fun h => absurd (by omega) h⟩
        · have c_4 : ¬ i = 0 := fun h => c_4 ((nI_m1lt (by omega)).2 h)
          rw [pk_sub (by omega)] at hl
          refine lv_aload_n hF.1 hF.2.1 dX2_putLineBefore_24 rfl (lv_at hl 1 rfl) ?_
          refine lv_aload_n hF.1 hF.2.1 dX2_putLineBefore_25 rfl (lv_at hl 2 rfl) ?_
          refine lv_iload_n hF.1 hF.2.1 dX2_putLineBefore_26 rfl (lv_at hl 0 rfl) ?_
          refine kCallI (wr := [oC a 2 [.ref b, .int (nI s1)], aC G b 60 f1]) (va_runV (As := [.int (nI (i - 1))]) (rest := [.ref a]) hF (c_X1_mark l G H.size a2 b2 n fl (i - 1) (by first | assumption | omega) (by first | assumption | omega) (by first | assumption | omega)) (cwVB 1 hF rfl mL_X2_25 mI_X1_mark mS_X1_mark mN_X1 mC_X1_mark rfl hd_X1_mark rfl rfl ⟨Nat.le_of_ble_eq_true rfl, Nat.le_of_ble_eq_true rfl⟩) (kPre hK hP hD [2, 3] (by decide) rfl (q0 := 2) (ci := 1) rfl rfl rfl) rfl rfl hl.1 rfl (lv_room (Nat.le_of_ble_eq_true rfl)) dX2_putLineBefore_27 ⟨Nat.le_of_ble_eq_true rfl, Nat.le_of_ble_eq_true rfl⟩) hP hD hS hA [2, 3] [0, 1] rfl rfl (by decide) (by decide) (fun r u H locs hw_5 hP hD hS => ?_)
          have hw_5 := hw_5.symm
          subst hw_5
          have hP : PG G [oC a 2 [.ref b, .int (nI s1)], aC G b 60 f1, oC a2 1 [.ref b2, .int (nI n)], aC G b2 40 fl] H := hP
          have hD : va_D A [oC a 2 [.ref b, .int (nI s1)], aC G b 60 f1, oC a2 1 [.ref b2, .int (nI n)], aC G b2 40 fl] := hD
          refine kCallV (wr := [oC a2 1 [.ref b2, .int (nI n)], aC G b2 40 fl]) (va_runV (As := [.int (fl (i - 1))]) (rest := []) hF (c_X2_putBefore l G H.size a b s1 f1 (fl (i - 1)) (by first | assumption | omega) (by first | assumption | omega) (hfl _)) (cwVB 1 hF rfl mL_X2_29 mI_X2_putBefore mS_X2_putBefore mN_X2 mC_X2_putBefore rfl hd_X2_putBefore rfl rfl ⟨Nat.le_of_ble_eq_true rfl, Nat.le_of_ble_eq_true rfl⟩) (kPre hK hP hD [0, 1] (by decide) rfl (q0 := 0) (ci := 2) rfl rfl rfl) rfl rfl hl.1 rfl (lv_room (Nat.le_of_ble_eq_true rfl)) dX2_putLineBefore_30 ⟨Nat.le_of_ble_eq_true rfl, Nat.le_of_ble_eq_true rfl⟩) hP hD hS hA [0, 1] [2, 3] rfl rfl (by decide) (by decide) (fun u H locs hw_6 hP hD hS => ?_)
          have hP : PG G [oC a 2 [.ref b, .int (nI (s1 - 1))], aC G b 60 (upd f1 (s1 - 1) (fl (i - 1))), oC a2 1 [.ref b2, .int (nI n)], aC G b2 40 fl] H := va_P.sub hP [2, 3, 0, 1] rfl
          have hD : va_D A [oC a 2 [.ref b, .int (nI (s1 - 1))], aC G b 60 (upd f1 (s1 - 1) (fl (i - 1))), oC a2 1 [.ref b2, .int (nI n)], aC G b2 40 fl] := va_D.sub hD [2, 3, 0, 1] (by decide) rfl
          refine lv_iinc (v := ((nI (i - 1)) - (nI 1))) (lv' := [(2, .int ((nI (i - 1)) - (nI 1))), (0, .ref a), (1, .ref a2)]) hF.1 hF.2.1 dX2_putLineBefore_33 hl (k := 0) rfl (nI_m1s _) (by decide) rfl (fun ls hl => ?_)
          refine lv_goto (tgt := 20) hF.1 hF.2.1 dX2_putLineBefore_36 (by decide) ?_
          exact ih_20 (i - 1) (s1 - 1) (upd f1 (s1 - 1) (fl (i - 1))) (by omega) (by omega) (by rw [hf1]; have := cpy_s (fl := fl) (f := f) (n := n) (st := st) (i := n - i) (by omega) (by omega); rw [show n - (n - i) = i by omega, show st - (n - i) = s1 by omega] at this; rw [this, show n - (i - 1) = n - i + 1 by omega]) H locs ls hP hD hS (lv_sub hl [0, 1, 2] rfl)
    exact loop_20 _ n st f (Nat.lt_succ_self _) (by omega) (by rw [Nat.sub_self]; funext j; unfold va_cpy; rw [if_neg (by omega)]) _ _ _ hP hD hS (lv_sub hl [0, 1, 2] rfl)
  · refine lv_iconst (v := (nI 0)) hF.1 hF.2.1 dX2_putLineBefore_11 (by decide) ?_
    refine kRetI (v := (nI 0)) hF hr hlk hK hP hD hS hQ rfl (st, f) [0, 1, 2, 3] (by decide) rfl (Nat.le_of_ble_eq_true rfl) (Nat.le_of_ble_eq_true rfl) dX2_putLineBefore_12 ?_
    exact ⟨zI_0 (by omega), fun h => absurd h (by omega), fun _ => ⟨rfl, rfl⟩⟩
set_option maxHeartbeats 4000000 in
set_option maxRecDepth 100000 in
theorem c_X2_putNameBefore (l : Launch) (G : GG) (sz : Nat) (a : Nat) (b : Nat) (st : Nat) (f : Nat → Int32) (nm : Int64) (hs : 7 ≤ st ∧ st ≤ 60) : CtV l G yX2_putNameBefore wsX2_putNameBefore 1 21 0 0 sz [.ref a, .long nm] [oC a 2 [.ref b, .int (nI st)], aC G b 60 f] (fun (_ : Unit) => True) (fun (_ : Unit) => [oC a 2 [.ref b, .int (nI ((pnb 6 nm st f).1 - 1))], aC G b 60 (upd (pnb 6 nm st f).2 ((pnb 6 nm st f).1 - 1) (nI 47))]) := by
  refine kMet (Qc := fun A => va_Qv _ (Bw G A _) A) (cc := cX2_putNameBefore) (nL := 6) (ret := none) (by decide) rfl (Nat.le_of_ble_eq_true rfl) ?_
  intro p e s m args below meth c A Q hF hr hlk hnme hK hP hD hA hS hQ hsz ls hl
  have hl : lv_has ls 6 [(0, .ref a), (1, .long nm)] := hl
  refine lv_lload_n hF.1 hF.2.1 dX2_putNameBefore_0 rfl (lv_at hl 1 rfl) ?_
  refine lv_lstore_n (lv' := [(3, .long nm), (0, .ref a), (1, .long nm)]) hF.1 hF.2.1 dX2_putNameBefore_1 rfl hl (by decide) rfl (fun ls hl => ?_)
  refine lv_iconst (v := (nI 0)) hF.1 hF.2.1 dX2_putNameBefore_2 (by decide) ?_
  refine lv_istore (lv' := [(5, .int (nI 0)), (3, .long nm), (0, .ref a), (1, .long nm)]) hF.1 hF.2.1 dX2_putNameBefore_3 hl (by decide) rfl (fun ls hl => ?_)
  have loop_5 : ∀ (n_5 : Nat) (k : Nat) (z : Int64) (s1 : Nat) (f1 : Nat → Int32), 6 - k < n_5 → (k ≤ 6 ∧ 7 - k ≤ s1 ∧ s1 ≤ 60) → (pnb (6 - k) z s1 f1 = pnb 6 nm st f) → ∀ (H : Heap) (locs : List Loc) (ls : Array Slot), PG G [oC a 2 [.ref b, .int (nI s1)], aC G b 60 f1] H → va_D A [oC a 2 [.ref b, .int (nI s1)], aC G b 60 f1] → va_S A s.heap H locs → lv_has ls 6 [(5, .int (nI k)), (3, .long z), (0, .ref a), (1, .long nm)] → W p l e (Rm 1 0 0 21) s m args below meth c H locs 0 0 Q (F0 m 5 ls []) := by
    intro n_5
    induction n_5 with
    | zero => intro k z s1 f1 hm; exact absurd hm (Nat.not_lt_zero _)
    | succ n_5 ih_5 =>
      intro k z s1 f1 hm_5 hk hR H locs ls hP hD hS hl
      refine lv_iload hF.1 hF.2.1 dX2_putNameBefore_5 (lv_at hl 0 rfl) ?_
      refine lv_bipush (v := (nI 6)) hF.1 hF.2.1 dX2_putNameBefore_7 (by decide) ?_
      refine kGeN (tgt := 40) hF dX2_putNameBefore_9 (by decide) (by omega) (by omega) (fun c_1 => ?_) (fun c_1 => ?_)
      · have hE : pnb 6 nm st f = (s1, f1) := by rw [← hR]; first | exact pnb_0 (by assumption) | exact pnb_e (by omega)
        have hb := pnb_in 6 nm st f (by omega)
        rw [show s1 = (pnb 6 nm st f).1 from by rw [hE], show f1 = (pnb 6 nm st f).2 from by rw [hE]] at hP hD
        refine lv_aload_n hF.1 hF.2.1 dX2_putNameBefore_40 rfl (lv_at hl 2 rfl) ?_
        refine lv_bipush (v := (nI 47)) hF.1 hF.2.1 dX2_putNameBefore_41 (by decide) ?_
        refine kCallV (wr := []) (va_runV (As := [.int (nI 47)]) (rest := []) hF (c_X2_putBefore l G _ a b ((pnb 6 nm st f).1) ((pnb 6 nm st f).2) (nI 47) (by first | assumption | omega) (by first | assumption | omega) (by first | exact okC_char _ | exact okC_n (by decide))) (cwVB 1 hF rfl mL_X2_29 mI_X2_putBefore mS_X2_putBefore mN_X2 mC_X2_putBefore rfl hd_X2_putBefore rfl rfl ⟨Nat.le_of_ble_eq_true rfl, Nat.le_of_ble_eq_true rfl⟩) (kPre hK hP hD [0, 1] (by decide) rfl (q0 := 0) (ci := 2) rfl rfl rfl) rfl rfl hl.1 rfl (lv_room (Nat.le_of_ble_eq_true rfl)) dX2_putNameBefore_43 ⟨Nat.le_of_ble_eq_true rfl, Nat.le_of_ble_eq_true rfl⟩) hP hD hS hA [0, 1] [] rfl rfl (by decide) (by decide) (fun u H locs hw_2 hP hD hS => ?_)
        have hP : PG G [oC a 2 [.ref b, .int (nI (((pnb 6 nm st f).1) - 1))], aC G b 60 (upd ((pnb 6 nm st f).2) (((pnb 6 nm st f).1) - 1) (nI 47))] H := hP
        have hD : va_D A [oC a 2 [.ref b, .int (nI (((pnb 6 nm st f).1) - 1))], aC G b 60 (upd ((pnb 6 nm st f).2) (((pnb 6 nm st f).1) - 1) (nI 47))] := hD
        refine kRetV hF hr hlk hK hP hD hS hQ () [0, 1] (by decide) rfl (Nat.le_of_ble_eq_true rfl) (Nat.le_of_ble_eq_true rfl) dX2_putNameBefore_46 ?_
        trivial
      · refine lv_lload_n hF.1 hF.2.1 dX2_putNameBefore_12 rfl (lv_at hl 1 rfl) ?_
        refine lv_lconst (v := lN 0) hF.1 hF.2.1 dX2_putNameBefore_13 (by decide) ?_
        refine W.lcmp hF.1 hF.2.1 dX2_putNameBefore_14 ?_
        refine kIfEqC (tgt := 40) hF dX2_putNameBefore_15 (by decide) (fun c_3 => ?_) (fun c_3 => ?_)
        · have hE : pnb 6 nm st f = (s1, f1) := by rw [← hR]; first | exact pnb_0 (by assumption) | exact pnb_e (by omega)
          have hb := pnb_in 6 nm st f (by omega)
          rw [show s1 = (pnb 6 nm st f).1 from by rw [hE], show f1 = (pnb 6 nm st f).2 from by rw [hE]] at hP hD
          refine lv_aload_n hF.1 hF.2.1 dX2_putNameBefore_40 rfl (lv_at hl 2 rfl) ?_
          refine lv_bipush (v := (nI 47)) hF.1 hF.2.1 dX2_putNameBefore_41 (by decide) ?_
          refine kCallV (wr := []) (va_runV (As := [.int (nI 47)]) (rest := []) hF (c_X2_putBefore l G _ a b ((pnb 6 nm st f).1) ((pnb 6 nm st f).2) (nI 47) (by first | assumption | omega) (by first | assumption | omega) (by first | exact okC_char _ | exact okC_n (by decide))) (cwVB 1 hF rfl mL_X2_29 mI_X2_putBefore mS_X2_putBefore mN_X2 mC_X2_putBefore rfl hd_X2_putBefore rfl rfl ⟨Nat.le_of_ble_eq_true rfl, Nat.le_of_ble_eq_true rfl⟩) (kPre hK hP hD [0, 1] (by decide) rfl (q0 := 0) (ci := 2) rfl rfl rfl) rfl rfl hl.1 rfl (lv_room (Nat.le_of_ble_eq_true rfl)) dX2_putNameBefore_43 ⟨Nat.le_of_ble_eq_true rfl, Nat.le_of_ble_eq_true rfl⟩) hP hD hS hA [0, 1] [] rfl rfl (by decide) (by decide) (fun u H locs hw_4 hP hD hS => ?_)
          have hP : PG G [oC a 2 [.ref b, .int (nI (((pnb 6 nm st f).1) - 1))], aC G b 60 (upd ((pnb 6 nm st f).2) (((pnb 6 nm st f).1) - 1) (nI 47))] H := hP
          have hD : va_D A [oC a 2 [.ref b, .int (nI (((pnb 6 nm st f).1) - 1))], aC G b 60 (upd ((pnb 6 nm st f).2) (((pnb 6 nm st f).1) - 1) (nI 47))] := hD
          refine kRetV hF hr hlk hK hP hD hS hQ () [0, 1] (by decide) rfl (Nat.le_of_ble_eq_true rfl) (Nat.le_of_ble_eq_true rfl) dX2_putNameBefore_46 ?_
          trivial
        · refine lv_aload_n hF.1 hF.2.1 dX2_putNameBefore_18 rfl (lv_at hl 2 rfl) ?_
          refine lv_lload_n hF.1 hF.2.1 dX2_putNameBefore_19 rfl (lv_at hl 1 rfl) ?_
          refine lv_ldc2 (v := lN 255) hF.1 hF.2.1 hF.2.2.2.1 (hF.2.2.2.2 _ (List.mem_cons_of_mem _ mG_X2_33)) dX2_putNameBefore_20 ?_
          refine lv_land hF.1 hF.2.1 dX2_putNameBefore_23 ?_
          refine lv_l2i hF.1 hF.2.1 dX2_putNameBefore_24 rfl ?_
          refine lv_i2c hF.1 hF.2.1 dX2_putNameBefore_25 rfl ?_
          refine kCallV (wr := []) (va_runV (As := [.int ((((z &&& (lN 255)).toInt32).toUInt32 % 65536).toInt32)]) (rest := []) hF (c_X2_putBefore l G _ a b s1 f1 ((((z &&& (lN 255)).toInt32).toUInt32 % 65536).toInt32) (by first | assumption | omega) (by first | assumption | omega) (by first | exact okC_char _ | exact okC_n (by decide))) (cwVB 1 hF rfl mL_X2_29 mI_X2_putBefore mS_X2_putBefore mN_X2 mC_X2_putBefore rfl hd_X2_putBefore rfl rfl ⟨Nat.le_of_ble_eq_true rfl, Nat.le_of_ble_eq_true rfl⟩) (kPre hK hP hD [0, 1] (by decide) rfl (q0 := 0) (ci := 2) rfl rfl rfl) rfl rfl hl.1 rfl (lv_room (Nat.le_of_ble_eq_true rfl)) dX2_putNameBefore_26 ⟨Nat.le_of_ble_eq_true rfl, Nat.le_of_ble_eq_true rfl⟩) hP hD hS hA [0, 1] [] rfl rfl (by decide) (by decide) (fun u H locs hw_5 hP hD hS => ?_)
          have hP : PG G [oC a 2 [.ref b, .int (nI (s1 - 1))], aC G b 60 (upd f1 (s1 - 1) ((((z &&& (lN 255)).toInt32).toUInt32 % 65536).toInt32))] H := hP
          have hD : va_D A [oC a 2 [.ref b, .int (nI (s1 - 1))], aC G b 60 (upd f1 (s1 - 1) ((((z &&& (lN 255)).toInt32).toUInt32 % 65536).toInt32))] := hD
          refine lv_lload_n hF.1 hF.2.1 dX2_putNameBefore_29 rfl (lv_at hl 1 rfl) ?_
          refine lv_bipush (v := (nI 8)) hF.1 hF.2.1 dX2_putNameBefore_30 (by decide) ?_
          refine lv_lushr hF.1 hF.2.1 dX2_putNameBefore_32 rfl ?_
          refine lv_lstore_n (lv' := [(3, .long ((z.toUInt64 >>> ((nI 8).toInt64.toUInt64 &&& Int64.toUInt64 63)).toInt64)), (5, .int (nI k)), (0, .ref a), (1, .long nm)]) hF.1 hF.2.1 dX2_putNameBefore_33 rfl hl (by decide) rfl (fun ls hl => ?_)
          refine lv_iinc (v := (nI (k + 1))) (lv' := [(5, .int (nI (k + 1))), (3, .long ((z.toUInt64 >>> ((nI 8).toInt64.toUInt64 &&& Int64.toUInt64 63)).toInt64)), (0, .ref a), (1, .long nm)]) hF.1 hF.2.1 dX2_putNameBefore_34 hl (k := 1) rfl (nI_inc1 _) (by decide) rfl (fun ls hl => ?_)
          refine lv_goto (tgt := 5) hF.1 hF.2.1 dX2_putNameBefore_37 (by decide) ?_
          exact ih_5 (k + 1) ((z.toUInt64 >>> ((nI 8).toInt64.toUInt64 &&& Int64.toUInt64 63)).toInt64) (s1 - 1) (upd f1 (s1 - 1) ((((z &&& (lN 255)).toInt32).toUInt32 % 65536).toInt32)) (by omega) (by omega) (by rw [← hR]; exact (pnb_s (by omega) (by assumption)).symm) H locs ls hP hD hS (lv_sub hl [0, 1, 2, 3] rfl)
  exact loop_5 _ 0 nm st f (Nat.lt_succ_self _) (by omega) (rfl) _ _ _ hP hD hS (lv_sub hl [0, 1, 2, 3] rfl)
