set_option maxHeartbeats 4000000 in
set_option maxRecDepth 100000 in
theorem c_X8_newName (l : Launch) (G : GG) (sz : Nat) (x : Nat) (ak : Nat) (am : Nat) (ao : Nat) (av : Nat) (ap : Nat) (ax : Nat) (ay : Nat) (ad : Nat) (an : Nat) (ab : Nat) (ar : Nat) (ac : Nat) (at_ : Nat) (as_ : Nat) (aq : Nat) (ec : Nat) (vn : Nat) (tn : Nat) (sn : Nat) (qn : Nat) (hp : Nat) (ns : Nat) (us : Int32) (ro : Int32) (pr : Int32) (wa : Int32) (nm : Int64) (la : Prop) (sl : Prop) (kF : Nat → Int32) (mF : Nat → Int32) (oF : Nat → Int32) (pF : Nat → Int32) (xF : Nat → Int32) (LN : Nat → Nat) (dF : Nat → Int32) (nF : Nat → Int64) (bF : Nat → Int32) (rF : Nat → Int32) (cF : Nat → Int32) (tF : Nat → Int32) (qF : Nat → Int32) (ms : Int32) (hvn : 1 ≤ vn ∧ vn ≤ 4) (hcr : ∀ v, v < 4 → cF v = -1 ∨ vp_in (cF v) 40) (hrr : ∀ v, v < 4 → vp_in (rF v) 40) (hpr : ∀ i, i < 40 → vp_in (pF i) 40) (hbr : ∀ k, k < ec → vp_in (bF k) 40) (hro : vp_in ro 40) (hec : ec ≤ 80) (hLN : ∀ i, i < 40 → LN i ≤ 40) (hn : tn ≤ 40) (hpp : vp_in pr 40) : CtI l G yX8_newName wsX8_newName 5 113 0 0 sz [.ref x, .int ms] [oC x 8 [.ref ak, .ref am, .ref ao, .ref av, .ref ap, .ref ax, .ref ay, .int (nI ec), .ref ad, .ref an, .ref ab, .int (nI vn), .ref ar, .ref ac, .int us, .int ro, .int pr, .ref at_, .int (nI tn), .ref as_, .int (nI sn), .ref aq, .int (nI qn), .int wa, .int (nI hp), .long nm, .int (nI ns), .int (zI la), .int (zI sl)], aI G ak 40 kF, aI G am 40 mF, aI G ao 40 oF, aI G ap 40 pF, aI G ax 1600 xF, aI G ay 40 (fun lv => nI (LN lv)), aI G ad 80 dF, aJ G an 80 nF, aI G ab 80 bF, aI G ar 4 rF, aI G ac 4 cF, aI G at_ 40 tF, aI G aq 100 qF] (fun r (u : Int32 × Nat × (Nat → Int32) × Int32 × Nat × Int64 × Nat × Prop × Prop) => match u with | (r0, s2, q2, a1, h2, z2, n2, l2, e2) => r = r0 ∧ r0 = nnR kF mF oF pF rF cF xF vn dF nF bF ec LN us ro pr qF tn tF ms ∧ (r0 = nI 0 → 0 < tn ∧ cmT kF mF oF pF rF cF xF vn dF nF bF ec LN us ro pr qF tn tF = (nI 0, a1, z2, e2) ∧ vp_in a1 40)) (fun (u : Int32 × Nat × (Nat → Int32) × Int32 × Nat × Int64 × Nat × Prop × Prop) => match u with | (r0, s2, q2, a1, h2, z2, n2, l2, e2) => [oC x 8 [.ref ak, .ref am, .ref ao, .ref av, .ref ap, .ref ax, .ref ay, .int (nI ec), .ref ad, .ref an, .ref ab, .int (nI vn), .ref ar, .ref ac, .int us, .int ro, .int pr, .ref at_, .int (nI tn), .ref as_, .int (nI sn), .ref aq, .int (nI s2), .int a1, .int (nI h2), .long z2, .int (nI n2), .int (zI l2), .int (zI e2)], aI G ak 40 kF, aI G am 40 mF, aI G ao 40 oF, aI G ap 40 pF, aI G ax 1600 xF, aI G ay 40 (fun lv => nI (LN lv)), aI G ad 80 dF, aJ G an 80 nF, aI G ab 80 bF, aI G ar 4 rF, aI G ac 4 cF, aI G at_ 40 tF, aI G aq 100 q2]) := by
  refine kMet (Qc := fun A => va_Qi _ (Bw G A _) A) (cc := cX8_newName) (nL := 3) (ret := some (.int)) (by decide) rfl (Nat.le_of_ble_eq_true rfl) ?_
  intro p e s m args below meth c A Q hF hr hlk hnme hK hP hD hA hS hQ hsz ls hl
  have hl : lv_has ls 3 [(0, .ref x), (1, .int ms)] := hl
  refine lv_aload_n hF.1 hF.2.1 dX8_newName_0 rfl (lv_at hl 0 rfl) ?_
  refine kGet (C := RX8) (T := TX8) (N := 29) (index := 60) hF hK hP (inT inBX8) 0 rfl rfl 18 (by decide) rfl (List.mem_cons_of_mem _ mF_X8_60) rfl dX8_newName_1 ?_
  refine kIfNeN (tgt := 9) hF dX8_newName_4 (by decide) (by omega) (fun c_1 => ?_) (fun c_1 => ?_)
  · refine lv_aload_n hF.1 hF.2.1 dX8_newName_9 rfl (lv_at hl 0 rfl) ?_
    refine kCallI (wr := [aI G ak 40 kF, aI G am 40 mF, aI G ao 40 oF, aI G ap 40 pF, aI G ax 1600 xF, aI G ay 40 (fun lv => nI (LN lv)), aI G ad 80 dF, aJ G an 80 nF, aI G ab 80 bF, aI G ar 4 rF, aI G ac 4 cF, aI G aq 100 qF]) (va_runV (As := []) (rest := []) hF (c_X8_slashesAlone l G _ x ak am ao av ap ax ay ad an ab ar ac at_ as_ aq ec vn tn sn qn hp ns us ro pr wa nm la sl tF (by first | assumption | omega)) (cwVB 0 hF rfl mL_X8_161 mI_X8_slashesAlone mS_X8_slashesAlone mN_X8 mC_X8_slashesAlone rfl hd_X8_slashesAlone rfl rfl ⟨Nat.le_of_ble_eq_true rfl, Nat.le_of_ble_eq_true rfl⟩) (kPre hK hP hD [0, 12] (by decide) rfl (q0 := 0) (ci := 8) rfl rfl rfl) rfl rfl hl.1 rfl (lv_room (Nat.le_of_ble_eq_true rfl)) dX8_newName_10 ⟨Nat.le_of_ble_eq_true rfl, Nat.le_of_ble_eq_true rfl⟩) hP hD hS hA [0, 12] [1, 2, 3, 4, 5, 6, 7, 8, 9, 10, 11, 13] rfl rfl (by decide) (by decide) (fun r u H locs hw_2 hP hD hS => ?_)
    have hw_2 := hw_2.symm
    subst hw_2
    have hP : PG G [oC x 8 [.ref ak, .ref am, .ref ao, .ref av, .ref ap, .ref ax, .ref ay, .int (nI ec), .ref ad, .ref an, .ref ab, .int (nI vn), .ref ar, .ref ac, .int us, .int ro, .int pr, .ref at_, .int (nI tn), .ref as_, .int (nI sn), .ref aq, .int (nI qn), .int wa, .int (nI hp), .long nm, .int (nI ns), .int (zI la), .int (zI sl)], aI G ak 40 kF, aI G am 40 mF, aI G ao 40 oF, aI G ap 40 pF, aI G ax 1600 xF, aI G ay 40 (fun lv => nI (LN lv)), aI G ad 80 dF, aJ G an 80 nF, aI G ab 80 bF, aI G ar 4 rF, aI G ac 4 cF, aI G at_ 40 tF, aI G aq 100 qF] H := va_P.sub hP [12, 0, 1, 2, 3, 4, 5, 6, 7, 8, 9, 10, 13, 11] rfl
    have hD : va_D A [oC x 8 [.ref ak, .ref am, .ref ao, .ref av, .ref ap, .ref ax, .ref ay, .int (nI ec), .ref ad, .ref an, .ref ab, .int (nI vn), .ref ar, .ref ac, .int us, .int ro, .int pr, .ref at_, .int (nI tn), .ref as_, .int (nI sn), .ref aq, .int (nI qn), .int wa, .int (nI hp), .long nm, .int (nI ns), .int (zI la), .int (zI sl)], aI G ak 40 kF, aI G am 40 mF, aI G ao 40 oF, aI G ap 40 pF, aI G ax 1600 xF, aI G ay 40 (fun lv => nI (LN lv)), aI G ad 80 dF, aJ G an 80 nF, aI G ab 80 bF, aI G ar 4 rF, aI G ac 4 cF, aI G at_ 40 tF, aI G aq 100 qF] := va_D.sub hD [12, 0, 1, 2, 3, 4, 5, 6, 7, 8, 9, 10, 13, 11] (by decide) rfl
    refine kIfEqZ (tgt := 19) hF dX8_newName_13 (by decide) (fun c_3 => ?_) (fun c_3 => ?_)
    · refine lv_aload_n hF.1 hF.2.1 dX8_newName_19 rfl (lv_at hl 0 rfl) ?_
      refine kCallI (wr := []) (va_runV (As := []) (rest := []) hF (c_X8_come l G H.size x ak am ao av ap ax ay ad an ab ar ac at_ as_ aq ec vn tn sn qn hp ns us ro pr wa nm la sl kF mF oF pF xF LN dF nF bF rF cF tF qF (by first | assumption | omega) (by first | assumption | omega) (by first | assumption | omega) (by first | assumption | omega) (by first | assumption | omega) (by first | assumption | omega) (by first | assumption | omega) (by first | assumption | omega) (by first | assumption | omega) (by first | assumption | omega) (ns_of (by omega) (by assumption))) (cwVB 0 hF rfl mL_X8_165 mI_X8_come mS_X8_come mN_X8 mC_X8_come rfl hd_X8_come rfl rfl ⟨Nat.le_of_ble_eq_true rfl, Nat.le_of_ble_eq_true rfl⟩) (kPre hK hP hD [0, 1, 2, 3, 4, 5, 6, 7, 8, 9, 10, 11, 12, 13] (by decide) rfl (q0 := 0) (ci := 8) rfl rfl rfl) rfl rfl hl.1 rfl (lv_room (Nat.le_of_ble_eq_true rfl)) dX8_newName_20 ⟨Nat.le_of_ble_eq_true rfl, Nat.le_of_ble_eq_true rfl⟩) hP hD hS hA [0, 1, 2, 3, 4, 5, 6, 7, 8, 9, 10, 11, 12, 13] [] rfl rfl (by decide) (by decide) (fun r u H locs hw_13 hP hD hS => ?_)
      obtain ⟨r0_4, s2_5, q2_6, a1_7, h2_8, z2_9, n2_10, l2_11, e2_12⟩ := u
      obtain ⟨hz, hw_13⟩ := hw_13
      have hz := hz.symm
      subst hz
      have hP : PG G [oC x 8 [.ref ak, .ref am, .ref ao, .ref av, .ref ap, .ref ax, .ref ay, .int (nI ec), .ref ad, .ref an, .ref ab, .int (nI vn), .ref ar, .ref ac, .int us, .int ro, .int pr, .ref at_, .int (nI tn), .ref as_, .int (nI sn), .ref aq, .int (nI s2_5), .int a1_7, .int (nI h2_8), .long z2_9, .int (nI n2_10), .int (zI l2_11), .int (zI e2_12)], aI G ak 40 kF, aI G am 40 mF, aI G ao 40 oF, aI G ap 40 pF, aI G ax 1600 xF, aI G ay 40 (fun lv => nI (LN lv)), aI G ad 80 dF, aJ G an 80 nF, aI G ab 80 bF, aI G ar 4 rF, aI G ac 4 cF, aI G at_ 40 tF, aI G aq 100 q2_6] H := hP
      have hD : va_D A [oC x 8 [.ref ak, .ref am, .ref ao, .ref av, .ref ap, .ref ax, .ref ay, .int (nI ec), .ref ad, .ref an, .ref ab, .int (nI vn), .ref ar, .ref ac, .int us, .int ro, .int pr, .ref at_, .int (nI tn), .ref as_, .int (nI sn), .ref aq, .int (nI s2_5), .int a1_7, .int (nI h2_8), .long z2_9, .int (nI n2_10), .int (zI l2_11), .int (zI e2_12)], aI G ak 40 kF, aI G am 40 mF, aI G ao 40 oF, aI G ap 40 pF, aI G ax 1600 xF, aI G ay 40 (fun lv => nI (LN lv)), aI G ad 80 dF, aJ G an 80 nF, aI G ab 80 bF, aI G ar 4 rF, aI G ac 4 cF, aI G at_ 40 tF, aI G aq 100 q2_6] := hD
      have hT := hw_13
      refine lv_istore_n (lv' := [(2, .int r0_4), (0, .ref x), (1, .int ms)]) hF.1 hF.2.1 dX8_newName_23 rfl hl (by decide) rfl (fun ls hl => ?_)
      refine lv_iload_n hF.1 hF.2.1 dX8_newName_24 rfl (lv_at hl 0 rfl) ?_
      refine lv_if_eq (tgt := 30) hF.1 hF.2.1 dX8_newName_25 (by decide) (fun c_14 => ?_) (fun c_14 => ?_)
      · have hE := (hT.2 c_14).1
        have hV := (hT.2 c_14).2
        refine lv_aload_n hF.1 hF.2.1 dX8_newName_30 rfl (lv_at hl 1 rfl) ?_
        refine kCallI (wr := [aI G ak 40 kF, aI G am 40 mF, aI G ao 40 oF, aI G ap 40 pF, aI G ax 1600 xF, aI G ay 40 (fun lv => nI (LN lv)), aI G ad 80 dF, aJ G an 80 nF, aI G ab 80 bF, aI G ar 4 rF, aI G ac 4 cF, aI G at_ 40 tF, aI G aq 100 q2_6]) (va_runV (As := []) (rest := []) hF (c_X8_dots l G H.size x ak am ao av ap ax ay ad an ab ar ac at_ as_ aq ec vn tn sn s2_5 h2_8 n2_10 us ro pr a1_7 z2_9 l2_11 e2_12) (cwVB 0 hF rfl mL_X8_168 mI_X8_dots mS_X8_dots mN_X8 mC_X8_dots rfl hd_X8_dots rfl rfl ⟨Nat.le_of_ble_eq_true rfl, Nat.le_of_ble_eq_true rfl⟩) (kPre hK hP hD [0] (by decide) rfl (q0 := 0) (ci := 8) rfl rfl rfl) rfl rfl hl.1 rfl (lv_room (Nat.le_of_ble_eq_true rfl)) dX8_newName_31 ⟨Nat.le_of_ble_eq_true rfl, Nat.le_of_ble_eq_true rfl⟩) hP hD hS hA [0] [1, 2, 3, 4, 5, 6, 7, 8, 9, 10, 11, 12, 13] rfl rfl (by decide) (by decide) (fun r u H locs hw_15 hP hD hS => ?_)
        have hw_15 := hw_15.symm
        subst hw_15
        have hP : PG G [oC x 8 [.ref ak, .ref am, .ref ao, .ref av, .ref ap, .ref ax, .ref ay, .int (nI ec), .ref ad, .ref an, .ref ab, .int (nI vn), .ref ar, .ref ac, .int us, .int ro, .int pr, .ref at_, .int (nI tn), .ref as_, .int (nI sn), .ref aq, .int (nI s2_5), .int a1_7, .int (nI h2_8), .long z2_9, .int (nI n2_10), .int (zI l2_11), .int (zI e2_12)], aI G ak 40 kF, aI G am 40 mF, aI G ao 40 oF, aI G ap 40 pF, aI G ax 1600 xF, aI G ay 40 (fun lv => nI (LN lv)), aI G ad 80 dF, aJ G an 80 nF, aI G ab 80 bF, aI G ar 4 rF, aI G ac 4 cF, aI G at_ 40 tF, aI G aq 100 q2_6] H := va_P.sub hP [13, 0, 1, 2, 3, 4, 5, 6, 7, 8, 9, 10, 11, 12] rfl
        have hD : va_D A [oC x 8 [.ref ak, .ref am, .ref ao, .ref av, .ref ap, .ref ax, .ref ay, .int (nI ec), .ref ad, .ref an, .ref ab, .int (nI vn), .ref ar, .ref ac, .int us, .int ro, .int pr, .ref at_, .int (nI tn), .ref as_, .int (nI sn), .ref aq, .int (nI s2_5), .int a1_7, .int (nI h2_8), .long z2_9, .int (nI n2_10), .int (zI l2_11), .int (zI e2_12)], aI G ak 40 kF, aI G am 40 mF, aI G ao 40 oF, aI G ap 40 pF, aI G ax 1600 xF, aI G ay 40 (fun lv => nI (LN lv)), aI G ad 80 dF, aJ G an 80 nF, aI G ab 80 bF, aI G ar 4 rF, aI G ac 4 cF, aI G at_ 40 tF, aI G aq 100 q2_6] := va_D.sub hD [13, 0, 1, 2, 3, 4, 5, 6, 7, 8, 9, 10, 11, 12] (by decide) rfl
        refine kIfNeZ (tgt := 52) hF dX8_newName_34 (by decide) (fun c_16 => ?_) (fun c_16 => ?_)
        · refine lv_bipush (v := (-6)) hF.1 hF.2.1 dX8_newName_52 (by decide) ?_
          refine kRetI (v := (-6)) hF hr hlk hK hP hD hS hQ rfl ((-6), s2_5, q2_6, a1_7, h2_8, z2_9, n2_10, l2_11, e2_12) [0, 1, 2, 3, 4, 5, 6, 7, 8, 9, 10, 11, 12, 13] (by decide) rfl (Nat.le_of_ble_eq_true rfl) (Nat.le_of_ble_eq_true rfl) dX8_newName_54 ?_
          refine ⟨rfl, ?_, fun h => absurd h (by decide)⟩
          rw [nnR, if_neg (by omega), pI_f (by assumption), hE, if_pos rfl]
          dsimp only
          rw [pI_t (Or.inl c_16)]
        · refine lv_aload_n hF.1 hF.2.1 dX8_newName_37 rfl (lv_at hl 1 rfl) ?_
          refine lv_aload_n hF.1 hF.2.1 dX8_newName_38 rfl (lv_at hl 1 rfl) ?_
          refine kGet (C := RX8) (T := TX8) (N := 29) (index := 114) hF hK hP (inT inBX8) 0 rfl rfl 23 (by decide) rfl (List.mem_cons_of_mem _ mF_X8_114) rfl dX8_newName_39 ?_
          refine lv_aload_n hF.1 hF.2.1 dX8_newName_42 rfl (lv_at hl 1 rfl) ?_
          refine kGet (C := RX8) (T := TX8) (N := 29) (index := 92) hF hK hP (inT inBX8) 0 rfl rfl 25 (by decide) rfl (List.mem_cons_of_mem _ mF_X8_92) rfl dX8_newName_43 ?_
          refine kCallI (wr := [aI G ak 40 kF, aI G am 40 mF, aI G ao 40 oF, aI G ap 40 pF, aI G ax 1600 xF, aI G ay 40 (fun lv => nI (LN lv)), aI G ab 80 bF, aI G ar 4 rF, aI G ac 4 cF, aI G at_ 40 tF, aI G aq 100 q2_6]) (va_runV (As := [.int a1_7, .long z2_9]) (rest := []) hF (c_X8_find l G H.size x ak am ao av ap ax ay ad an ab ar ac at_ as_ aq ec vn tn sn s2_5 h2_8 n2_10 us ro pr a1_7 z2_9 l2_11 e2_12 dF nF a1_7 z2_9 (by first | assumption | omega)) (cwVB 2 hF rfl mL_X8_132 mI_X8_find mS_X8_find mN_X8 mC_X8_find rfl hd_X8_find rfl rfl ⟨Nat.le_of_ble_eq_true rfl, Nat.le_of_ble_eq_true rfl⟩) (kPre hK hP hD [0, 7, 8] (by decide) rfl (q0 := 0) (ci := 8) rfl rfl rfl) rfl rfl hl.1 rfl (lv_room (Nat.le_of_ble_eq_true rfl)) dX8_newName_46 ⟨Nat.le_of_ble_eq_true rfl, Nat.le_of_ble_eq_true rfl⟩) hP hD hS hA [0, 7, 8] [1, 2, 3, 4, 5, 6, 9, 10, 11, 12, 13] rfl rfl (by decide) (by decide) (fun r u H locs hw_17 hP hD hS => ?_)
          have hw_17 := hw_17.symm
          subst hw_17
          have hP : PG G [oC x 8 [.ref ak, .ref am, .ref ao, .ref av, .ref ap, .ref ax, .ref ay, .int (nI ec), .ref ad, .ref an, .ref ab, .int (nI vn), .ref ar, .ref ac, .int us, .int ro, .int pr, .ref at_, .int (nI tn), .ref as_, .int (nI sn), .ref aq, .int (nI s2_5), .int a1_7, .int (nI h2_8), .long z2_9, .int (nI n2_10), .int (zI l2_11), .int (zI e2_12)], aI G ak 40 kF, aI G am 40 mF, aI G ao 40 oF, aI G ap 40 pF, aI G ax 1600 xF, aI G ay 40 (fun lv => nI (LN lv)), aI G ad 80 dF, aJ G an 80 nF, aI G ab 80 bF, aI G ar 4 rF, aI G ac 4 cF, aI G at_ 40 tF, aI G aq 100 q2_6] H := va_P.sub hP [11, 0, 1, 2, 3, 4, 5, 12, 13, 6, 7, 8, 9, 10] rfl
          have hD : va_D A [oC x 8 [.ref ak, .ref am, .ref ao, .ref av, .ref ap, .ref ax, .ref ay, .int (nI ec), .ref ad, .ref an, .ref ab, .int (nI vn), .ref ar, .ref ac, .int us, .int ro, .int pr, .ref at_, .int (nI tn), .ref as_, .int (nI sn), .ref aq, .int (nI s2_5), .int a1_7, .int (nI h2_8), .long z2_9, .int (nI n2_10), .int (zI l2_11), .int (zI e2_12)], aI G ak 40 kF, aI G am 40 mF, aI G ao 40 oF, aI G ap 40 pF, aI G ax 1600 xF, aI G ay 40 (fun lv => nI (LN lv)), aI G ad 80 dF, aJ G an 80 nF, aI G ab 80 bF, aI G ar 4 rF, aI G ac 4 cF, aI G at_ 40 tF, aI G aq 100 q2_6] := va_D.sub hD [11, 0, 1, 2, 3, 4, 5, 12, 13, 6, 7, 8, 9, 10] (by decide) rfl
          refine lv_if_lt (tgt := 55) hF.1 hF.2.1 dX8_newName_49 (by decide) (fun c_18 => ?_) (fun c_18 => ?_)
          · refine lv_aload_n hF.1 hF.2.1 dX8_newName_55 rfl (lv_at hl 1 rfl) ?_
            refine kGet (C := RX8) (T := TX8) (N := 29) (index := 101) hF hK hP (inT inBX8) 0 rfl rfl 28 (by decide) rfl (List.mem_cons_of_mem _ mF_X8_101) rfl dX8_newName_56 ?_
            refine kIfEqZ (tgt := 69) hF dX8_newName_59 (by decide) (fun c_19 => ?_) (fun c_19 => ?_)
            · refine lv_aload_n hF.1 hF.2.1 dX8_newName_69 rfl (lv_at hl 1 rfl) ?_
              refine lv_aload_n hF.1 hF.2.1 dX8_newName_70 rfl (lv_at hl 1 rfl) ?_
              refine kGet (C := RX8) (T := TX8) (N := 29) (index := 114) hF hK hP (inT inBX8) 0 rfl rfl 23 (by decide) rfl (List.mem_cons_of_mem _ mF_X8_114) rfl dX8_newName_71 ?_
              refine lv_iconst (v := (nI 1)) hF.1 hF.2.1 dX8_newName_74 (by decide) ?_
              refine kCallI (wr := [aI G ak 40 kF, aI G ap 40 pF, aI G ax 1600 xF, aI G ay 40 (fun lv => nI (LN lv)), aI G ad 80 dF, aJ G an 80 nF, aI G ab 80 bF, aI G ar 4 rF, aI G ac 4 cF, aI G at_ 40 tF, aI G aq 100 q2_6]) (va_runV (As := [.int a1_7, .int (nI 1)]) (rest := []) hF (c_X8_may l G H.size x ak am ao av ap ax ay ad an ab ar ac at_ as_ aq ec vn tn sn s2_5 h2_8 n2_10 us ro pr a1_7 z2_9 l2_11 e2_12 mF oF a1_7 (nI 1) (hV)) (cwVB 2 hF rfl mL_X8_120 mI_X8_may mS_X8_may mN_X8 mC_X8_may rfl hd_X8_may rfl rfl ⟨Nat.le_of_ble_eq_true rfl, Nat.le_of_ble_eq_true rfl⟩) (kPre hK hP hD [0, 2, 3] (by decide) rfl (q0 := 0) (ci := 8) rfl rfl rfl) rfl rfl hl.1 rfl (lv_room (Nat.le_of_ble_eq_true rfl)) dX8_newName_75 ⟨Nat.le_of_ble_eq_true rfl, Nat.le_of_ble_eq_true rfl⟩) hP hD hS hA [0, 2, 3] [1, 4, 5, 6, 7, 8, 9, 10, 11, 12, 13] rfl rfl (by decide) (by decide) (fun r u H locs hw_20 hP hD hS => ?_)
              have hw_20 := hw_20.symm
              subst hw_20
              have hP : PG G [oC x 8 [.ref ak, .ref am, .ref ao, .ref av, .ref ap, .ref ax, .ref ay, .int (nI ec), .ref ad, .ref an, .ref ab, .int (nI vn), .ref ar, .ref ac, .int us, .int ro, .int pr, .ref at_, .int (nI tn), .ref as_, .int (nI sn), .ref aq, .int (nI s2_5), .int a1_7, .int (nI h2_8), .long z2_9, .int (nI n2_10), .int (zI l2_11), .int (zI e2_12)], aI G ak 40 kF, aI G am 40 mF, aI G ao 40 oF, aI G ap 40 pF, aI G ax 1600 xF, aI G ay 40 (fun lv => nI (LN lv)), aI G ad 80 dF, aJ G an 80 nF, aI G ab 80 bF, aI G ar 4 rF, aI G ac 4 cF, aI G at_ 40 tF, aI G aq 100 q2_6] H := va_P.sub hP [11, 0, 12, 13, 1, 2, 3, 4, 5, 6, 7, 8, 9, 10] rfl
              have hD : va_D A [oC x 8 [.ref ak, .ref am, .ref ao, .ref av, .ref ap, .ref ax, .ref ay, .int (nI ec), .ref ad, .ref an, .ref ab, .int (nI vn), .ref ar, .ref ac, .int us, .int ro, .int pr, .ref at_, .int (nI tn), .ref as_, .int (nI sn), .ref aq, .int (nI s2_5), .int a1_7, .int (nI h2_8), .long z2_9, .int (nI n2_10), .int (zI l2_11), .int (zI e2_12)], aI G ak 40 kF, aI G am 40 mF, aI G ao 40 oF, aI G ap 40 pF, aI G ax 1600 xF, aI G ay 40 (fun lv => nI (LN lv)), aI G ad 80 dF, aJ G an 80 nF, aI G ab 80 bF, aI G ar 4 rF, aI G ac 4 cF, aI G at_ 40 tF, aI G aq 100 q2_6] := va_D.sub hD [11, 0, 12, 13, 1, 2, 3, 4, 5, 6, 7, 8, 9, 10] (by decide) rfl
              refine kIfEqZ (tgt := 85) hF dX8_newName_78 (by decide) (fun c_21 => ?_) (fun c_21 => ?_)
              · refine lv_bipush (v := (-3)) hF.1 hF.2.1 dX8_newName_85 (by decide) ?_
                refine kRetI (v := (-3)) hF hr hlk hK hP hD hS hQ rfl ((-3), s2_5, q2_6, a1_7, h2_8, z2_9, n2_10, l2_11, e2_12) [0, 1, 2, 3, 4, 5, 6, 7, 8, 9, 10, 11, 12, 13] (by decide) rfl (Nat.le_of_ble_eq_true rfl) (Nat.le_of_ble_eq_true rfl) dX8_newName_87 ?_
                refine ⟨rfl, ?_, fun h => absurd h (by decide)⟩
                rw [nnR, if_neg (by omega), pI_f (by assumption), hE, if_pos rfl]
                dsimp only
                rw [pI_f (fun h => by rcases h with h | h; exact absurd h c_16; exact absurd (rI_t h ▸ c_18 : nI _ < 0) (nI_pos (by omega)))]
                rw [pI_f (fun h => c_19 h.1)]
                rw [pI_f c_21]
              · refine lv_iconst (v := (nI 0)) hF.1 hF.2.1 dX8_newName_81 (by decide) ?_
                refine lv_goto (tgt := 87) hF.1 hF.2.1 dX8_newName_82 (by decide) ?_
                refine kRetI (v := (nI 0)) hF hr hlk hK hP hD hS hQ rfl ((nI 0), s2_5, q2_6, a1_7, h2_8, z2_9, n2_10, l2_11, e2_12) [0, 1, 2, 3, 4, 5, 6, 7, 8, 9, 10, 11, 12, 13] (by decide) rfl (Nat.le_of_ble_eq_true rfl) (Nat.le_of_ble_eq_true rfl) dX8_newName_87 ?_
                refine ⟨rfl, ?_, fun _ => ⟨by omega, hE, hV⟩⟩
                rw [nnR, if_neg (by omega), pI_f (by assumption), hE, if_pos rfl]
                dsimp only
                rw [pI_f (fun h => by rcases h with h | h; exact absurd h c_16; exact absurd (rI_t h ▸ c_18 : nI _ < 0) (nI_pos (by omega)))]
                rw [pI_f (fun h => c_19 h.1)]
                rw [pI_t c_21]
            · refine lv_iload_n hF.1 hF.2.1 dX8_newName_62 rfl (lv_at hl 2 rfl) ?_
              refine lv_if_ne (tgt := 69) hF.1 hF.2.1 dX8_newName_63 (by decide) (fun c_22 => ?_) (fun c_22 => ?_)
              · refine lv_aload_n hF.1 hF.2.1 dX8_newName_69 rfl (lv_at hl 1 rfl) ?_
                refine lv_aload_n hF.1 hF.2.1 dX8_newName_70 rfl (lv_at hl 1 rfl) ?_
                refine kGet (C := RX8) (T := TX8) (N := 29) (index := 114) hF hK hP (inT inBX8) 0 rfl rfl 23 (by decide) rfl (List.mem_cons_of_mem _ mF_X8_114) rfl dX8_newName_71 ?_
                refine lv_iconst (v := (nI 1)) hF.1 hF.2.1 dX8_newName_74 (by decide) ?_
                refine kCallI (wr := [aI G ak 40 kF, aI G ap 40 pF, aI G ax 1600 xF, aI G ay 40 (fun lv => nI (LN lv)), aI G ad 80 dF, aJ G an 80 nF, aI G ab 80 bF, aI G ar 4 rF, aI G ac 4 cF, aI G at_ 40 tF, aI G aq 100 q2_6]) (va_runV (As := [.int a1_7, .int (nI 1)]) (rest := []) hF (c_X8_may l G H.size x ak am ao av ap ax ay ad an ab ar ac at_ as_ aq ec vn tn sn s2_5 h2_8 n2_10 us ro pr a1_7 z2_9 l2_11 e2_12 mF oF a1_7 (nI 1) (hV)) (cwVB 2 hF rfl mL_X8_120 mI_X8_may mS_X8_may mN_X8 mC_X8_may rfl hd_X8_may rfl rfl ⟨Nat.le_of_ble_eq_true rfl, Nat.le_of_ble_eq_true rfl⟩) (kPre hK hP hD [0, 2, 3] (by decide) rfl (q0 := 0) (ci := 8) rfl rfl rfl) rfl rfl hl.1 rfl (lv_room (Nat.le_of_ble_eq_true rfl)) dX8_newName_75 ⟨Nat.le_of_ble_eq_true rfl, Nat.le_of_ble_eq_true rfl⟩) hP hD hS hA [0, 2, 3] [1, 4, 5, 6, 7, 8, 9, 10, 11, 12, 13] rfl rfl (by decide) (by decide) (fun r u H locs hw_23 hP hD hS => ?_)
                have hw_23 := hw_23.symm
                subst hw_23
                have hP : PG G [oC x 8 [.ref ak, .ref am, .ref ao, .ref av, .ref ap, .ref ax, .ref ay, .int (nI ec), .ref ad, .ref an, .ref ab, .int (nI vn), .ref ar, .ref ac, .int us, .int ro, .int pr, .ref at_, .int (nI tn), .ref as_, .int (nI sn), .ref aq, .int (nI s2_5), .int a1_7, .int (nI h2_8), .long z2_9, .int (nI n2_10), .int (zI l2_11), .int (zI e2_12)], aI G ak 40 kF, aI G am 40 mF, aI G ao 40 oF, aI G ap 40 pF, aI G ax 1600 xF, aI G ay 40 (fun lv => nI (LN lv)), aI G ad 80 dF, aJ G an 80 nF, aI G ab 80 bF, aI G ar 4 rF, aI G ac 4 cF, aI G at_ 40 tF, aI G aq 100 q2_6] H := va_P.sub hP [11, 0, 12, 13, 1, 2, 3, 4, 5, 6, 7, 8, 9, 10] rfl
                have hD : va_D A [oC x 8 [.ref ak, .ref am, .ref ao, .ref av, .ref ap, .ref ax, .ref ay, .int (nI ec), .ref ad, .ref an, .ref ab, .int (nI vn), .ref ar, .ref ac, .int us, .int ro, .int pr, .ref at_, .int (nI tn), .ref as_, .int (nI sn), .ref aq, .int (nI s2_5), .int a1_7, .int (nI h2_8), .long z2_9, .int (nI n2_10), .int (zI l2_11), .int (zI e2_12)], aI G ak 40 kF, aI G am 40 mF, aI G ao 40 oF, aI G ap 40 pF, aI G ax 1600 xF, aI G ay 40 (fun lv => nI (LN lv)), aI G ad 80 dF, aJ G an 80 nF, aI G ab 80 bF, aI G ar 4 rF, aI G ac 4 cF, aI G at_ 40 tF, aI G aq 100 q2_6] := va_D.sub hD [11, 0, 12, 13, 1, 2, 3, 4, 5, 6, 7, 8, 9, 10] (by decide) rfl
                refine kIfEqZ (tgt := 85) hF dX8_newName_78 (by decide) (fun c_24 => ?_) (fun c_24 => ?_)
                · refine lv_bipush (v := (-3)) hF.1 hF.2.1 dX8_newName_85 (by decide) ?_
                  refine kRetI (v := (-3)) hF hr hlk hK hP hD hS hQ rfl ((-3), s2_5, q2_6, a1_7, h2_8, z2_9, n2_10, l2_11, e2_12) [0, 1, 2, 3, 4, 5, 6, 7, 8, 9, 10, 11, 12, 13] (by decide) rfl (Nat.le_of_ble_eq_true rfl) (Nat.le_of_ble_eq_true rfl) dX8_newName_87 ?_
                  refine ⟨rfl, ?_, fun h => absurd h (by decide)⟩
                  rw [nnR, if_neg (by omega), pI_f (by assumption), hE, if_pos rfl]
                  dsimp only
                  rw [pI_f (fun h => by rcases h with h | h; exact absurd h c_16; exact absurd (rI_t h ▸ c_18 : nI _ < 0) (nI_pos (by omega)))]
                  rw [pI_f (fun h => c_22 h.2)]
                  rw [pI_f c_24]
                · refine lv_iconst (v := (nI 0)) hF.1 hF.2.1 dX8_newName_81 (by decide) ?_
                  refine lv_goto (tgt := 87) hF.1 hF.2.1 dX8_newName_82 (by decide) ?_
                  refine kRetI (v := (nI 0)) hF hr hlk hK hP hD hS hQ rfl ((nI 0), s2_5, q2_6, a1_7, h2_8, z2_9, n2_10, l2_11, e2_12) [0, 1, 2, 3, 4, 5, 6, 7, 8, 9, 10, 11, 12, 13] (by decide) rfl (Nat.le_of_ble_eq_true rfl) (Nat.le_of_ble_eq_true rfl) dX8_newName_87 ?_
                  refine ⟨rfl, ?_, fun _ => ⟨by omega, hE, hV⟩⟩
                  rw [nnR, if_neg (by omega), pI_f (by assumption), hE, if_pos rfl]
                  dsimp only
                  rw [pI_f (fun h => by rcases h with h | h; exact absurd h c_16; exact absurd (rI_t h ▸ c_18 : nI _ < 0) (nI_pos (by omega)))]
                  rw [pI_f (fun h => c_22 h.2)]
                  rw [pI_t c_24]
              · refine lv_bipush (v := (-2)) hF.1 hF.2.1 dX8_newName_66 (by decide) ?_
                refine kRetI (v := (-2)) hF hr hlk hK hP hD hS hQ rfl ((-2), s2_5, q2_6, a1_7, h2_8, z2_9, n2_10, l2_11, e2_12) [0, 1, 2, 3, 4, 5, 6, 7, 8, 9, 10, 11, 12, 13] (by decide) rfl (Nat.le_of_ble_eq_true rfl) (Nat.le_of_ble_eq_true rfl) dX8_newName_68 ?_
                refine ⟨rfl, ?_, fun h => absurd h (by decide)⟩
                rw [nnR, if_neg (by omega), pI_f (by assumption), hE, if_pos rfl]
                dsimp only
                rw [pI_f (fun h => by rcases h with h | h; exact absurd h c_16; exact absurd (rI_t h ▸ c_18 : nI _ < 0) (nI_pos (by omega)))]
                rw [pI_t ⟨c_19, c_22⟩]
          · refine lv_bipush (v := (-6)) hF.1 hF.2.1 dX8_newName_52 (by decide) ?_
            refine kRetI (v := (-6)) hF hr hlk hK hP hD hS hQ rfl ((-6), s2_5, q2_6, a1_7, h2_8, z2_9, n2_10, l2_11, e2_12) [0, 1, 2, 3, 4, 5, 6, 7, 8, 9, 10, 11, 12, 13] (by decide) rfl (Nat.le_of_ble_eq_true rfl) (Nat.le_of_ble_eq_true rfl) dX8_newName_54 ?_
            refine ⟨rfl, ?_, fun h => absurd h (by decide)⟩
            rw [nnR, if_neg (by omega), pI_f (by assumption), hE, if_pos rfl]
            dsimp only
            rw [pI_t (Or.inr (rI_nn (Int32.not_lt.mp c_18)))]
      · refine lv_iload_n hF.1 hF.2.1 dX8_newName_28 rfl (lv_at hl 0 rfl) ?_
        refine kRetI (v := r0_4) hF hr hlk hK hP hD hS hQ rfl (r0_4, s2_5, q2_6, a1_7, h2_8, z2_9, n2_10, l2_11, e2_12) [0, 1, 2, 3, 4, 5, 6, 7, 8, 9, 10, 11, 12, 13] (by decide) rfl (Nat.le_of_ble_eq_true rfl) (Nat.le_of_ble_eq_true rfl) dX8_newName_29 ?_
        exact ⟨rfl, by rw [nnR, if_neg (by omega), pI_f (by assumption), if_neg (by rw [← hT.1]; assumption)]; exact hT.1, fun h => absurd h (by assumption)⟩
    · refine lv_bipush (v := (-6)) hF.1 hF.2.1 dX8_newName_16 (by decide) ?_
      refine kRetI (v := (-6)) hF hr hlk hK hP hD hS hQ rfl ((-6), qn, qF, wa, hp, nm, ns, la, sl) [0, 1, 2, 3, 4, 5, 6, 7, 8, 9, 10, 11, 12, 13] (by decide) rfl (Nat.le_of_ble_eq_true rfl) (Nat.le_of_ble_eq_true rfl) dX8_newName_18 ?_
      exact ⟨rfl, by rw [nnR, if_neg (by omega), pI_t (by assumption)], fun h => absurd h (by decide)⟩
  · refine lv_iconst (v := (-1)) hF.1 hF.2.1 dX8_newName_7 (by decide) ?_
    refine kRetI (v := (-1)) hF hr hlk hK hP hD hS hQ rfl ((-1), qn, qF, wa, hp, nm, ns, la, sl) [0, 1, 2, 3, 4, 5, 6, 7, 8, 9, 10, 11, 12, 13] (by decide) rfl (Nat.le_of_ble_eq_true rfl) (Nat.le_of_ble_eq_true rfl) dX8_newName_8 ?_
    exact ⟨rfl, (if_pos (by assumption)).symm, fun h => absurd h (by decide)⟩
set_option maxHeartbeats 4000000 in
set_option maxRecDepth 100000 in
theorem c_X8_resolve (l : Launch) (G : GG) (sz : Nat) (x : Nat) (ak : Nat) (am : Nat) (ao : Nat) (av : Nat) (ap : Nat) (ax : Nat) (ay : Nat) (ad : Nat) (an : Nat) (ab : Nat) (ar : Nat) (ac : Nat) (at_ : Nat) (as_ : Nat) (aq : Nat) (ec : Nat) (vn : Nat) (tn : Nat) (sn : Nat) (qn : Nat) (hp : Nat) (ns : Nat) (us : Int32) (ro : Int32) (pr : Int32) (wa : Int32) (nm : Int64) (la : Prop) (sl : Prop) (kF : Nat → Int32) (mF : Nat → Int32) (oF : Nat → Int32) (pF : Nat → Int32) (xF : Nat → Int32) (LN : Nat → Nat) (dF : Nat → Int32) (nF : Nat → Int64) (bF : Nat → Int32) (rF : Nat → Int32) (cF : Nat → Int32) (tF : Nat → Int32) (qF : Nat → Int32) (fo : Int32) (hvn : 1 ≤ vn ∧ vn ≤ 4) (hcr : ∀ v, v < 4 → cF v = -1 ∨ vp_in (cF v) 40) (hrr : ∀ v, v < 4 → vp_in (rF v) 40) (hpr : ∀ i, i < 40 → vp_in (pF i) 40) (hbr : ∀ k, k < ec → vp_in (bF k) 40) (hro : vp_in ro 40) (hec : ec ≤ 80) (hLN : ∀ i, i < 40 → LN i ≤ 40) (hn : tn ≤ 40) (hpp : vp_in pr 40) : CtI l G yX8_resolve wsX8_resolve 5 114 0 0 sz [.ref x, .int fo] [oC x 8 [.ref ak, .ref am, .ref ao, .ref av, .ref ap, .ref ax, .ref ay, .int (nI ec), .ref ad, .ref an, .ref ab, .int (nI vn), .ref ar, .ref ac, .int us, .int ro, .int pr, .ref at_, .int (nI tn), .ref as_, .int (nI sn), .ref aq, .int (nI qn), .int wa, .int (nI hp), .long nm, .int (nI ns), .int (zI la), .int (zI sl)], aI G ak 40 kF, aI G am 40 mF, aI G ao 40 oF, aI G ap 40 pF, aI G ax 1600 xF, aI G ay 40 (fun lv => nI (LN lv)), aI G ad 80 dF, aJ G an 80 nF, aI G ab 80 bF, aI G ar 4 rF, aI G ac 4 cF, aI G at_ 40 tF, aI G aq 100 qF] (fun r (u : Int32 × Nat × (Nat → Int32) × Int32 × Nat × Int64 × Nat × Prop × Prop) => match u with | (r0, s2, q2, a1, h2, z2, n2, l2, e2) => r = r0 ∧ r0 = wkT kF mF oF pF rF cF xF vn dF nF bF ec LN us ro pr fo qF tn tF) (fun (u : Int32 × Nat × (Nat → Int32) × Int32 × Nat × Int64 × Nat × Prop × Prop) => match u with | (r0, s2, q2, a1, h2, z2, n2, l2, e2) => [oC x 8 [.ref ak, .ref am, .ref ao, .ref av, .ref ap, .ref ax, .ref ay, .int (nI ec), .ref ad, .ref an, .ref ab, .int (nI vn), .ref ar, .ref ac, .int us, .int ro, .int pr, .ref at_, .int (nI tn), .ref as_, .int (nI sn), .ref aq, .int (nI s2), .int a1, .int (nI h2), .long z2, .int (nI n2), .int (zI l2), .int (zI e2)], aI G ak 40 kF, aI G am 40 mF, aI G ao 40 oF, aI G ap 40 pF, aI G ax 1600 xF, aI G ay 40 (fun lv => nI (LN lv)), aI G ad 80 dF, aJ G an 80 nF, aI G ab 80 bF, aI G ar 4 rF, aI G ac 4 cF, aI G at_ 40 tF, aI G aq 100 q2]) := by
  refine kMet (Qc := fun A => va_Qi _ (Bw G A _) A) (cc := cX8_resolve) (nL := 2) (ret := some (.int)) (by decide) rfl (Nat.le_of_ble_eq_true rfl) ?_
  intro p e s m args below meth c A Q hF hr hlk hnme hK hP hD hA hS hQ hsz ls hl
  have hl : lv_has ls 2 [(0, .ref x), (1, .int fo)] := hl
  refine lv_aload_n hF.1 hF.2.1 dX8_resolve_0 rfl (lv_at hl 0 rfl) ?_
  refine lv_iconst (v := (nI 0)) hF.1 hF.2.1 dX8_resolve_1 (by decide) ?_
  refine lv_iload_n hF.1 hF.2.1 dX8_resolve_2 rfl (lv_at hl 1 rfl) ?_
  refine kCallI (wr := []) (va_runV (As := [.int (nI 0), .int fo]) (rest := []) hF (c_X8_walk0 l G _ x ak am ao av ap ax ay ad an ab ar ac at_ as_ aq ec vn tn sn qn hp ns us ro pr wa nm la sl kF mF oF pF xF LN dF nF bF rF cF tF qF fo (by first | assumption | omega) (by first | assumption | omega) (by first | assumption | omega) (by first | assumption | omega) (by first | assumption | omega) (by first | assumption | omega) (by first | assumption | omega) (by first | assumption | omega) (by first | assumption | omega) (by first | assumption | omega)) (cwVB 2 hF rfl mL_X8_157 mI_X8_walk mS_X8_walk mN_X8 mC_X8_walk rfl hd_X8_walk rfl rfl ⟨Nat.le_of_ble_eq_true rfl, Nat.le_of_ble_eq_true rfl⟩) (kPre hK hP hD [0, 1, 2, 3, 4, 5, 6, 7, 8, 9, 10, 11, 12, 13] (by decide) rfl (q0 := 0) (ci := 8) rfl rfl rfl) rfl rfl hl.1 rfl (lv_room (Nat.le_of_ble_eq_true rfl)) dX8_resolve_3 ⟨Nat.le_of_ble_eq_true rfl, Nat.le_of_ble_eq_true rfl⟩) hP hD hS hA [0, 1, 2, 3, 4, 5, 6, 7, 8, 9, 10, 11, 12, 13] [] rfl rfl (by decide) (by decide) (fun r u H locs hw_10 hP hD hS => ?_)
  obtain ⟨r0_1, s2_2, q2_3, a1_4, h2_5, z2_6, n2_7, l2_8, e2_9⟩ := u
  obtain ⟨hz, hw_10⟩ := hw_10
  have hz := hz.symm
  subst hz
  have hP : PG G [oC x 8 [.ref ak, .ref am, .ref ao, .ref av, .ref ap, .ref ax, .ref ay, .int (nI ec), .ref ad, .ref an, .ref ab, .int (nI vn), .ref ar, .ref ac, .int us, .int ro, .int pr, .ref at_, .int (nI tn), .ref as_, .int (nI sn), .ref aq, .int (nI s2_2), .int a1_4, .int (nI h2_5), .long z2_6, .int (nI n2_7), .int (zI l2_8), .int (zI e2_9)], aI G ak 40 kF, aI G am 40 mF, aI G ao 40 oF, aI G ap 40 pF, aI G ax 1600 xF, aI G ay 40 (fun lv => nI (LN lv)), aI G ad 80 dF, aJ G an 80 nF, aI G ab 80 bF, aI G ar 4 rF, aI G ac 4 cF, aI G at_ 40 tF, aI G aq 100 q2_3] H := hP
  have hD : va_D A [oC x 8 [.ref ak, .ref am, .ref ao, .ref av, .ref ap, .ref ax, .ref ay, .int (nI ec), .ref ad, .ref an, .ref ab, .int (nI vn), .ref ar, .ref ac, .int us, .int ro, .int pr, .ref at_, .int (nI tn), .ref as_, .int (nI sn), .ref aq, .int (nI s2_2), .int a1_4, .int (nI h2_5), .long z2_6, .int (nI n2_7), .int (zI l2_8), .int (zI e2_9)], aI G ak 40 kF, aI G am 40 mF, aI G ao 40 oF, aI G ap 40 pF, aI G ax 1600 xF, aI G ay 40 (fun lv => nI (LN lv)), aI G ad 80 dF, aJ G an 80 nF, aI G ab 80 bF, aI G ar 4 rF, aI G ac 4 cF, aI G at_ 40 tF, aI G aq 100 q2_3] := hD
  have hT := hw_10
  refine kRetI (v := r0_1) hF hr hlk hK hP hD hS hQ rfl (r0_1, s2_2, q2_3, a1_4, h2_5, z2_6, n2_7, l2_8, e2_9) [0, 1, 2, 3, 4, 5, 6, 7, 8, 9, 10, 11, 12, 13] (by decide) rfl (Nat.le_of_ble_eq_true rfl) (Nat.le_of_ble_eq_true rfl) dX8_resolve_6 ?_
  exact ⟨rfl, hT.1⟩
set_option maxHeartbeats 4000000 in
set_option maxRecDepth 100000 in
theorem c_X8_enter (l : Launch) (G : GG) (sz : Nat) (x : Nat) (ak : Nat) (am : Nat) (ao : Nat) (av : Nat) (ap : Nat) (ax : Nat) (ay : Nat) (ad : Nat) (an : Nat) (ab : Nat) (ar : Nat) (ac : Nat) (at_ : Nat) (as_ : Nat) (aq : Nat) (ec : Nat) (vn : Nat) (tn : Nat) (sn : Nat) (qn : Nat) (hp : Nat) (ns : Nat) (us : Int32) (ro : Int32) (pr : Int32) (wa : Int32) (nm : Int64) (la : Prop) (sl : Prop) (kF : Nat → Int32) (mF : Nat → Int32) (oF : Nat → Int32) (pF : Nat → Int32) (xF : Nat → Int32) (LN : Nat → Nat) (dF : Nat → Int32) (nF : Nat → Int64) (bF : Nat → Int32) (rF : Nat → Int32) (cF : Nat → Int32) (tF : Nat → Int32) (qF : Nat → Int32) (fj : Int32) (hvn : 1 ≤ vn ∧ vn ≤ 4) (hcr : ∀ v, v < 4 → cF v = -1 ∨ vp_in (cF v) 40) (hrr : ∀ v, v < 4 → vp_in (rF v) 40) (hpr : ∀ i, i < 40 → vp_in (pF i) 40) (hbr : ∀ k, k < ec → vp_in (bF k) 40) (hro : vp_in ro 40) (hec : ec ≤ 80) (hLN : ∀ i, i < 40 → LN i ≤ 40) (hn : tn ≤ 40) (hpp : vp_in pr 40) : CtI l G yX8_enter wsX8_enter 5 114 0 0 sz [.ref x, .int fj] [oC x 8 [.ref ak, .ref am, .ref ao, .ref av, .ref ap, .ref ax, .ref ay, .int (nI ec), .ref ad, .ref an, .ref ab, .int (nI vn), .ref ar, .ref ac, .int us, .int ro, .int pr, .ref at_, .int (nI tn), .ref as_, .int (nI sn), .ref aq, .int (nI qn), .int wa, .int (nI hp), .long nm, .int (nI ns), .int (zI la), .int (zI sl)], aI G ak 40 kF, aI G am 40 mF, aI G ao 40 oF, aI G ap 40 pF, aI G ax 1600 xF, aI G ay 40 (fun lv => nI (LN lv)), aI G ad 80 dF, aJ G an 80 nF, aI G ab 80 bF, aI G ar 4 rF, aI G ac 4 cF, aI G at_ 40 tF, aI G aq 100 qF] (fun r (u : Int32 × Int32 × Int32 × Nat × (Nat → Int32) × Int32 × Nat × Int64 × Nat × Prop × Prop) => match u with | (r0, p2, o2, s2, q2, a1, h2, z2, n2, l2, e2) => r = r0 ∧ (r0, p2, o2) = etR kF mF oF us ro pr fj (wkT kF mF oF pF rF cF xF vn dF nF bF ec LN us ro pr (nI 1) qF tn tF)) (fun (u : Int32 × Int32 × Int32 × Nat × (Nat → Int32) × Int32 × Nat × Int64 × Nat × Prop × Prop) => match u with | (r0, p2, o2, s2, q2, a1, h2, z2, n2, l2, e2) => [oC x 8 [.ref ak, .ref am, .ref ao, .ref av, .ref ap, .ref ax, .ref ay, .int (nI ec), .ref ad, .ref an, .ref ab, .int (nI vn), .ref ar, .ref ac, .int us, .int o2, .int p2, .ref at_, .int (nI tn), .ref as_, .int (nI sn), .ref aq, .int (nI s2), .int a1, .int (nI h2), .long z2, .int (nI n2), .int (zI l2), .int (zI e2)], aI G ak 40 kF, aI G am 40 mF, aI G ao 40 oF, aI G ap 40 pF, aI G ax 1600 xF, aI G ay 40 (fun lv => nI (LN lv)), aI G ad 80 dF, aJ G an 80 nF, aI G ab 80 bF, aI G ar 4 rF, aI G ac 4 cF, aI G at_ 40 tF, aI G aq 100 q2]) := by
  refine kMet (Qc := fun A => va_Qi _ (Bw G A _) A) (cc := cX8_enter) (nL := 3) (ret := some (.int)) (by decide) rfl (Nat.le_of_ble_eq_true rfl) ?_
  intro p e s m args below meth c A Q hF hr hlk hnme hK hP hD hA hS hQ hsz ls hl
  have hl : lv_has ls 3 [(0, .ref x), (1, .int fj)] := hl
  refine lv_aload_n hF.1 hF.2.1 dX8_enter_0 rfl (lv_at hl 0 rfl) ?_
  refine lv_iconst (v := (nI 0)) hF.1 hF.2.1 dX8_enter_1 (by decide) ?_
  refine lv_iconst (v := (nI 1)) hF.1 hF.2.1 dX8_enter_2 (by decide) ?_
  refine kCallI (wr := []) (va_runV (As := [.int (nI 0), .int (nI 1)]) (rest := []) hF (c_X8_walk0 l G _ x ak am ao av ap ax ay ad an ab ar ac at_ as_ aq ec vn tn sn qn hp ns us ro pr wa nm la sl kF mF oF pF xF LN dF nF bF rF cF tF qF (nI 1) (by first | assumption | omega) (by first | assumption | omega) (by first | assumption | omega) (by first | assumption | omega) (by first | assumption | omega) (by first | assumption | omega) (by first | assumption | omega) (by first | assumption | omega) (by first | assumption | omega) (by first | assumption | omega)) (cwVB 2 hF rfl mL_X8_157 mI_X8_walk mS_X8_walk mN_X8 mC_X8_walk rfl hd_X8_walk rfl rfl ⟨Nat.le_of_ble_eq_true rfl, Nat.le_of_ble_eq_true rfl⟩) (kPre hK hP hD [0, 1, 2, 3, 4, 5, 6, 7, 8, 9, 10, 11, 12, 13] (by decide) rfl (q0 := 0) (ci := 8) rfl rfl rfl) rfl rfl hl.1 rfl (lv_room (Nat.le_of_ble_eq_true rfl)) dX8_enter_3 ⟨Nat.le_of_ble_eq_true rfl, Nat.le_of_ble_eq_true rfl⟩) hP hD hS hA [0, 1, 2, 3, 4, 5, 6, 7, 8, 9, 10, 11, 12, 13] [] rfl rfl (by decide) (by decide) (fun r u H locs hw_10 hP hD hS => ?_)
  obtain ⟨r0_1, s2_2, q2_3, a1_4, h2_5, z2_6, n2_7, l2_8, e2_9⟩ := u
  obtain ⟨hz, hw_10⟩ := hw_10
  have hz := hz.symm
  subst hz
  have hP : PG G [oC x 8 [.ref ak, .ref am, .ref ao, .ref av, .ref ap, .ref ax, .ref ay, .int (nI ec), .ref ad, .ref an, .ref ab, .int (nI vn), .ref ar, .ref ac, .int us, .int ro, .int pr, .ref at_, .int (nI tn), .ref as_, .int (nI sn), .ref aq, .int (nI s2_2), .int a1_4, .int (nI h2_5), .long z2_6, .int (nI n2_7), .int (zI l2_8), .int (zI e2_9)], aI G ak 40 kF, aI G am 40 mF, aI G ao 40 oF, aI G ap 40 pF, aI G ax 1600 xF, aI G ay 40 (fun lv => nI (LN lv)), aI G ad 80 dF, aJ G an 80 nF, aI G ab 80 bF, aI G ar 4 rF, aI G ac 4 cF, aI G at_ 40 tF, aI G aq 100 q2_3] H := hP
  have hD : va_D A [oC x 8 [.ref ak, .ref am, .ref ao, .ref av, .ref ap, .ref ax, .ref ay, .int (nI ec), .ref ad, .ref an, .ref ab, .int (nI vn), .ref ar, .ref ac, .int us, .int ro, .int pr, .ref at_, .int (nI tn), .ref as_, .int (nI sn), .ref aq, .int (nI s2_2), .int a1_4, .int (nI h2_5), .long z2_6, .int (nI n2_7), .int (zI l2_8), .int (zI e2_9)], aI G ak 40 kF, aI G am 40 mF, aI G ao 40 oF, aI G ap 40 pF, aI G ax 1600 xF, aI G ay 40 (fun lv => nI (LN lv)), aI G ad 80 dF, aJ G an 80 nF, aI G ab 80 bF, aI G ar 4 rF, aI G ac 4 cF, aI G at_ 40 tF, aI G aq 100 q2_3] := hD
  have hT := hw_10
  refine lv_istore_n (lv' := [(2, .int r0_1), (0, .ref x), (1, .int fj)]) hF.1 hF.2.1 dX8_enter_6 rfl hl (by decide) rfl (fun ls hl => ?_)
  refine lv_iload_n hF.1 hF.2.1 dX8_enter_7 rfl (lv_at hl 0 rfl) ?_
  refine lv_if_ge (tgt := 13) hF.1 hF.2.1 dX8_enter_8 (by decide) (fun c_11 => ?_) (fun c_11 => ?_)
  · have hnn := Int32.not_lt.mpr c_11
    refine lv_aload_n hF.1 hF.2.1 dX8_enter_13 rfl (lv_at hl 1 rfl) ?_
    refine kGet (C := RX8) (T := TX8) (N := 29) (index := 7) hF hK hP (inT inBX8) 0 rfl rfl 0 (by decide) rfl (List.mem_cons_of_mem _ mF_X8_7) rfl dX8_enter_14 ?_
    refine lv_iload_n hF.1 hF.2.1 dX8_enter_17 rfl (lv_at hl 0 rfl) ?_
    refine kIald hF hK hP 1 rfl (hT.2 hnn) dX8_enter_18 ?_
    refine lv_iconst (v := (nI 1)) hF.1 hF.2.1 dX8_enter_19 (by decide) ?_
    refine lv_icmp_eq (tgt := 26) hF.1 hF.2.1 dX8_enter_20 (by decide) (fun c_12 => ?_) (fun c_12 => ?_)
    · refine lv_aload_n hF.1 hF.2.1 dX8_enter_26 rfl (lv_at hl 1 rfl) ?_
      refine lv_iload_n hF.1 hF.2.1 dX8_enter_27 rfl (lv_at hl 0 rfl) ?_
      refine lv_iconst (v := (nI 0)) hF.1 hF.2.1 dX8_enter_28 (by decide) ?_
      refine kCallI (wr := [aI G ak 40 kF, aI G ap 40 pF, aI G ax 1600 xF, aI G ay 40 (fun lv => nI (LN lv)), aI G ad 80 dF, aJ G an 80 nF, aI G ab 80 bF, aI G ar 4 rF, aI G ac 4 cF, aI G at_ 40 tF, aI G aq 100 q2_3]) (va_runV (As := [.int r0_1, .int (nI 0)]) (rest := []) hF (c_X8_may l G H.size x ak am ao av ap ax ay ad an ab ar ac at_ as_ aq ec vn tn sn s2_2 h2_5 n2_7 us ro pr a1_4 z2_6 l2_8 e2_9 mF oF r0_1 (nI 0) (hT.2 hnn)) (cwVB 2 hF rfl mL_X8_120 mI_X8_may mS_X8_may mN_X8 mC_X8_may rfl hd_X8_may rfl rfl ⟨Nat.le_of_ble_eq_true rfl, Nat.le_of_ble_eq_true rfl⟩) (kPre hK hP hD [0, 2, 3] (by decide) rfl (q0 := 0) (ci := 8) rfl rfl rfl) rfl rfl hl.1 rfl (lv_room (Nat.le_of_ble_eq_true rfl)) dX8_enter_29 ⟨Nat.le_of_ble_eq_true rfl, Nat.le_of_ble_eq_true rfl⟩) hP hD hS hA [0, 2, 3] [1, 4, 5, 6, 7, 8, 9, 10, 11, 12, 13] rfl rfl (by decide) (by decide) (fun r u H locs hw_13 hP hD hS => ?_)
      have hw_13 := hw_13.symm
      subst hw_13
      have hP : PG G [oC x 8 [.ref ak, .ref am, .ref ao, .ref av, .ref ap, .ref ax, .ref ay, .int (nI ec), .ref ad, .ref an, .ref ab, .int (nI vn), .ref ar, .ref ac, .int us, .int ro, .int pr, .ref at_, .int (nI tn), .ref as_, .int (nI sn), .ref aq, .int (nI s2_2), .int a1_4, .int (nI h2_5), .long z2_6, .int (nI n2_7), .int (zI l2_8), .int (zI e2_9)], aI G ak 40 kF, aI G am 40 mF, aI G ao 40 oF, aI G ap 40 pF, aI G ax 1600 xF, aI G ay 40 (fun lv => nI (LN lv)), aI G ad 80 dF, aJ G an 80 nF, aI G ab 80 bF, aI G ar 4 rF, aI G ac 4 cF, aI G at_ 40 tF, aI G aq 100 q2_3] H := va_P.sub hP [11, 0, 12, 13, 1, 2, 3, 4, 5, 6, 7, 8, 9, 10] rfl
      have hD : va_D A [oC x 8 [.ref ak, .ref am, .ref ao, .ref av, .ref ap, .ref ax, .ref ay, .int (nI ec), .ref ad, .ref an, .ref ab, .int (nI vn), .ref ar, .ref ac, .int us, .int ro, .int pr, .ref at_, .int (nI tn), .ref as_, .int (nI sn), .ref aq, .int (nI s2_2), .int a1_4, .int (nI h2_5), .long z2_6, .int (nI n2_7), .int (zI l2_8), .int (zI e2_9)], aI G ak 40 kF, aI G am 40 mF, aI G ao 40 oF, aI G ap 40 pF, aI G ax 1600 xF, aI G ay 40 (fun lv => nI (LN lv)), aI G ad 80 dF, aJ G an 80 nF, aI G ab 80 bF, aI G ar 4 rF, aI G ac 4 cF, aI G at_ 40 tF, aI G aq 100 q2_3] := va_D.sub hD [11, 0, 12, 13, 1, 2, 3, 4, 5, 6, 7, 8, 9, 10] (by decide) rfl
      refine kIfNeZ (tgt := 38) hF dX8_enter_32 (by decide) (fun c_14 => ?_) (fun c_14 => ?_)
      · refine lv_aload_n hF.1 hF.2.1 dX8_enter_38 rfl (lv_at hl 1 rfl) ?_
        refine lv_iload_n hF.1 hF.2.1 dX8_enter_39 rfl (lv_at hl 0 rfl) ?_
        refine kPut (C := RX8) (T := TX8) (N := 29) (index := 111) (v := .int r0_1) hF hK hP hD hS (inT inBX8) tyX8_ok nmX8 0 rfl rfl 16 (by decide) rfl (List.mem_cons_of_mem _ mF_X8_111) rfl rfl rfl (Nat.le_of_ble_eq_true rfl) dX8_enter_40 (fun H locs hP hD hS => ?_)
        have hP : PG G [oC x 8 [.ref ak, .ref am, .ref ao, .ref av, .ref ap, .ref ax, .ref ay, .int (nI ec), .ref ad, .ref an, .ref ab, .int (nI vn), .ref ar, .ref ac, .int us, .int ro, .int r0_1, .ref at_, .int (nI tn), .ref as_, .int (nI sn), .ref aq, .int (nI s2_2), .int a1_4, .int (nI h2_5), .long z2_6, .int (nI n2_7), .int (zI l2_8), .int (zI e2_9)], aI G ak 40 kF, aI G am 40 mF, aI G ao 40 oF, aI G ap 40 pF, aI G ax 1600 xF, aI G ay 40 (fun lv => nI (LN lv)), aI G ad 80 dF, aJ G an 80 nF, aI G ab 80 bF, aI G ar 4 rF, aI G ac 4 cF, aI G at_ 40 tF, aI G aq 100 q2_3] H := hP
        have hD : va_D A [oC x 8 [.ref ak, .ref am, .ref ao, .ref av, .ref ap, .ref ax, .ref ay, .int (nI ec), .ref ad, .ref an, .ref ab, .int (nI vn), .ref ar, .ref ac, .int us, .int ro, .int r0_1, .ref at_, .int (nI tn), .ref as_, .int (nI sn), .ref aq, .int (nI s2_2), .int a1_4, .int (nI h2_5), .long z2_6, .int (nI n2_7), .int (zI l2_8), .int (zI e2_9)], aI G ak 40 kF, aI G am 40 mF, aI G ao 40 oF, aI G ap 40 pF, aI G ax 1600 xF, aI G ay 40 (fun lv => nI (LN lv)), aI G ad 80 dF, aJ G an 80 nF, aI G ab 80 bF, aI G ar 4 rF, aI G ac 4 cF, aI G at_ 40 tF, aI G aq 100 q2_3] := hD
        refine lv_aload_n hF.1 hF.2.1 dX8_enter_43 rfl (lv_at hl 1 rfl) ?_
        refine lv_iload_n hF.1 hF.2.1 dX8_enter_44 rfl (lv_at hl 2 rfl) ?_
        refine lv_if_eq (tgt := 52) hF.1 hF.2.1 dX8_enter_45 (by decide) (fun c_15 => ?_) (fun c_15 => ?_)
        · refine lv_aload_n hF.1 hF.2.1 dX8_enter_52 rfl (lv_at hl 1 rfl) ?_
          refine kGet (C := RX8) (T := TX8) (N := 29) (index := 108) hF hK hP (inT inBX8) 0 rfl rfl 15 (by decide) rfl (List.mem_cons_of_mem _ mF_X8_108) rfl dX8_enter_53 ?_
          refine kPut (C := RX8) (T := TX8) (N := 29) (index := 108) (v := .int ro) hF hK hP hD hS (inT inBX8) tyX8_ok nmX8 0 rfl rfl 15 (by decide) rfl (List.mem_cons_of_mem _ mF_X8_108) rfl rfl rfl (Nat.le_of_ble_eq_true rfl) dX8_enter_56 (fun H locs hP hD hS => ?_)
          have hP : PG G [oC x 8 [.ref ak, .ref am, .ref ao, .ref av, .ref ap, .ref ax, .ref ay, .int (nI ec), .ref ad, .ref an, .ref ab, .int (nI vn), .ref ar, .ref ac, .int us, .int ro, .int r0_1, .ref at_, .int (nI tn), .ref as_, .int (nI sn), .ref aq, .int (nI s2_2), .int a1_4, .int (nI h2_5), .long z2_6, .int (nI n2_7), .int (zI l2_8), .int (zI e2_9)], aI G ak 40 kF, aI G am 40 mF, aI G ao 40 oF, aI G ap 40 pF, aI G ax 1600 xF, aI G ay 40 (fun lv => nI (LN lv)), aI G ad 80 dF, aJ G an 80 nF, aI G ab 80 bF, aI G ar 4 rF, aI G ac 4 cF, aI G at_ 40 tF, aI G aq 100 q2_3] H := hP
          have hD : va_D A [oC x 8 [.ref ak, .ref am, .ref ao, .ref av, .ref ap, .ref ax, .ref ay, .int (nI ec), .ref ad, .ref an, .ref ab, .int (nI vn), .ref ar, .ref ac, .int us, .int ro, .int r0_1, .ref at_, .int (nI tn), .ref as_, .int (nI sn), .ref aq, .int (nI s2_2), .int a1_4, .int (nI h2_5), .long z2_6, .int (nI n2_7), .int (zI l2_8), .int (zI e2_9)], aI G ak 40 kF, aI G am 40 mF, aI G ao 40 oF, aI G ap 40 pF, aI G ax 1600 xF, aI G ay 40 (fun lv => nI (LN lv)), aI G ad 80 dF, aJ G an 80 nF, aI G ab 80 bF, aI G ar 4 rF, aI G ac 4 cF, aI G at_ 40 tF, aI G aq 100 q2_3] := hD
          refine lv_iload_n hF.1 hF.2.1 dX8_enter_59 rfl (lv_at hl 0 rfl) ?_
          refine kRetI (v := r0_1) hF hr hlk hK hP hD hS hQ rfl (r0_1, r0_1, ro, s2_2, q2_3, a1_4, h2_5, z2_6, n2_7, l2_8, e2_9) [0, 1, 2, 3, 4, 5, 6, 7, 8, 9, 10, 11, 12, 13] (by decide) rfl (Nat.le_of_ble_eq_true rfl) (Nat.le_of_ble_eq_true rfl) dX8_enter_60 ?_
          refine ⟨rfl, ?_⟩
          rw [← hT.1, etR]
          first | (rw [if_pos hneg]; done) | (rw [if_neg hnn]; first | (rw [if_neg (by assumption)]; done) | (rw [if_pos (by assumption)]; first | (rw [pI_f (by assumption)]; done) | (rw [pI_t (by assumption)]; first | (rw [if_pos (by assumption)]; done) | (rw [if_neg (by assumption)]; done))))
        · refine lv_iload_n hF.1 hF.2.1 dX8_enter_48 rfl (lv_at hl 0 rfl) ?_
          refine lv_goto (tgt := 56) hF.1 hF.2.1 dX8_enter_49 (by decide) ?_
          refine kPut (C := RX8) (T := TX8) (N := 29) (index := 108) (v := .int r0_1) hF hK hP hD hS (inT inBX8) tyX8_ok nmX8 0 rfl rfl 15 (by decide) rfl (List.mem_cons_of_mem _ mF_X8_108) rfl rfl rfl (Nat.le_of_ble_eq_true rfl) dX8_enter_56 (fun H locs hP hD hS => ?_)
          have hP : PG G [oC x 8 [.ref ak, .ref am, .ref ao, .ref av, .ref ap, .ref ax, .ref ay, .int (nI ec), .ref ad, .ref an, .ref ab, .int (nI vn), .ref ar, .ref ac, .int us, .int r0_1, .int r0_1, .ref at_, .int (nI tn), .ref as_, .int (nI sn), .ref aq, .int (nI s2_2), .int a1_4, .int (nI h2_5), .long z2_6, .int (nI n2_7), .int (zI l2_8), .int (zI e2_9)], aI G ak 40 kF, aI G am 40 mF, aI G ao 40 oF, aI G ap 40 pF, aI G ax 1600 xF, aI G ay 40 (fun lv => nI (LN lv)), aI G ad 80 dF, aJ G an 80 nF, aI G ab 80 bF, aI G ar 4 rF, aI G ac 4 cF, aI G at_ 40 tF, aI G aq 100 q2_3] H := hP
          have hD : va_D A [oC x 8 [.ref ak, .ref am, .ref ao, .ref av, .ref ap, .ref ax, .ref ay, .int (nI ec), .ref ad, .ref an, .ref ab, .int (nI vn), .ref ar, .ref ac, .int us, .int r0_1, .int r0_1, .ref at_, .int (nI tn), .ref as_, .int (nI sn), .ref aq, .int (nI s2_2), .int a1_4, .int (nI h2_5), .long z2_6, .int (nI n2_7), .int (zI l2_8), .int (zI e2_9)], aI G ak 40 kF, aI G am 40 mF, aI G ao 40 oF, aI G ap 40 pF, aI G ax 1600 xF, aI G ay 40 (fun lv => nI (LN lv)), aI G ad 80 dF, aJ G an 80 nF, aI G ab 80 bF, aI G ar 4 rF, aI G ac 4 cF, aI G at_ 40 tF, aI G aq 100 q2_3] := hD
          refine lv_iload_n hF.1 hF.2.1 dX8_enter_59 rfl (lv_at hl 0 rfl) ?_
          refine kRetI (v := r0_1) hF hr hlk hK hP hD hS hQ rfl (r0_1, r0_1, r0_1, s2_2, q2_3, a1_4, h2_5, z2_6, n2_7, l2_8, e2_9) [0, 1, 2, 3, 4, 5, 6, 7, 8, 9, 10, 11, 12, 13] (by decide) rfl (Nat.le_of_ble_eq_true rfl) (Nat.le_of_ble_eq_true rfl) dX8_enter_60 ?_
          refine ⟨rfl, ?_⟩
          rw [← hT.1, etR]
          first | (rw [if_pos hneg]; done) | (rw [if_neg hnn]; first | (rw [if_neg (by assumption)]; done) | (rw [if_pos (by assumption)]; first | (rw [pI_f (by assumption)]; done) | (rw [pI_t (by assumption)]; first | (rw [if_pos (by assumption)]; done) | (rw [if_neg (by assumption)]; done))))
      · refine lv_bipush (v := (-3)) hF.1 hF.2.1 dX8_enter_35 (by decide) ?_
        refine kRetI (v := (-3)) hF hr hlk hK hP hD hS hQ rfl ((-3), pr, ro, s2_2, q2_3, a1_4, h2_5, z2_6, n2_7, l2_8, e2_9) [0, 1, 2, 3, 4, 5, 6, 7, 8, 9, 10, 11, 12, 13] (by decide) rfl (Nat.le_of_ble_eq_true rfl) (Nat.le_of_ble_eq_true rfl) dX8_enter_37 ?_
        refine ⟨rfl, ?_⟩
        rw [← hT.1, etR]
        first | (rw [if_pos hneg]; done) | (rw [if_neg hnn]; first | (rw [if_neg (by assumption)]; done) | (rw [if_pos (by assumption)]; first | (rw [pI_f (by assumption)]; done) | (rw [pI_t (by assumption)]; first | (rw [if_pos (by assumption)]; done) | (rw [if_neg (by assumption)]; done))))
    · refine lv_bipush (v := (-2)) hF.1 hF.2.1 dX8_enter_23 (by decide) ?_
      refine kRetI (v := (-2)) hF hr hlk hK hP hD hS hQ rfl ((-2), pr, ro, s2_2, q2_3, a1_4, h2_5, z2_6, n2_7, l2_8, e2_9) [0, 1, 2, 3, 4, 5, 6, 7, 8, 9, 10, 11, 12, 13] (by decide) rfl (Nat.le_of_ble_eq_true rfl) (Nat.le_of_ble_eq_true rfl) dX8_enter_25 ?_
      refine ⟨rfl, ?_⟩
      rw [← hT.1, etR]
      first | (rw [if_pos hneg]; done) | (rw [if_neg hnn]; first | (rw [if_neg (by assumption)]; done) | (rw [if_pos (by assumption)]; first | (rw [pI_f (by assumption)]; done) | (rw [pI_t (by assumption)]; first | (rw [if_pos (by assumption)]; done) | (rw [if_neg (by assumption)]; done))))
  · have hneg := Int32.not_le.mp c_11
    refine lv_iload_n hF.1 hF.2.1 dX8_enter_11 rfl (lv_at hl 0 rfl) ?_
    refine kRetI (v := r0_1) hF hr hlk hK hP hD hS hQ rfl (r0_1, pr, ro, s2_2, q2_3, a1_4, h2_5, z2_6, n2_7, l2_8, e2_9) [0, 1, 2, 3, 4, 5, 6, 7, 8, 9, 10, 11, 12, 13] (by decide) rfl (Nat.le_of_ble_eq_true rfl) (Nat.le_of_ble_eq_true rfl) dX8_enter_12 ?_
    refine ⟨rfl, ?_⟩
    rw [← hT.1, etR]
    first | (rw [if_pos hneg]; done) | (rw [if_neg hnn]; first | (rw [if_neg (by assumption)]; done) | (rw [if_pos (by assumption)]; first | (rw [pI_f (by assumption)]; done) | (rw [pI_t (by assumption)]; first | (rw [if_pos (by assumption)]; done) | (rw [if_neg (by assumption)]; done))))
set_option maxHeartbeats 4000000 in
set_option maxRecDepth 100000 in
theorem c_X8_change (l : Launch) (G : GG) (sz : Nat) (x : Nat) (ak : Nat) (am : Nat) (ao : Nat) (av : Nat) (ap : Nat) (ax : Nat) (ay : Nat) (ad : Nat) (an : Nat) (ab : Nat) (ar : Nat) (ac : Nat) (at_ : Nat) (as_ : Nat) (aq : Nat) (ec : Nat) (vn : Nat) (tn : Nat) (sn : Nat) (qn : Nat) (hp : Nat) (ns : Nat) (us : Int32) (ro : Int32) (pr : Int32) (wa : Int32) (nm : Int64) (la : Prop) (sl : Prop) (kF : Nat → Int32) (mF : Nat → Int32) (oF : Nat → Int32) (pF : Nat → Int32) (xF : Nat → Int32) (LN : Nat → Nat) (dF : Nat → Int32) (nF : Nat → Int64) (bF : Nat → Int32) (rF : Nat → Int32) (cF : Nat → Int32) (tF : Nat → Int32) (qF : Nat → Int32) (mo : Int32) (hvn : 1 ≤ vn ∧ vn ≤ 4) (hcr : ∀ v, v < 4 → cF v = -1 ∨ vp_in (cF v) 40) (hrr : ∀ v, v < 4 → vp_in (rF v) 40) (hpr : ∀ i, i < 40 → vp_in (pF i) 40) (hbr : ∀ k, k < ec → vp_in (bF k) 40) (hro : vp_in ro 40) (hec : ec ≤ 80) (hLN : ∀ i, i < 40 → LN i ≤ 40) (hn : tn ≤ 40) (hpp : vp_in pr 40) : CtI l G yX8_change wsX8_change 5 114 0 0 sz [.ref x, .int mo] [oC x 8 [.ref ak, .ref am, .ref ao, .ref av, .ref ap, .ref ax, .ref ay, .int (nI ec), .ref ad, .ref an, .ref ab, .int (nI vn), .ref ar, .ref ac, .int us, .int ro, .int pr, .ref at_, .int (nI tn), .ref as_, .int (nI sn), .ref aq, .int (nI qn), .int wa, .int (nI hp), .long nm, .int (nI ns), .int (zI la), .int (zI sl)], aI G ak 40 kF, aI G am 40 mF, aI G ao 40 oF, aI G ap 40 pF, aI G ax 1600 xF, aI G ay 40 (fun lv => nI (LN lv)), aI G ad 80 dF, aJ G an 80 nF, aI G ab 80 bF, aI G ar 4 rF, aI G ac 4 cF, aI G at_ 40 tF, aI G aq 100 qF] (fun r (u : Int32 × (Nat → Int32) × Nat × (Nat → Int32) × Int32 × Nat × Int64 × Nat × Prop × Prop) => match u with | (r0, m2, s2, q2, a1, h2, z2, n2, l2, e2) => r = r0 ∧ (r0, m2) = chR mF oF us mo (wkT kF mF oF pF rF cF xF vn dF nF bF ec LN us ro pr (nI 1) qF tn tF)) (fun (u : Int32 × (Nat → Int32) × Nat × (Nat → Int32) × Int32 × Nat × Int64 × Nat × Prop × Prop) => match u with | (r0, m2, s2, q2, a1, h2, z2, n2, l2, e2) => [oC x 8 [.ref ak, .ref am, .ref ao, .ref av, .ref ap, .ref ax, .ref ay, .int (nI ec), .ref ad, .ref an, .ref ab, .int (nI vn), .ref ar, .ref ac, .int us, .int ro, .int pr, .ref at_, .int (nI tn), .ref as_, .int (nI sn), .ref aq, .int (nI s2), .int a1, .int (nI h2), .long z2, .int (nI n2), .int (zI l2), .int (zI e2)], aI G ak 40 kF, aI G am 40 m2, aI G ao 40 oF, aI G ap 40 pF, aI G ax 1600 xF, aI G ay 40 (fun lv => nI (LN lv)), aI G ad 80 dF, aJ G an 80 nF, aI G ab 80 bF, aI G ar 4 rF, aI G ac 4 cF, aI G at_ 40 tF, aI G aq 100 q2]) := by
  refine kMet (Qc := fun A => va_Qi _ (Bw G A _) A) (cc := cX8_change) (nL := 4) (ret := some (.int)) (by decide) rfl (Nat.le_of_ble_eq_true rfl) ?_
  intro p e s m args below meth c A Q hF hr hlk hnme hK hP hD hA hS hQ hsz ls hl
  have hl : lv_has ls 4 [(0, .ref x), (1, .int mo)] := hl
  refine lv_iload_n hF.1 hF.2.1 dX8_change_0 rfl (lv_at hl 1 rfl) ?_
  refine lv_if_lt (tgt := 10) hF.1 hF.2.1 dX8_change_1 (by decide) (fun c_1 => ?_) (fun c_1 => ?_)
  · refine lv_bipush (v := (-11)) hF.1 hF.2.1 dX8_change_10 (by decide) ?_
    refine kRetI (v := (-11)) hF hr hlk hK hP hD hS hQ rfl ((-11), mF, qn, qF, wa, hp, nm, ns, la, sl) [0, 1, 2, 3, 4, 5, 6, 7, 8, 9, 10, 11, 12, 13] (by decide) rfl (Nat.le_of_ble_eq_true rfl) (Nat.le_of_ble_eq_true rfl) dX8_change_12 ?_
    exact ⟨rfl, (if_neg (fun h => by first | exact absurd (by assumption) h.1 | exact absurd hmo h.2)).symm⟩
  · refine lv_iload_n hF.1 hF.2.1 dX8_change_4 rfl (lv_at hl 1 rfl) ?_
    refine lv_bipush (v := (nI 15)) hF.1 hF.2.1 dX8_change_5 (by decide) ?_
    refine lv_icmp_le (tgt := 13) hF.1 hF.2.1 dX8_change_7 (by decide) (fun c_2 => ?_) (fun c_2 => ?_)
    · have hmo := Int32.not_lt.mpr c_2
      refine lv_aload_n hF.1 hF.2.1 dX8_change_13 rfl (lv_at hl 0 rfl) ?_
      refine lv_iconst (v := (nI 0)) hF.1 hF.2.1 dX8_change_14 (by decide) ?_
      refine lv_iconst (v := (nI 1)) hF.1 hF.2.1 dX8_change_15 (by decide) ?_
      refine kCallI (wr := []) (va_runV (As := [.int (nI 0), .int (nI 1)]) (rest := []) hF (c_X8_walk0 l G _ x ak am ao av ap ax ay ad an ab ar ac at_ as_ aq ec vn tn sn qn hp ns us ro pr wa nm la sl kF mF oF pF xF LN dF nF bF rF cF tF qF (nI 1) (by first | assumption | omega) (by first | assumption | omega) (by first | assumption | omega) (by first | assumption | omega) (by first | assumption | omega) (by first | assumption | omega) (by first | assumption | omega) (by first | assumption | omega) (by first | assumption | omega) (by first | assumption | omega)) (cwVB 2 hF rfl mL_X8_157 mI_X8_walk mS_X8_walk mN_X8 mC_X8_walk rfl hd_X8_walk rfl rfl ⟨Nat.le_of_ble_eq_true rfl, Nat.le_of_ble_eq_true rfl⟩) (kPre hK hP hD [0, 1, 2, 3, 4, 5, 6, 7, 8, 9, 10, 11, 12, 13] (by decide) rfl (q0 := 0) (ci := 8) rfl rfl rfl) rfl rfl hl.1 rfl (lv_room (Nat.le_of_ble_eq_true rfl)) dX8_change_16 ⟨Nat.le_of_ble_eq_true rfl, Nat.le_of_ble_eq_true rfl⟩) hP hD hS hA [0, 1, 2, 3, 4, 5, 6, 7, 8, 9, 10, 11, 12, 13] [] rfl rfl (by decide) (by decide) (fun r u H locs hw_12 hP hD hS => ?_)
      obtain ⟨r0_3, s2_4, q2_5, a1_6, h2_7, z2_8, n2_9, l2_10, e2_11⟩ := u
      obtain ⟨hz, hw_12⟩ := hw_12
      have hz := hz.symm
      subst hz
      have hP : PG G [oC x 8 [.ref ak, .ref am, .ref ao, .ref av, .ref ap, .ref ax, .ref ay, .int (nI ec), .ref ad, .ref an, .ref ab, .int (nI vn), .ref ar, .ref ac, .int us, .int ro, .int pr, .ref at_, .int (nI tn), .ref as_, .int (nI sn), .ref aq, .int (nI s2_4), .int a1_6, .int (nI h2_7), .long z2_8, .int (nI n2_9), .int (zI l2_10), .int (zI e2_11)], aI G ak 40 kF, aI G am 40 mF, aI G ao 40 oF, aI G ap 40 pF, aI G ax 1600 xF, aI G ay 40 (fun lv => nI (LN lv)), aI G ad 80 dF, aJ G an 80 nF, aI G ab 80 bF, aI G ar 4 rF, aI G ac 4 cF, aI G at_ 40 tF, aI G aq 100 q2_5] H := hP
      have hD : va_D A [oC x 8 [.ref ak, .ref am, .ref ao, .ref av, .ref ap, .ref ax, .ref ay, .int (nI ec), .ref ad, .ref an, .ref ab, .int (nI vn), .ref ar, .ref ac, .int us, .int ro, .int pr, .ref at_, .int (nI tn), .ref as_, .int (nI sn), .ref aq, .int (nI s2_4), .int a1_6, .int (nI h2_7), .long z2_8, .int (nI n2_9), .int (zI l2_10), .int (zI e2_11)], aI G ak 40 kF, aI G am 40 mF, aI G ao 40 oF, aI G ap 40 pF, aI G ax 1600 xF, aI G ay 40 (fun lv => nI (LN lv)), aI G ad 80 dF, aJ G an 80 nF, aI G ab 80 bF, aI G ar 4 rF, aI G ac 4 cF, aI G at_ 40 tF, aI G aq 100 q2_5] := hD
      have hT := hw_12
      refine lv_istore_n (lv' := [(2, .int r0_3), (0, .ref x), (1, .int mo)]) hF.1 hF.2.1 dX8_change_19 rfl hl (by decide) rfl (fun ls hl => ?_)
      refine lv_iload_n hF.1 hF.2.1 dX8_change_20 rfl (lv_at hl 0 rfl) ?_
      refine lv_if_ge (tgt := 26) hF.1 hF.2.1 dX8_change_21 (by decide) (fun c_13 => ?_) (fun c_13 => ?_)
      · have hnn := Int32.not_lt.mpr c_13
        refine lv_aload_n hF.1 hF.2.1 dX8_change_26 rfl (lv_at hl 1 rfl) ?_
        refine kGet (C := RX8) (T := TX8) (N := 29) (index := 66) hF hK hP (inT inBX8) 0 rfl rfl 14 (by decide) rfl (List.mem_cons_of_mem _ mF_X8_66) rfl dX8_change_27 ?_
        refine lv_if_eq (tgt := 49) hF.1 hF.2.1 dX8_change_30 (by decide) (fun c_14 => ?_) (fun c_14 => ?_)
        · refine lv_aload_n hF.1 hF.2.1 dX8_change_49 rfl (lv_at hl 1 rfl) ?_
          refine kGet (C := RX8) (T := TX8) (N := 29) (index := 13) hF hK hP (inT inBX8) 0 rfl rfl 1 (by decide) rfl (List.mem_cons_of_mem _ mF_X8_13) rfl dX8_change_50 ?_
          refine lv_iload_n hF.1 hF.2.1 dX8_change_53 rfl (lv_at hl 0 rfl) ?_
          refine kIald hF hK hP 2 rfl (hT.2 hnn) dX8_change_54 ?_
          refine lv_istore_n (lv' := [(3, .int (mF (ix r0_3))), (2, .int r0_3), (0, .ref x), (1, .int mo)]) hF.1 hF.2.1 dX8_change_55 rfl hl (by decide) rfl (fun ls hl => ?_)
          refine lv_aload_n hF.1 hF.2.1 dX8_change_56 rfl (lv_at hl 2 rfl) ?_
          refine kGet (C := RX8) (T := TX8) (N := 29) (index := 13) hF hK hP (inT inBX8) 0 rfl rfl 1 (by decide) rfl (List.mem_cons_of_mem _ mF_X8_13) rfl dX8_change_57 ?_
          refine lv_iload_n hF.1 hF.2.1 dX8_change_60 rfl (lv_at hl 1 rfl) ?_
          refine lv_iload_n hF.1 hF.2.1 dX8_change_61 rfl (lv_at hl 3 rfl) ?_
          refine kIast hF hK hP hD hS 2 rfl (hT.2 hnn) dX8_change_62 (fun H locs hP hD hS => ?_)
          have hP : PG G [oC x 8 [.ref ak, .ref am, .ref ao, .ref av, .ref ap, .ref ax, .ref ay, .int (nI ec), .ref ad, .ref an, .ref ab, .int (nI vn), .ref ar, .ref ac, .int us, .int ro, .int pr, .ref at_, .int (nI tn), .ref as_, .int (nI sn), .ref aq, .int (nI s2_4), .int a1_6, .int (nI h2_7), .long z2_8, .int (nI n2_9), .int (zI l2_10), .int (zI e2_11)], aI G ak 40 kF, aI G am 40 (upd mF (ix r0_3) mo), aI G ao 40 oF, aI G ap 40 pF, aI G ax 1600 xF, aI G ay 40 (fun lv => nI (LN lv)), aI G ad 80 dF, aJ G an 80 nF, aI G ab 80 bF, aI G ar 4 rF, aI G ac 4 cF, aI G at_ 40 tF, aI G aq 100 q2_5] H := hP
          have hD : va_D A [oC x 8 [.ref ak, .ref am, .ref ao, .ref av, .ref ap, .ref ax, .ref ay, .int (nI ec), .ref ad, .ref an, .ref ab, .int (nI vn), .ref ar, .ref ac, .int us, .int ro, .int pr, .ref at_, .int (nI tn), .ref as_, .int (nI sn), .ref aq, .int (nI s2_4), .int a1_6, .int (nI h2_7), .long z2_8, .int (nI n2_9), .int (zI l2_10), .int (zI e2_11)], aI G ak 40 kF, aI G am 40 (upd mF (ix r0_3) mo), aI G ao 40 oF, aI G ap 40 pF, aI G ax 1600 xF, aI G ay 40 (fun lv => nI (LN lv)), aI G ad 80 dF, aJ G an 80 nF, aI G ab 80 bF, aI G ar 4 rF, aI G ac 4 cF, aI G at_ 40 tF, aI G aq 100 q2_5] := hD
          refine lv_iload_n hF.1 hF.2.1 dX8_change_63 rfl (lv_at hl 0 rfl) ?_
          refine kRetI (v := (mF (ix r0_3))) hF hr hlk hK hP hD hS hQ rfl ((mF (ix r0_3)), upd mF (ix r0_3) mo, s2_4, q2_5, a1_6, h2_7, z2_8, n2_9, l2_10, e2_11) [0, 1, 2, 3, 4, 5, 6, 7, 8, 9, 10, 11, 12, 13] (by decide) rfl (Nat.le_of_ble_eq_true rfl) (Nat.le_of_ble_eq_true rfl) dX8_change_64 ?_
          refine ⟨rfl, ?_⟩
          rw [← hT.1, chR, if_pos ⟨by assumption, hmo⟩]
          first | (rw [if_pos hneg]; done) | (rw [if_neg hnn]; first | (rw [if_pos (by first | exact Or.inl (by assumption) | exact Or.inr (by assumption))]; done) | (rw [if_neg (fun h => by rcases h with h | h <;> contradiction)]; done))
        · refine lv_aload_n hF.1 hF.2.1 dX8_change_33 rfl (lv_at hl 1 rfl) ?_
          refine kGet (C := RX8) (T := TX8) (N := 29) (index := 16) hF hK hP (inT inBX8) 0 rfl rfl 2 (by decide) rfl (List.mem_cons_of_mem _ mF_X8_16) rfl dX8_change_34 ?_
          refine lv_iload_n hF.1 hF.2.1 dX8_change_37 rfl (lv_at hl 0 rfl) ?_
          refine kIald hF hK hP 3 rfl (hT.2 hnn) dX8_change_38 ?_
          refine lv_aload_n hF.1 hF.2.1 dX8_change_39 rfl (lv_at hl 1 rfl) ?_
          refine kGet (C := RX8) (T := TX8) (N := 29) (index := 66) hF hK hP (inT inBX8) 0 rfl rfl 14 (by decide) rfl (List.mem_cons_of_mem _ mF_X8_66) rfl dX8_change_40 ?_
          refine lv_icmp_eq (tgt := 49) hF.1 hF.2.1 dX8_change_43 (by decide) (fun c_15 => ?_) (fun c_15 => ?_)
          · refine lv_aload_n hF.1 hF.2.1 dX8_change_49 rfl (lv_at hl 1 rfl) ?_
            refine kGet (C := RX8) (T := TX8) (N := 29) (index := 13) hF hK hP (inT inBX8) 0 rfl rfl 1 (by decide) rfl (List.mem_cons_of_mem _ mF_X8_13) rfl dX8_change_50 ?_
            refine lv_iload_n hF.1 hF.2.1 dX8_change_53 rfl (lv_at hl 0 rfl) ?_
            refine kIald hF hK hP 2 rfl (hT.2 hnn) dX8_change_54 ?_
            refine lv_istore_n (lv' := [(3, .int (mF (ix r0_3))), (2, .int r0_3), (0, .ref x), (1, .int mo)]) hF.1 hF.2.1 dX8_change_55 rfl hl (by decide) rfl (fun ls hl => ?_)
            refine lv_aload_n hF.1 hF.2.1 dX8_change_56 rfl (lv_at hl 2 rfl) ?_
            refine kGet (C := RX8) (T := TX8) (N := 29) (index := 13) hF hK hP (inT inBX8) 0 rfl rfl 1 (by decide) rfl (List.mem_cons_of_mem _ mF_X8_13) rfl dX8_change_57 ?_
            refine lv_iload_n hF.1 hF.2.1 dX8_change_60 rfl (lv_at hl 1 rfl) ?_
            refine lv_iload_n hF.1 hF.2.1 dX8_change_61 rfl (lv_at hl 3 rfl) ?_
            refine kIast hF hK hP hD hS 2 rfl (hT.2 hnn) dX8_change_62 (fun H locs hP hD hS => ?_)
            have hP : PG G [oC x 8 [.ref ak, .ref am, .ref ao, .ref av, .ref ap, .ref ax, .ref ay, .int (nI ec), .ref ad, .ref an, .ref ab, .int (nI vn), .ref ar, .ref ac, .int us, .int ro, .int pr, .ref at_, .int (nI tn), .ref as_, .int (nI sn), .ref aq, .int (nI s2_4), .int a1_6, .int (nI h2_7), .long z2_8, .int (nI n2_9), .int (zI l2_10), .int (zI e2_11)], aI G ak 40 kF, aI G am 40 (upd mF (ix r0_3) mo), aI G ao 40 oF, aI G ap 40 pF, aI G ax 1600 xF, aI G ay 40 (fun lv => nI (LN lv)), aI G ad 80 dF, aJ G an 80 nF, aI G ab 80 bF, aI G ar 4 rF, aI G ac 4 cF, aI G at_ 40 tF, aI G aq 100 q2_5] H := hP
            have hD : va_D A [oC x 8 [.ref ak, .ref am, .ref ao, .ref av, .ref ap, .ref ax, .ref ay, .int (nI ec), .ref ad, .ref an, .ref ab, .int (nI vn), .ref ar, .ref ac, .int us, .int ro, .int pr, .ref at_, .int (nI tn), .ref as_, .int (nI sn), .ref aq, .int (nI s2_4), .int a1_6, .int (nI h2_7), .long z2_8, .int (nI n2_9), .int (zI l2_10), .int (zI e2_11)], aI G ak 40 kF, aI G am 40 (upd mF (ix r0_3) mo), aI G ao 40 oF, aI G ap 40 pF, aI G ax 1600 xF, aI G ay 40 (fun lv => nI (LN lv)), aI G ad 80 dF, aJ G an 80 nF, aI G ab 80 bF, aI G ar 4 rF, aI G ac 4 cF, aI G at_ 40 tF, aI G aq 100 q2_5] := hD
            refine lv_iload_n hF.1 hF.2.1 dX8_change_63 rfl (lv_at hl 0 rfl) ?_
            refine kRetI (v := (mF (ix r0_3))) hF hr hlk hK hP hD hS hQ rfl ((mF (ix r0_3)), upd mF (ix r0_3) mo, s2_4, q2_5, a1_6, h2_7, z2_8, n2_9, l2_10, e2_11) [0, 1, 2, 3, 4, 5, 6, 7, 8, 9, 10, 11, 12, 13] (by decide) rfl (Nat.le_of_ble_eq_true rfl) (Nat.le_of_ble_eq_true rfl) dX8_change_64 ?_
            refine ⟨rfl, ?_⟩
            rw [← hT.1, chR, if_pos ⟨by assumption, hmo⟩]
            first | (rw [if_pos hneg]; done) | (rw [if_neg hnn]; first | (rw [if_pos (by first | exact Or.inl (by assumption) | exact Or.inr (by assumption))]; done) | (rw [if_neg (fun h => by rcases h with h | h <;> contradiction)]; done))
          · refine lv_bipush (v := (-3)) hF.1 hF.2.1 dX8_change_46 (by decide) ?_
            refine kRetI (v := (-3)) hF hr hlk hK hP hD hS hQ rfl ((-3), mF, s2_4, q2_5, a1_6, h2_7, z2_8, n2_9, l2_10, e2_11) [0, 1, 2, 3, 4, 5, 6, 7, 8, 9, 10, 11, 12, 13] (by decide) rfl (Nat.le_of_ble_eq_true rfl) (Nat.le_of_ble_eq_true rfl) dX8_change_48 ?_
            refine ⟨rfl, ?_⟩
            rw [← hT.1, chR, if_pos ⟨by assumption, hmo⟩]
            first | (rw [if_pos hneg]; done) | (rw [if_neg hnn]; first | (rw [if_pos (by first | exact Or.inl (by assumption) | exact Or.inr (by assumption))]; done) | (rw [if_neg (fun h => by rcases h with h | h <;> contradiction)]; done))
      · have hneg := Int32.not_le.mp c_13
        refine lv_iload_n hF.1 hF.2.1 dX8_change_24 rfl (lv_at hl 0 rfl) ?_
        refine kRetI (v := r0_3) hF hr hlk hK hP hD hS hQ rfl (r0_3, mF, s2_4, q2_5, a1_6, h2_7, z2_8, n2_9, l2_10, e2_11) [0, 1, 2, 3, 4, 5, 6, 7, 8, 9, 10, 11, 12, 13] (by decide) rfl (Nat.le_of_ble_eq_true rfl) (Nat.le_of_ble_eq_true rfl) dX8_change_25 ?_
        refine ⟨rfl, ?_⟩
        rw [← hT.1, chR, if_pos ⟨by assumption, hmo⟩]
        first | (rw [if_pos hneg]; done) | (rw [if_neg hnn]; first | (rw [if_pos (by first | exact Or.inl (by assumption) | exact Or.inr (by assumption))]; done) | (rw [if_neg (fun h => by rcases h with h | h <;> contradiction)]; done))
    · have hmo := Int32.not_le.mp c_2
      refine lv_bipush (v := (-11)) hF.1 hF.2.1 dX8_change_10 (by decide) ?_
      refine kRetI (v := (-11)) hF hr hlk hK hP hD hS hQ rfl ((-11), mF, qn, qF, wa, hp, nm, ns, la, sl) [0, 1, 2, 3, 4, 5, 6, 7, 8, 9, 10, 11, 12, 13] (by decide) rfl (Nat.le_of_ble_eq_true rfl) (Nat.le_of_ble_eq_true rfl) dX8_change_12 ?_
      exact ⟨rfl, (if_neg (fun h => by first | exact absurd (by assumption) h.1 | exact absurd hmo h.2)).symm⟩
set_option maxHeartbeats 4000000 in
set_option maxRecDepth 100000 in
theorem c_X8_below (l : Launch) (G : GG) (sz : Nat) (x : Nat) (ak : Nat) (am : Nat) (ao : Nat) (av : Nat) (ap : Nat) (ax : Nat) (ay : Nat) (ad : Nat) (an : Nat) (ab : Nat) (ar : Nat) (ac : Nat) (at_ : Nat) (as_ : Nat) (aq : Nat) (ec : Nat) (vn : Nat) (tn : Nat) (sn : Nat) (qn : Nat) (hp : Nat) (ns : Nat) (us : Int32) (ro : Int32) (pr : Int32) (wa : Int32) (nm : Int64) (la : Prop) (sl : Prop) (pF : Nat → Int32) (rF : Nat → Int32) (cF : Nat → Int32) (lo hi : Int32) (hvn : 1 ≤ vn ∧ vn ≤ 4) (hcr : ∀ v, v < 4 → cF v = -1 ∨ vp_in (cF v) 40) (hrr : ∀ v, v < 4 → vp_in (rF v) 40) (hpr : ∀ i, i < 40 → vp_in (pF i) 40) (hlo : vp_in lo 40) : CtI l G yX8_below wsX8_below 3 68 0 0 sz [.ref x, .int lo, .int hi] [oC x 8 [.ref ak, .ref am, .ref ao, .ref av, .ref ap, .ref ax, .ref ay, .int (nI ec), .ref ad, .ref an, .ref ab, .int (nI vn), .ref ar, .ref ac, .int us, .int ro, .int pr, .ref at_, .int (nI tn), .ref as_, .int (nI sn), .ref aq, .int (nI qn), .int wa, .int (nI hp), .long nm, .int (nI ns), .int (zI la), .int (zI sl)], aI G ap 40 pF, aI G ar 4 rF, aI G ac 4 cF] (fun r (_ : Unit) => r = (zI (iaR rF cF pF vn 50 lo hi = hi))) (fun (_ : Unit) => [oC x 8 [.ref ak, .ref am, .ref ao, .ref av, .ref ap, .ref ax, .ref ay, .int (nI ec), .ref ad, .ref an, .ref ab, .int (nI vn), .ref ar, .ref ac, .int us, .int ro, .int pr, .ref at_, .int (nI tn), .ref as_, .int (nI sn), .ref aq, .int (nI qn), .int wa, .int (nI hp), .long nm, .int (nI ns), .int (zI la), .int (zI sl)], aI G ap 40 pF, aI G ar 4 rF, aI G ac 4 cF]) := by
  refine kMet (Qc := fun A => va_Qi _ (Bw G A _) A) (cc := cX8_below) (nL := 5) (ret := some (.boolean)) (by decide) rfl (Nat.le_of_ble_eq_true rfl) ?_
  intro p e s m args below meth c A Q hF hr hlk hnme hK hP hD hA hS hQ hsz ls hl
  have hl : lv_has ls 5 [(0, .ref x), (1, .int lo), (2, .int hi)] := hl
  refine lv_iload_n hF.1 hF.2.1 dX8_below_0 rfl (lv_at hl 1 rfl) ?_
  refine lv_istore_n (lv' := [(3, .int lo), (0, .ref x), (1, .int lo), (2, .int hi)]) hF.1 hF.2.1 dX8_below_1 rfl hl (by decide) rfl (fun ls hl => ?_)
  refine lv_iconst (v := (nI 0)) hF.1 hF.2.1 dX8_below_2 (by decide) ?_
  refine lv_istore (lv' := [(4, .int (nI 0)), (3, .int lo), (0, .ref x), (1, .int lo), (2, .int hi)]) hF.1 hF.2.1 dX8_below_3 hl (by decide) rfl (fun ls hl => ?_)
  have loop_5 : ∀ (n_5 : Nat) (k : Nat) (h : Int32), 50 - k < n_5 → (k ≤ 50) → (vp_in h 40) → (iaR rF cF pF vn (50 - k) h hi = iaR rF cF pF vn 50 lo hi) → ∀ (H : Heap) (locs : List Loc) (ls : Array Slot), PG G [oC x 8 [.ref ak, .ref am, .ref ao, .ref av, .ref ap, .ref ax, .ref ay, .int (nI ec), .ref ad, .ref an, .ref ab, .int (nI vn), .ref ar, .ref ac, .int us, .int ro, .int pr, .ref at_, .int (nI tn), .ref as_, .int (nI sn), .ref aq, .int (nI qn), .int wa, .int (nI hp), .long nm, .int (nI ns), .int (zI la), .int (zI sl)], aI G ap 40 pF, aI G ar 4 rF, aI G ac 4 cF] H → va_D A [oC x 8 [.ref ak, .ref am, .ref ao, .ref av, .ref ap, .ref ax, .ref ay, .int (nI ec), .ref ad, .ref an, .ref ab, .int (nI vn), .ref ar, .ref ac, .int us, .int ro, .int pr, .ref at_, .int (nI tn), .ref as_, .int (nI sn), .ref aq, .int (nI qn), .int wa, .int (nI hp), .long nm, .int (nI ns), .int (zI la), .int (zI sl)], aI G ap 40 pF, aI G ar 4 rF, aI G ac 4 cF] → va_S A s.heap H locs → lv_has ls 5 [(4, .int (nI k)), (3, .int h), (0, .ref x), (1, .int lo), (2, .int hi)] → W p l e (Rm 3 0 0 68) s m args below meth c H locs 0 0 Q (F0 m 5 ls []) := by
    intro n_5
    induction n_5 with
    | zero => intro k h hm; exact absurd hm (Nat.not_lt_zero _)
    | succ n_5 ih_5 =>
      intro k h hm_5 hk hb hR H locs ls hP hD hS hl
      refine lv_iload hF.1 hF.2.1 dX8_below_5 (lv_at hl 0 rfl) ?_
      refine lv_bipush (v := (nI 50)) hF.1 hF.2.1 dX8_below_7 (by decide) ?_
      refine kGeN (tgt := 34) hF dX8_below_9 (by decide) (by omega) (by omega) (fun c_1 => ?_) (fun c_1 => ?_)
      · refine lv_iload_n hF.1 hF.2.1 dX8_below_34 rfl (lv_at hl 1 rfl) ?_
        refine lv_iload_n hF.1 hF.2.1 dX8_below_35 rfl (lv_at hl 4 rfl) ?_
        refine lv_icmp_ne (tgt := 43) hF.1 hF.2.1 dX8_below_36 (by decide) (fun c_2 => ?_) (fun c_2 => ?_)
        · refine lv_iconst (v := (nI 0)) hF.1 hF.2.1 dX8_below_43 (by decide) ?_
          refine kRetI (v := (nI 0)) hF hr hlk hK hP hD hS hQ rfl () [0, 1, 2, 3] (by decide) rfl (Nat.le_of_ble_eq_true rfl) (Nat.le_of_ble_eq_true rfl) dX8_below_44 ?_
          exact zI_0 (by rw [← hR]; first | (rw [iaR_e (by omega)]; assumption) | (rw [iaR_r (Or.inl (by assumption))]; assumption) | (rw [iaR_r (Or.inr (by assumption))]; assumption))
        · refine lv_iconst (v := (nI 1)) hF.1 hF.2.1 dX8_below_39 (by decide) ?_
          refine lv_goto (tgt := 44) hF.1 hF.2.1 dX8_below_40 (by decide) ?_
          refine kRetI (v := (nI 1)) hF hr hlk hK hP hD hS hQ rfl () [0, 1, 2, 3] (by decide) rfl (Nat.le_of_ble_eq_true rfl) (Nat.le_of_ble_eq_true rfl) dX8_below_44 ?_
          exact zI_1 (by rw [← hR]; first | (rw [iaR_e (by omega)]; assumption) | (rw [iaR_r (Or.inl (by assumption))]; assumption) | (rw [iaR_r (Or.inr (by assumption))]; assumption))
      · refine lv_iload_n hF.1 hF.2.1 dX8_below_12 rfl (lv_at hl 1 rfl) ?_
        refine lv_iload_n hF.1 hF.2.1 dX8_below_13 rfl (lv_at hl 4 rfl) ?_
        refine lv_icmp_eq (tgt := 34) hF.1 hF.2.1 dX8_below_14 (by decide) (fun c_3 => ?_) (fun c_3 => ?_)
        · refine lv_iload_n hF.1 hF.2.1 dX8_below_34 rfl (lv_at hl 1 rfl) ?_
          refine lv_iload_n hF.1 hF.2.1 dX8_below_35 rfl (lv_at hl 4 rfl) ?_
          refine lv_icmp_ne (tgt := 43) hF.1 hF.2.1 dX8_below_36 (by decide) (fun c_4 => ?_) (fun c_4 => ?_)
          · refine lv_iconst (v := (nI 0)) hF.1 hF.2.1 dX8_below_43 (by decide) ?_
            refine kRetI (v := (nI 0)) hF hr hlk hK hP hD hS hQ rfl () [0, 1, 2, 3] (by decide) rfl (Nat.le_of_ble_eq_true rfl) (Nat.le_of_ble_eq_true rfl) dX8_below_44 ?_
            exact zI_0 (by rw [← hR]; first | (rw [iaR_e (by omega)]; assumption) | (rw [iaR_r (Or.inl (by assumption))]; assumption) | (rw [iaR_r (Or.inr (by assumption))]; assumption))
          · refine lv_iconst (v := (nI 1)) hF.1 hF.2.1 dX8_below_39 (by decide) ?_
            refine lv_goto (tgt := 44) hF.1 hF.2.1 dX8_below_40 (by decide) ?_
            refine kRetI (v := (nI 1)) hF hr hlk hK hP hD hS hQ rfl () [0, 1, 2, 3] (by decide) rfl (Nat.le_of_ble_eq_true rfl) (Nat.le_of_ble_eq_true rfl) dX8_below_44 ?_
            exact zI_1 (by rw [← hR]; first | (rw [iaR_e (by omega)]; assumption) | (rw [iaR_r (Or.inl (by assumption))]; assumption) | (rw [iaR_r (Or.inr (by assumption))]; assumption))
        · refine lv_iload_n hF.1 hF.2.1 dX8_below_17 rfl (lv_at hl 1 rfl) ?_
          refine lv_if_eq (tgt := 34) hF.1 hF.2.1 dX8_below_18 (by decide) (fun c_5 => ?_) (fun c_5 => ?_)
          · refine lv_iload_n hF.1 hF.2.1 dX8_below_34 rfl (lv_at hl 1 rfl) ?_
            refine lv_iload_n hF.1 hF.2.1 dX8_below_35 rfl (lv_at hl 4 rfl) ?_
            refine lv_icmp_ne (tgt := 43) hF.1 hF.2.1 dX8_below_36 (by decide) (fun c_6 => ?_) (fun c_6 => ?_)
            · refine lv_iconst (v := (nI 0)) hF.1 hF.2.1 dX8_below_43 (by decide) ?_
              refine kRetI (v := (nI 0)) hF hr hlk hK hP hD hS hQ rfl () [0, 1, 2, 3] (by decide) rfl (Nat.le_of_ble_eq_true rfl) (Nat.le_of_ble_eq_true rfl) dX8_below_44 ?_
              exact zI_0 (by rw [← hR]; first | (rw [iaR_e (by omega)]; assumption) | (rw [iaR_r (Or.inl (by assumption))]; assumption) | (rw [iaR_r (Or.inr (by assumption))]; assumption))
            · refine lv_iconst (v := (nI 1)) hF.1 hF.2.1 dX8_below_39 (by decide) ?_
              refine lv_goto (tgt := 44) hF.1 hF.2.1 dX8_below_40 (by decide) ?_
              refine kRetI (v := (nI 1)) hF hr hlk hK hP hD hS hQ rfl () [0, 1, 2, 3] (by decide) rfl (Nat.le_of_ble_eq_true rfl) (Nat.le_of_ble_eq_true rfl) dX8_below_44 ?_
              exact zI_1 (by rw [← hR]; first | (rw [iaR_e (by omega)]; assumption) | (rw [iaR_r (Or.inl (by assumption))]; assumption) | (rw [iaR_r (Or.inr (by assumption))]; assumption))
          · refine lv_aload_n hF.1 hF.2.1 dX8_below_21 rfl (lv_at hl 2 rfl) ?_
            refine lv_iload_n hF.1 hF.2.1 dX8_below_22 rfl (lv_at hl 1 rfl) ?_
            refine lv_iconst (v := (nI 0)) hF.1 hF.2.1 dX8_below_23 (by decide) ?_
            refine kCallI (wr := []) (va_runV (As := [.int h, .int (nI 0)]) (rest := []) hF (c_X8_above l G _ x ak am ao av ap ax ay ad an ab ar ac at_ as_ aq ec vn tn sn qn hp ns us ro pr wa nm la sl pF rF cF h (nI 0) (by first | assumption | omega) (by first | assumption | omega) (by first | assumption | omega)) (cwVB 2 hF rfl mL_X8_126 mI_X8_above mS_X8_above mN_X8 mC_X8_above rfl hd_X8_above rfl rfl ⟨Nat.le_of_ble_eq_true rfl, Nat.le_of_ble_eq_true rfl⟩) (kPre hK hP hD [0, 1, 2, 3] (by decide) rfl (q0 := 0) (ci := 8) rfl rfl rfl) rfl rfl hl.1 rfl (lv_room (Nat.le_of_ble_eq_true rfl)) dX8_below_24 ⟨Nat.le_of_ble_eq_true rfl, Nat.le_of_ble_eq_true rfl⟩) hP hD hS hA [0, 1, 2, 3] [] rfl rfl (by decide) (by decide) (fun r u H locs hw_7 hP hD hS => ?_)
            have hw_7 := hw_7.symm
            subst hw_7
            have hP : PG G [oC x 8 [.ref ak, .ref am, .ref ao, .ref av, .ref ap, .ref ax, .ref ay, .int (nI ec), .ref ad, .ref an, .ref ab, .int (nI vn), .ref ar, .ref ac, .int us, .int ro, .int pr, .ref at_, .int (nI tn), .ref as_, .int (nI sn), .ref aq, .int (nI qn), .int wa, .int (nI hp), .long nm, .int (nI ns), .int (zI la), .int (zI sl)], aI G ap 40 pF, aI G ar 4 rF, aI G ac 4 cF] H := hP
            have hD : va_D A [oC x 8 [.ref ak, .ref am, .ref ao, .ref av, .ref ap, .ref ax, .ref ay, .int (nI ec), .ref ad, .ref an, .ref ab, .int (nI vn), .ref ar, .ref ac, .int us, .int ro, .int pr, .ref at_, .int (nI tn), .ref as_, .int (nI sn), .ref aq, .int (nI qn), .int wa, .int (nI hp), .long nm, .int (nI ns), .int (zI la), .int (zI sl)], aI G ap 40 pF, aI G ar 4 rF, aI G ac 4 cF] := hD
            refine lv_istore_n (lv' := [(3, .int (abvR rF cF pF vn h (nI 0))), (4, .int (nI k)), (0, .ref x), (1, .int lo), (2, .int hi)]) hF.1 hF.2.1 dX8_below_27 rfl hl (by decide) rfl (fun ls hl => ?_)
            refine lv_iinc (v := (nI (k + 1))) (lv' := [(4, .int (nI (k + 1))), (3, .int (abvR rF cF pF vn h (nI 0))), (0, .ref x), (1, .int lo), (2, .int hi)]) hF.1 hF.2.1 dX8_below_28 hl (k := 1) rfl (nI_inc1 _) (by decide) rfl (fun ls hl => ?_)
            refine lv_goto (tgt := 5) hF.1 hF.2.1 dX8_below_31 (by decide) ?_
            exact ih_5 (k + 1) (abvR rF cF pF vn h (nI 0)) (by omega) (by omega) (abvR_in hvn hcr hrr hpr hb) (by rw [← hR]; exact (iaR_s (by omega) (by assumption) (by assumption)).symm) H locs ls hP hD hS (lv_sub hl [0, 1, 2, 3, 4] rfl)
  exact loop_5 _ 0 lo (Nat.lt_succ_self _) (by omega) (hlo) (rfl) _ _ _ hP hD hS (lv_sub hl [0, 1, 2, 3, 4] rfl)
set_option maxHeartbeats 4000000 in
set_option maxRecDepth 100000 in
theorem c_X8_mount (l : Launch) (G : GG) (sz : Nat) (x : Nat) (ak : Nat) (am : Nat) (ao : Nat) (av : Nat) (ap : Nat) (ax : Nat) (ay : Nat) (ad : Nat) (an : Nat) (ab : Nat) (ar : Nat) (ac : Nat) (at_ : Nat) (as_ : Nat) (aq : Nat) (ec : Nat) (vn : Nat) (tn : Nat) (sn : Nat) (qn : Nat) (hp : Nat) (ns : Nat) (us : Int32) (ro : Int32) (pr : Int32) (wa : Int32) (nm : Int64) (la : Prop) (sl : Prop) (kF : Nat → Int32) (mF : Nat → Int32) (oF : Nat → Int32) (pF : Nat → Int32) (xF : Nat → Int32) (LN : Nat → Nat) (dF : Nat → Int32) (nF : Nat → Int64) (bF : Nat → Int32) (rF : Nat → Int32) (cF : Nat → Int32) (tF : Nat → Int32) (qF : Nat → Int32) (v0 : Int32) (hvn : 1 ≤ vn ∧ vn ≤ 4) (hcr : ∀ v, v < 4 → cF v = -1 ∨ vp_in (cF v) 40) (hrr : ∀ v, v < 4 → vp_in (rF v) 40) (hpr : ∀ i, i < 40 → vp_in (pF i) 40) (hbr : ∀ k, k < ec → vp_in (bF k) 40) (hro : vp_in ro 40) (hec : ec ≤ 80) (hLN : ∀ i, i < 40 → LN i ≤ 40) (hn : tn ≤ 40) (hpp : vp_in pr 40) : CtI l G yX8_mount wsX8_mount 5 114 0 0 sz [.ref x, .int v0] [oC x 8 [.ref ak, .ref am, .ref ao, .ref av, .ref ap, .ref ax, .ref ay, .int (nI ec), .ref ad, .ref an, .ref ab, .int (nI vn), .ref ar, .ref ac, .int us, .int ro, .int pr, .ref at_, .int (nI tn), .ref as_, .int (nI sn), .ref aq, .int (nI qn), .int wa, .int (nI hp), .long nm, .int (nI ns), .int (zI la), .int (zI sl)], aI G ak 40 kF, aI G am 40 mF, aI G ao 40 oF, aI G ap 40 pF, aI G ax 1600 xF, aI G ay 40 (fun lv => nI (LN lv)), aI G ad 80 dF, aJ G an 80 nF, aI G ab 80 bF, aI G ar 4 rF, aI G ac 4 cF, aI G at_ 40 tF, aI G aq 100 qF] (fun r (u : Int32 × (Nat → Int32) × Nat × (Nat → Int32) × Int32 × Nat × Int64 × Nat × Prop × Prop) => match u with | (r0, c2, s2, q2, a1, h2, z2, n2, l2, e2) => r = r0 ∧ (r0, c2) = mtR kF pF rF cF vn us ro pr v0 (wkT kF mF oF pF rF cF xF vn dF nF bF ec LN us ro pr (nI 1) qF tn tF)) (fun (u : Int32 × (Nat → Int32) × Nat × (Nat → Int32) × Int32 × Nat × Int64 × Nat × Prop × Prop) => match u with | (r0, c2, s2, q2, a1, h2, z2, n2, l2, e2) => [oC x 8 [.ref ak, .ref am, .ref ao, .ref av, .ref ap, .ref ax, .ref ay, .int (nI ec), .ref ad, .ref an, .ref ab, .int (nI vn), .ref ar, .ref ac, .int us, .int ro, .int pr, .ref at_, .int (nI tn), .ref as_, .int (nI sn), .ref aq, .int (nI s2), .int a1, .int (nI h2), .long z2, .int (nI n2), .int (zI l2), .int (zI e2)], aI G ak 40 kF, aI G am 40 mF, aI G ao 40 oF, aI G ap 40 pF, aI G ax 1600 xF, aI G ay 40 (fun lv => nI (LN lv)), aI G ad 80 dF, aJ G an 80 nF, aI G ab 80 bF, aI G ar 4 rF, aI G ac 4 c2, aI G at_ 40 tF, aI G aq 100 q2]) := by
  refine kMet (Qc := fun A => va_Qi _ (Bw G A _) A) (cc := cX8_mount) (nL := 3) (ret := some (.int)) (by decide) rfl (Nat.le_of_ble_eq_true rfl) ?_
  intro p e s m args below meth c A Q hF hr hlk hnme hK hP hD hA hS hQ hsz ls hl
  have hl : lv_has ls 3 [(0, .ref x), (1, .int v0)] := hl
  refine lv_iload_n hF.1 hF.2.1 dX8_mount_0 rfl (lv_at hl 1 rfl) ?_
  refine lv_iconst (v := (nI 1)) hF.1 hF.2.1 dX8_mount_1 (by decide) ?_
  refine lv_icmp_lt (tgt := 13) hF.1 hF.2.1 dX8_mount_2 (by decide) (fun c_1 => ?_) (fun c_1 => ?_)
  · refine lv_bipush (v := (-11)) hF.1 hF.2.1 dX8_mount_13 (by decide) ?_
    refine kRetI (v := (-11)) hF hr hlk hK hP hD hS hQ rfl ((-11), cF, qn, qF, wa, hp, nm, ns, la, sl) [0, 1, 2, 3, 4, 5, 6, 7, 8, 9, 10, 11, 12, 13] (by decide) rfl (Nat.le_of_ble_eq_true rfl) (Nat.le_of_ble_eq_true rfl) dX8_mount_15 ?_
    exact ⟨rfl, (if_neg (fun h => by first | exact absurd (by assumption) h.1 | exact absurd h.2 (by assumption))).symm⟩
  · refine lv_iload_n hF.1 hF.2.1 dX8_mount_5 rfl (lv_at hl 1 rfl) ?_
    refine lv_aload_n hF.1 hF.2.1 dX8_mount_6 rfl (lv_at hl 0 rfl) ?_
    refine kGet (C := RX8) (T := TX8) (N := 29) (index := 41) hF hK hP (inT inBX8) 0 rfl rfl 11 (by decide) rfl (List.mem_cons_of_mem _ mF_X8_41) rfl dX8_mount_7 ?_
    refine lv_icmp_lt (tgt := 16) hF.1 hF.2.1 dX8_mount_10 (by decide) (fun c_2 => ?_) (fun c_2 => ?_)
    · have hv4 := v_in4' (by assumption) c_2 hvn.2
      refine lv_aload_n hF.1 hF.2.1 dX8_mount_16 rfl (lv_at hl 0 rfl) ?_
      refine kGet (C := RX8) (T := TX8) (N := 29) (index := 66) hF hK hP (inT inBX8) 0 rfl rfl 14 (by decide) rfl (List.mem_cons_of_mem _ mF_X8_66) rfl dX8_mount_17 ?_
      refine lv_if_eq (tgt := 26) hF.1 hF.2.1 dX8_mount_20 (by decide) (fun c_3 => ?_) (fun c_3 => ?_)
      · refine lv_aload_n hF.1 hF.2.1 dX8_mount_26 rfl (lv_at hl 0 rfl) ?_
        refine kGet (C := RX8) (T := TX8) (N := 29) (index := 48) hF hK hP (inT inBX8) 0 rfl rfl 13 (by decide) rfl (List.mem_cons_of_mem _ mF_X8_48) rfl dX8_mount_27 ?_
        refine lv_iload_n hF.1 hF.2.1 dX8_mount_30 rfl (lv_at hl 1 rfl) ?_
        refine kIald hF hK hP 11 rfl (hv4) dX8_mount_31 ?_
        refine lv_if_lt (tgt := 38) hF.1 hF.2.1 dX8_mount_32 (by decide) (fun c_4 => ?_) (fun c_4 => ?_)
        · refine lv_aload_n hF.1 hF.2.1 dX8_mount_38 rfl (lv_at hl 0 rfl) ?_
          refine lv_iconst (v := (nI 0)) hF.1 hF.2.1 dX8_mount_39 (by decide) ?_
          refine lv_iconst (v := (nI 1)) hF.1 hF.2.1 dX8_mount_40 (by decide) ?_
          refine kCallI (wr := []) (va_runV (As := [.int (nI 0), .int (nI 1)]) (rest := []) hF (c_X8_walk0 l G _ x ak am ao av ap ax ay ad an ab ar ac at_ as_ aq ec vn tn sn qn hp ns us ro pr wa nm la sl kF mF oF pF xF LN dF nF bF rF cF tF qF (nI 1) (by first | assumption | omega) (by first | assumption | omega) (by first | assumption | omega) (by first | assumption | omega) (by first | assumption | omega) (by first | assumption | omega) (by first | assumption | omega) (by first | assumption | omega) (by first | assumption | omega) (by first | assumption | omega)) (cwVB 2 hF rfl mL_X8_157 mI_X8_walk mS_X8_walk mN_X8 mC_X8_walk rfl hd_X8_walk rfl rfl ⟨Nat.le_of_ble_eq_true rfl, Nat.le_of_ble_eq_true rfl⟩) (kPre hK hP hD [0, 1, 2, 3, 4, 5, 6, 7, 8, 9, 10, 11, 12, 13] (by decide) rfl (q0 := 0) (ci := 8) rfl rfl rfl) rfl rfl hl.1 rfl (lv_room (Nat.le_of_ble_eq_true rfl)) dX8_mount_41 ⟨Nat.le_of_ble_eq_true rfl, Nat.le_of_ble_eq_true rfl⟩) hP hD hS hA [0, 1, 2, 3, 4, 5, 6, 7, 8, 9, 10, 11, 12, 13] [] rfl rfl (by decide) (by decide) (fun r u H locs hw_14 hP hD hS => ?_)
          obtain ⟨r0_5, s2_6, q2_7, a1_8, h2_9, z2_10, n2_11, l2_12, e2_13⟩ := u
          obtain ⟨hz, hw_14⟩ := hw_14
          have hz := hz.symm
          subst hz
          have hP : PG G [oC x 8 [.ref ak, .ref am, .ref ao, .ref av, .ref ap, .ref ax, .ref ay, .int (nI ec), .ref ad, .ref an, .ref ab, .int (nI vn), .ref ar, .ref ac, .int us, .int ro, .int pr, .ref at_, .int (nI tn), .ref as_, .int (nI sn), .ref aq, .int (nI s2_6), .int a1_8, .int (nI h2_9), .long z2_10, .int (nI n2_11), .int (zI l2_12), .int (zI e2_13)], aI G ak 40 kF, aI G am 40 mF, aI G ao 40 oF, aI G ap 40 pF, aI G ax 1600 xF, aI G ay 40 (fun lv => nI (LN lv)), aI G ad 80 dF, aJ G an 80 nF, aI G ab 80 bF, aI G ar 4 rF, aI G ac 4 cF, aI G at_ 40 tF, aI G aq 100 q2_7] H := hP
          have hD : va_D A [oC x 8 [.ref ak, .ref am, .ref ao, .ref av, .ref ap, .ref ax, .ref ay, .int (nI ec), .ref ad, .ref an, .ref ab, .int (nI vn), .ref ar, .ref ac, .int us, .int ro, .int pr, .ref at_, .int (nI tn), .ref as_, .int (nI sn), .ref aq, .int (nI s2_6), .int a1_8, .int (nI h2_9), .long z2_10, .int (nI n2_11), .int (zI l2_12), .int (zI e2_13)], aI G ak 40 kF, aI G am 40 mF, aI G ao 40 oF, aI G ap 40 pF, aI G ax 1600 xF, aI G ay 40 (fun lv => nI (LN lv)), aI G ad 80 dF, aJ G an 80 nF, aI G ab 80 bF, aI G ar 4 rF, aI G ac 4 cF, aI G at_ 40 tF, aI G aq 100 q2_7] := hD
          have hT := hw_14
          refine lv_istore_n (lv' := [(2, .int r0_5), (0, .ref x), (1, .int v0)]) hF.1 hF.2.1 dX8_mount_44 rfl hl (by decide) rfl (fun ls hl => ?_)
          refine lv_iload_n hF.1 hF.2.1 dX8_mount_45 rfl (lv_at hl 0 rfl) ?_
          refine lv_if_ge (tgt := 51) hF.1 hF.2.1 dX8_mount_46 (by decide) (fun c_15 => ?_) (fun c_15 => ?_)
          · have hnn := Int32.not_lt.mpr c_15
            refine lv_aload_n hF.1 hF.2.1 dX8_mount_51 rfl (lv_at hl 1 rfl) ?_
            refine kGet (C := RX8) (T := TX8) (N := 29) (index := 7) hF hK hP (inT inBX8) 0 rfl rfl 0 (by decide) rfl (List.mem_cons_of_mem _ mF_X8_7) rfl dX8_mount_52 ?_
            refine lv_iload_n hF.1 hF.2.1 dX8_mount_55 rfl (lv_at hl 0 rfl) ?_
            refine kIald hF hK hP 1 rfl (hT.2 hnn) dX8_mount_56 ?_
            refine lv_iconst (v := (nI 1)) hF.1 hF.2.1 dX8_mount_57 (by decide) ?_
            refine lv_icmp_eq (tgt := 64) hF.1 hF.2.1 dX8_mount_58 (by decide) (fun c_16 => ?_) (fun c_16 => ?_)
            · refine lv_aload_n hF.1 hF.2.1 dX8_mount_64 rfl (lv_at hl 1 rfl) ?_
              refine lv_aload_n hF.1 hF.2.1 dX8_mount_65 rfl (lv_at hl 1 rfl) ?_
              refine kGet (C := RX8) (T := TX8) (N := 29) (index := 108) hF hK hP (inT inBX8) 0 rfl rfl 15 (by decide) rfl (List.mem_cons_of_mem _ mF_X8_108) rfl dX8_mount_66 ?_
              refine lv_iload_n hF.1 hF.2.1 dX8_mount_69 rfl (lv_at hl 0 rfl) ?_
              refine kCallI (wr := [aI G ak 40 kF, aI G am 40 mF, aI G ao 40 oF, aI G ax 1600 xF, aI G ay 40 (fun lv => nI (LN lv)), aI G ad 80 dF, aJ G an 80 nF, aI G ab 80 bF, aI G at_ 40 tF, aI G aq 100 q2_7]) (va_runV (As := [.int ro, .int r0_5]) (rest := []) hF (c_X8_below l G H.size x ak am ao av ap ax ay ad an ab ar ac at_ as_ aq ec vn tn sn s2_6 h2_9 n2_11 us ro pr a1_8 z2_10 l2_12 e2_13 pF rF cF ro r0_5 (by first | assumption | omega) (by first | assumption | omega) (by first | assumption | omega) (by first | assumption | omega) (by first | assumption | omega)) (cwVB 2 hF rfl mL_X8_186 mI_X8_below mS_X8_below mN_X8 mC_X8_below rfl hd_X8_below rfl rfl ⟨Nat.le_of_ble_eq_true rfl, Nat.le_of_ble_eq_true rfl⟩) (kPre hK hP hD [0, 4, 10, 11] (by decide) rfl (q0 := 0) (ci := 8) rfl rfl rfl) rfl rfl hl.1 rfl (lv_room (Nat.le_of_ble_eq_true rfl)) dX8_mount_70 ⟨Nat.le_of_ble_eq_true rfl, Nat.le_of_ble_eq_true rfl⟩) hP hD hS hA [0, 4, 10, 11] [1, 2, 3, 5, 6, 7, 8, 9, 12, 13] rfl rfl (by decide) (by decide) (fun r u H locs hw_17 hP hD hS => ?_)
              have hw_17 := hw_17.symm
              subst hw_17
              have hP : PG G [oC x 8 [.ref ak, .ref am, .ref ao, .ref av, .ref ap, .ref ax, .ref ay, .int (nI ec), .ref ad, .ref an, .ref ab, .int (nI vn), .ref ar, .ref ac, .int us, .int ro, .int pr, .ref at_, .int (nI tn), .ref as_, .int (nI sn), .ref aq, .int (nI s2_6), .int a1_8, .int (nI h2_9), .long z2_10, .int (nI n2_11), .int (zI l2_12), .int (zI e2_13)], aI G ak 40 kF, aI G am 40 mF, aI G ao 40 oF, aI G ap 40 pF, aI G ax 1600 xF, aI G ay 40 (fun lv => nI (LN lv)), aI G ad 80 dF, aJ G an 80 nF, aI G ab 80 bF, aI G ar 4 rF, aI G ac 4 cF, aI G at_ 40 tF, aI G aq 100 q2_7] H := va_P.sub hP [10, 0, 1, 2, 11, 3, 4, 5, 6, 7, 12, 13, 8, 9] rfl
              have hD : va_D A [oC x 8 [.ref ak, .ref am, .ref ao, .ref av, .ref ap, .ref ax, .ref ay, .int (nI ec), .ref ad, .ref an, .ref ab, .int (nI vn), .ref ar, .ref ac, .int us, .int ro, .int pr, .ref at_, .int (nI tn), .ref as_, .int (nI sn), .ref aq, .int (nI s2_6), .int a1_8, .int (nI h2_9), .long z2_10, .int (nI n2_11), .int (zI l2_12), .int (zI e2_13)], aI G ak 40 kF, aI G am 40 mF, aI G ao 40 oF, aI G ap 40 pF, aI G ax 1600 xF, aI G ay 40 (fun lv => nI (LN lv)), aI G ad 80 dF, aJ G an 80 nF, aI G ab 80 bF, aI G ar 4 rF, aI G ac 4 cF, aI G at_ 40 tF, aI G aq 100 q2_7] := va_D.sub hD [10, 0, 1, 2, 11, 3, 4, 5, 6, 7, 12, 13, 8, 9] (by decide) rfl
              refine kIfNeZ (tgt := 88) hF dX8_mount_73 (by decide) (fun c_18 => ?_) (fun c_18 => ?_)
              · refine lv_bipush (v := (-7)) hF.1 hF.2.1 dX8_mount_88 (by decide) ?_
                refine kRetI (v := (-7)) hF hr hlk hK hP hD hS hQ rfl ((-7), cF, s2_6, q2_7, a1_8, h2_9, z2_10, n2_11, l2_12, e2_13) [0, 1, 2, 3, 4, 5, 6, 7, 8, 9, 10, 11, 12, 13] (by decide) rfl (Nat.le_of_ble_eq_true rfl) (Nat.le_of_ble_eq_true rfl) dX8_mount_90 ?_
                refine ⟨rfl, ?_⟩
                rw [← hT.1, mtR, if_pos ⟨by assumption, by assumption⟩, if_pos (by assumption), if_pos (by assumption)]
                first | (rw [if_pos hneg]; done) | (rw [if_neg hnn]; first | (rw [if_neg (by assumption)]; done) | (rw [if_pos (by assumption)]; first | (rw [if_pos (by first | exact Or.inl (by assumption) | exact Or.inr (by assumption))]; done) | (rw [if_neg (fun h => by rcases h with h | h <;> contradiction)]; done)))
              · refine lv_aload_n hF.1 hF.2.1 dX8_mount_76 rfl (lv_at hl 1 rfl) ?_
                refine lv_aload_n hF.1 hF.2.1 dX8_mount_77 rfl (lv_at hl 1 rfl) ?_
                refine kGet (C := RX8) (T := TX8) (N := 29) (index := 111) hF hK hP (inT inBX8) 0 rfl rfl 16 (by decide) rfl (List.mem_cons_of_mem _ mF_X8_111) rfl dX8_mount_78 ?_
                refine lv_iload_n hF.1 hF.2.1 dX8_mount_81 rfl (lv_at hl 0 rfl) ?_
                refine kCallI (wr := [aI G ak 40 kF, aI G am 40 mF, aI G ao 40 oF, aI G ax 1600 xF, aI G ay 40 (fun lv => nI (LN lv)), aI G ad 80 dF, aJ G an 80 nF, aI G ab 80 bF, aI G at_ 40 tF, aI G aq 100 q2_7]) (va_runV (As := [.int pr, .int r0_5]) (rest := []) hF (c_X8_below l G H.size x ak am ao av ap ax ay ad an ab ar ac at_ as_ aq ec vn tn sn s2_6 h2_9 n2_11 us ro pr a1_8 z2_10 l2_12 e2_13 pF rF cF pr r0_5 (by first | assumption | omega) (by first | assumption | omega) (by first | assumption | omega) (by first | assumption | omega) (by first | assumption | omega)) (cwVB 2 hF rfl mL_X8_186 mI_X8_below mS_X8_below mN_X8 mC_X8_below rfl hd_X8_below rfl rfl ⟨Nat.le_of_ble_eq_true rfl, Nat.le_of_ble_eq_true rfl⟩) (kPre hK hP hD [0, 4, 10, 11] (by decide) rfl (q0 := 0) (ci := 8) rfl rfl rfl) rfl rfl hl.1 rfl (lv_room (Nat.le_of_ble_eq_true rfl)) dX8_mount_82 ⟨Nat.le_of_ble_eq_true rfl, Nat.le_of_ble_eq_true rfl⟩) hP hD hS hA [0, 4, 10, 11] [1, 2, 3, 5, 6, 7, 8, 9, 12, 13] rfl rfl (by decide) (by decide) (fun r u H locs hw_19 hP hD hS => ?_)
                have hw_19 := hw_19.symm
                subst hw_19
                have hP : PG G [oC x 8 [.ref ak, .ref am, .ref ao, .ref av, .ref ap, .ref ax, .ref ay, .int (nI ec), .ref ad, .ref an, .ref ab, .int (nI vn), .ref ar, .ref ac, .int us, .int ro, .int pr, .ref at_, .int (nI tn), .ref as_, .int (nI sn), .ref aq, .int (nI s2_6), .int a1_8, .int (nI h2_9), .long z2_10, .int (nI n2_11), .int (zI l2_12), .int (zI e2_13)], aI G ak 40 kF, aI G am 40 mF, aI G ao 40 oF, aI G ap 40 pF, aI G ax 1600 xF, aI G ay 40 (fun lv => nI (LN lv)), aI G ad 80 dF, aJ G an 80 nF, aI G ab 80 bF, aI G ar 4 rF, aI G ac 4 cF, aI G at_ 40 tF, aI G aq 100 q2_7] H := va_P.sub hP [10, 0, 1, 2, 11, 3, 4, 5, 6, 7, 12, 13, 8, 9] rfl
                have hD : va_D A [oC x 8 [.ref ak, .ref am, .ref ao, .ref av, .ref ap, .ref ax, .ref ay, .int (nI ec), .ref ad, .ref an, .ref ab, .int (nI vn), .ref ar, .ref ac, .int us, .int ro, .int pr, .ref at_, .int (nI tn), .ref as_, .int (nI sn), .ref aq, .int (nI s2_6), .int a1_8, .int (nI h2_9), .long z2_10, .int (nI n2_11), .int (zI l2_12), .int (zI e2_13)], aI G ak 40 kF, aI G am 40 mF, aI G ao 40 oF, aI G ap 40 pF, aI G ax 1600 xF, aI G ay 40 (fun lv => nI (LN lv)), aI G ad 80 dF, aJ G an 80 nF, aI G ab 80 bF, aI G ar 4 rF, aI G ac 4 cF, aI G at_ 40 tF, aI G aq 100 q2_7] := va_D.sub hD [10, 0, 1, 2, 11, 3, 4, 5, 6, 7, 12, 13, 8, 9] (by decide) rfl
                refine kIfEqZ (tgt := 91) hF dX8_mount_85 (by decide) (fun c_20 => ?_) (fun c_20 => ?_)
                · refine lv_aload_n hF.1 hF.2.1 dX8_mount_91 rfl (lv_at hl 1 rfl) ?_
                  refine kGet (C := RX8) (T := TX8) (N := 29) (index := 48) hF hK hP (inT inBX8) 0 rfl rfl 13 (by decide) rfl (List.mem_cons_of_mem _ mF_X8_48) rfl dX8_mount_92 ?_
                  refine lv_iload_n hF.1 hF.2.1 dX8_mount_95 rfl (lv_at hl 2 rfl) ?_
                  refine lv_iload_n hF.1 hF.2.1 dX8_mount_96 rfl (lv_at hl 0 rfl) ?_
                  refine kIast hF hK hP hD hS 11 rfl (hv4) dX8_mount_97 (fun H locs hP hD hS => ?_)
                  have hP : PG G [oC x 8 [.ref ak, .ref am, .ref ao, .ref av, .ref ap, .ref ax, .ref ay, .int (nI ec), .ref ad, .ref an, .ref ab, .int (nI vn), .ref ar, .ref ac, .int us, .int ro, .int pr, .ref at_, .int (nI tn), .ref as_, .int (nI sn), .ref aq, .int (nI s2_6), .int a1_8, .int (nI h2_9), .long z2_10, .int (nI n2_11), .int (zI l2_12), .int (zI e2_13)], aI G ak 40 kF, aI G am 40 mF, aI G ao 40 oF, aI G ap 40 pF, aI G ax 1600 xF, aI G ay 40 (fun lv => nI (LN lv)), aI G ad 80 dF, aJ G an 80 nF, aI G ab 80 bF, aI G ar 4 rF, aI G ac 4 (upd cF (ix v0) r0_5), aI G at_ 40 tF, aI G aq 100 q2_7] H := hP
                  have hD : va_D A [oC x 8 [.ref ak, .ref am, .ref ao, .ref av, .ref ap, .ref ax, .ref ay, .int (nI ec), .ref ad, .ref an, .ref ab, .int (nI vn), .ref ar, .ref ac, .int us, .int ro, .int pr, .ref at_, .int (nI tn), .ref as_, .int (nI sn), .ref aq, .int (nI s2_6), .int a1_8, .int (nI h2_9), .long z2_10, .int (nI n2_11), .int (zI l2_12), .int (zI e2_13)], aI G ak 40 kF, aI G am 40 mF, aI G ao 40 oF, aI G ap 40 pF, aI G ax 1600 xF, aI G ay 40 (fun lv => nI (LN lv)), aI G ad 80 dF, aJ G an 80 nF, aI G ab 80 bF, aI G ar 4 rF, aI G ac 4 (upd cF (ix v0) r0_5), aI G at_ 40 tF, aI G aq 100 q2_7] := hD
                  refine lv_iload_n hF.1 hF.2.1 dX8_mount_98 rfl (lv_at hl 0 rfl) ?_
                  refine kRetI (v := r0_5) hF hr hlk hK hP hD hS hQ rfl (r0_5, upd cF (ix v0) r0_5, s2_6, q2_7, a1_8, h2_9, z2_10, n2_11, l2_12, e2_13) [0, 1, 2, 3, 4, 5, 6, 7, 8, 9, 10, 11, 12, 13] (by decide) rfl (Nat.le_of_ble_eq_true rfl) (Nat.le_of_ble_eq_true rfl) dX8_mount_99 ?_
                  refine ⟨rfl, ?_⟩
                  rw [← hT.1, mtR, if_pos ⟨by assumption, by assumption⟩, if_pos (by assumption), if_pos (by assumption)]
                  first | (rw [if_pos hneg]; done) | (rw [if_neg hnn]; first | (rw [if_neg (by assumption)]; done) | (rw [if_pos (by assumption)]; first | (rw [if_pos (by first | exact Or.inl (by assumption) | exact Or.inr (by assumption))]; done) | (rw [if_neg (fun h => by rcases h with h | h <;> contradiction)]; done)))
                · refine lv_bipush (v := (-7)) hF.1 hF.2.1 dX8_mount_88 (by decide) ?_
                  refine kRetI (v := (-7)) hF hr hlk hK hP hD hS hQ rfl ((-7), cF, s2_6, q2_7, a1_8, h2_9, z2_10, n2_11, l2_12, e2_13) [0, 1, 2, 3, 4, 5, 6, 7, 8, 9, 10, 11, 12, 13] (by decide) rfl (Nat.le_of_ble_eq_true rfl) (Nat.le_of_ble_eq_true rfl) dX8_mount_90 ?_
                  refine ⟨rfl, ?_⟩
                  rw [← hT.1, mtR, if_pos ⟨by assumption, by assumption⟩, if_pos (by assumption), if_pos (by assumption)]
                  first | (rw [if_pos hneg]; done) | (rw [if_neg hnn]; first | (rw [if_neg (by assumption)]; done) | (rw [if_pos (by assumption)]; first | (rw [if_pos (by first | exact Or.inl (by assumption) | exact Or.inr (by assumption))]; done) | (rw [if_neg (fun h => by rcases h with h | h <;> contradiction)]; done)))
            · refine lv_bipush (v := (-2)) hF.1 hF.2.1 dX8_mount_61 (by decide) ?_
              refine kRetI (v := (-2)) hF hr hlk hK hP hD hS hQ rfl ((-2), cF, s2_6, q2_7, a1_8, h2_9, z2_10, n2_11, l2_12, e2_13) [0, 1, 2, 3, 4, 5, 6, 7, 8, 9, 10, 11, 12, 13] (by decide) rfl (Nat.le_of_ble_eq_true rfl) (Nat.le_of_ble_eq_true rfl) dX8_mount_63 ?_
              refine ⟨rfl, ?_⟩
              rw [← hT.1, mtR, if_pos ⟨by assumption, by assumption⟩, if_pos (by assumption), if_pos (by assumption)]
              first | (rw [if_pos hneg]; done) | (rw [if_neg hnn]; first | (rw [if_neg (by assumption)]; done) | (rw [if_pos (by assumption)]; first | (rw [if_pos (by first | exact Or.inl (by assumption) | exact Or.inr (by assumption))]; done) | (rw [if_neg (fun h => by rcases h with h | h <;> contradiction)]; done)))
          · have hneg := Int32.not_le.mp c_15
            refine lv_iload_n hF.1 hF.2.1 dX8_mount_49 rfl (lv_at hl 0 rfl) ?_
            refine kRetI (v := r0_5) hF hr hlk hK hP hD hS hQ rfl (r0_5, cF, s2_6, q2_7, a1_8, h2_9, z2_10, n2_11, l2_12, e2_13) [0, 1, 2, 3, 4, 5, 6, 7, 8, 9, 10, 11, 12, 13] (by decide) rfl (Nat.le_of_ble_eq_true rfl) (Nat.le_of_ble_eq_true rfl) dX8_mount_50 ?_
            refine ⟨rfl, ?_⟩
            rw [← hT.1, mtR, if_pos ⟨by assumption, by assumption⟩, if_pos (by assumption), if_pos (by assumption)]
            first | (rw [if_pos hneg]; done) | (rw [if_neg hnn]; first | (rw [if_neg (by assumption)]; done) | (rw [if_pos (by assumption)]; first | (rw [if_pos (by first | exact Or.inl (by assumption) | exact Or.inr (by assumption))]; done) | (rw [if_neg (fun h => by rcases h with h | h <;> contradiction)]; done)))
        · refine lv_bipush (v := (-7)) hF.1 hF.2.1 dX8_mount_35 (by decide) ?_
          refine kRetI (v := (-7)) hF hr hlk hK hP hD hS hQ rfl ((-7), cF, qn, qF, wa, hp, nm, ns, la, sl) [0, 1, 2, 3, 4, 5, 6, 7, 8, 9, 10, 11, 12, 13] (by decide) rfl (Nat.le_of_ble_eq_true rfl) (Nat.le_of_ble_eq_true rfl) dX8_mount_37 ?_
          exact ⟨rfl, by rw [mtR, if_pos ⟨by assumption, by assumption⟩, if_pos (by assumption), if_neg (by assumption)]⟩
      · refine lv_bipush (v := (-3)) hF.1 hF.2.1 dX8_mount_23 (by decide) ?_
        refine kRetI (v := (-3)) hF hr hlk hK hP hD hS hQ rfl ((-3), cF, qn, qF, wa, hp, nm, ns, la, sl) [0, 1, 2, 3, 4, 5, 6, 7, 8, 9, 10, 11, 12, 13] (by decide) rfl (Nat.le_of_ble_eq_true rfl) (Nat.le_of_ble_eq_true rfl) dX8_mount_25 ?_
        exact ⟨rfl, by rw [mtR, if_pos ⟨by assumption, by assumption⟩, if_neg (by assumption)]⟩
    · refine lv_bipush (v := (-11)) hF.1 hF.2.1 dX8_mount_13 (by decide) ?_
      refine kRetI (v := (-11)) hF hr hlk hK hP hD hS hQ rfl ((-11), cF, qn, qF, wa, hp, nm, ns, la, sl) [0, 1, 2, 3, 4, 5, 6, 7, 8, 9, 10, 11, 12, 13] (by decide) rfl (Nat.le_of_ble_eq_true rfl) (Nat.le_of_ble_eq_true rfl) dX8_mount_15 ?_
      exact ⟨rfl, (if_neg (fun h => by first | exact absurd (by assumption) h.1 | exact absurd h.2 (by assumption))).symm⟩
set_option maxHeartbeats 4000000 in
set_option maxRecDepth 100000 in
theorem c_X8_volume (l : Launch) (G : GG) (sz : Nat) (x : Nat) (ak : Nat) (am : Nat) (ao : Nat) (av : Nat) (ap : Nat) (ax : Nat) (ay : Nat) (ad : Nat) (an : Nat) (ab : Nat) (ar : Nat) (ac : Nat) (at_ : Nat) (as_ : Nat) (aq : Nat) (ec : Nat) (vn : Nat) (tn : Nat) (sn : Nat) (qn : Nat) (hp : Nat) (ns : Nat) (us : Int32) (ro : Int32) (pr : Int32) (wa : Int32) (nm : Int64) (la : Prop) (sl : Prop) (kF : Nat → Int32) (mF : Nat → Int32) (oF : Nat → Int32) (vF : Nat → Int32) (pF : Nat → Int32) (rF : Nat → Int32) (hvn : 1 ≤ vn ∧ vn ≤ 4) : CtI l G yX8_volume wsX8_volume 1 21 0 0 sz [.ref x] [oC x 8 [.ref ak, .ref am, .ref ao, .ref av, .ref ap, .ref ax, .ref ay, .int (nI ec), .ref ad, .ref an, .ref ab, .int (nI vn), .ref ar, .ref ac, .int us, .int ro, .int pr, .ref at_, .int (nI tn), .ref as_, .int (nI sn), .ref aq, .int (nI qn), .int wa, .int (nI hp), .long nm, .int (nI ns), .int (zI la), .int (zI sl)], aI G ak 40 kF, aI G am 40 mF, aI G ao 40 oF, aI G av 40 vF, aI G ap 40 pF, aI G ar 4 rF] (fun r (u : Int32 × (Nat → Int32) × (Nat → Int32) × (Nat → Int32) × (Nat → Int32) × (Nat → Int32) × (Nat → Int32) × Nat) => match u with | (r0, k2, m2, o2, v2, p2, r2, w2) => r = r0 ∧ (r0, k2, m2, o2, v2, p2, r2, w2) = volR kF mF oF vF pF rF vn) (fun (u : Int32 × (Nat → Int32) × (Nat → Int32) × (Nat → Int32) × (Nat → Int32) × (Nat → Int32) × (Nat → Int32) × Nat) => match u with | (r0, k2, m2, o2, v2, p2, r2, w2) => [oC x 8 [.ref ak, .ref am, .ref ao, .ref av, .ref ap, .ref ax, .ref ay, .int (nI ec), .ref ad, .ref an, .ref ab, .int (nI w2), .ref ar, .ref ac, .int us, .int ro, .int pr, .ref at_, .int (nI tn), .ref as_, .int (nI sn), .ref aq, .int (nI qn), .int wa, .int (nI hp), .long nm, .int (nI ns), .int (zI la), .int (zI sl)], aI G ak 40 k2, aI G am 40 m2, aI G ao 40 o2, aI G av 40 v2, aI G ap 40 p2, aI G ar 4 r2]) := by
  refine kMet (Qc := fun A => va_Qi _ (Bw G A _) A) (cc := cX8_volume) (nL := 2) (ret := some (.int)) (by decide) rfl (Nat.le_of_ble_eq_true rfl) ?_
  intro p e s m args below meth c A Q hF hr hlk hnme hK hP hD hA hS hQ hsz ls hl
  have hl : lv_has ls 2 [(0, .ref x)] := hl
  refine lv_aload_n hF.1 hF.2.1 dX8_volume_0 rfl (lv_at hl 0 rfl) ?_
  refine kCallI (wr := [aI G am 40 mF, aI G ao 40 oF, aI G av 40 vF, aI G ap 40 pF, aI G ar 4 rF]) (va_runV (As := []) (rest := []) hF (c_X8_freeObject l G _ x ak am ao av ap ax ay ad an ab ar ac at_ as_ aq ec vn tn sn qn hp ns us ro pr wa nm la sl kF) (cwVB 0 hF rfl mL_X8_174 mI_X8_freeObject mS_X8_freeObject mN_X8 mC_X8_freeObject rfl hd_X8_freeObject rfl rfl ⟨Nat.le_of_ble_eq_true rfl, Nat.le_of_ble_eq_true rfl⟩) (kPre hK hP hD [0, 1] (by decide) rfl (q0 := 0) (ci := 8) rfl rfl rfl) rfl rfl hl.1 rfl (lv_room (Nat.le_of_ble_eq_true rfl)) dX8_volume_1 ⟨Nat.le_of_ble_eq_true rfl, Nat.le_of_ble_eq_true rfl⟩) hP hD hS hA [0, 1] [2, 3, 4, 5, 6] rfl rfl (by decide) (by decide) (fun r u H locs hw_1 hP hD hS => ?_)
  have hw_1 := hw_1.symm
  subst hw_1
  have hP : PG G [oC x 8 [.ref ak, .ref am, .ref ao, .ref av, .ref ap, .ref ax, .ref ay, .int (nI ec), .ref ad, .ref an, .ref ab, .int (nI vn), .ref ar, .ref ac, .int us, .int ro, .int pr, .ref at_, .int (nI tn), .ref as_, .int (nI sn), .ref aq, .int (nI qn), .int wa, .int (nI hp), .long nm, .int (nI ns), .int (zI la), .int (zI sl)], aI G ak 40 kF, aI G am 40 mF, aI G ao 40 oF, aI G av 40 vF, aI G ap 40 pF, aI G ar 4 rF] H := va_P.sub hP [5, 6, 0, 1, 2, 3, 4] rfl
  have hD : va_D A [oC x 8 [.ref ak, .ref am, .ref ao, .ref av, .ref ap, .ref ax, .ref ay, .int (nI ec), .ref ad, .ref an, .ref ab, .int (nI vn), .ref ar, .ref ac, .int us, .int ro, .int pr, .ref at_, .int (nI tn), .ref as_, .int (nI sn), .ref aq, .int (nI qn), .int wa, .int (nI hp), .long nm, .int (nI ns), .int (zI la), .int (zI sl)], aI G ak 40 kF, aI G am 40 mF, aI G ao 40 oF, aI G av 40 vF, aI G ap 40 pF, aI G ar 4 rF] := va_D.sub hD [5, 6, 0, 1, 2, 3, 4] (by decide) rfl
  have hfc_2 := (scan_le (p := fun j => !decide (kF j = nI 0)) 40 0).2
  have hlf : lfN kF ≤ 40 := by unfold lfN; omega
  refine lv_istore_n (lv' := [(1, .int (nI (lfN kF))), (0, .ref x)]) hF.1 hF.2.1 dX8_volume_4 rfl hl (by decide) rfl (fun ls hl => ?_)
  refine lv_aload_n hF.1 hF.2.1 dX8_volume_5 rfl (lv_at hl 1 rfl) ?_
  refine kGet (C := RX8) (T := TX8) (N := 29) (index := 41) hF hK hP (inT inBX8) 0 rfl rfl 11 (by decide) rfl (List.mem_cons_of_mem _ mF_X8_41) rfl dX8_volume_6 ?_
  refine lv_iconst (v := (nI 4)) hF.1 hF.2.1 dX8_volume_9 (by decide) ?_
  refine kEqN (tgt := 19) hF dX8_volume_10 (by decide) (by omega) (by omega) (fun c_3 => ?_) (fun c_3 => ?_)
  · refine lv_bipush (v := (-10)) hF.1 hF.2.1 dX8_volume_19 (by decide) ?_
    refine kRetI (v := (-10)) hF hr hlk hK hP hD hS hQ rfl ((-10), kF, mF, oF, vF, pF, rF, vn) [0, 1, 2, 3, 4, 5, 6] (by decide) rfl (Nat.le_of_ble_eq_true rfl) (Nat.le_of_ble_eq_true rfl) dX8_volume_21 ?_
    exact ⟨rfl, (if_neg (fun h => by omega)).symm⟩
  · refine lv_iload_n hF.1 hF.2.1 dX8_volume_13 rfl (lv_at hl 0 rfl) ?_
    refine lv_bipush (v := (nI 40)) hF.1 hF.2.1 dX8_volume_14 (by decide) ?_
    refine kNeN (tgt := 22) hF dX8_volume_16 (by decide) (by omega) (by omega) (fun c_4 => ?_) (fun c_4 => ?_)
    · refine lv_aload_n hF.1 hF.2.1 dX8_volume_22 rfl (lv_at hl 1 rfl) ?_
      refine kGet (C := RX8) (T := TX8) (N := 29) (index := 7) hF hK hP (inT inBX8) 0 rfl rfl 0 (by decide) rfl (List.mem_cons_of_mem _ mF_X8_7) rfl dX8_volume_23 ?_
      refine lv_iload_n hF.1 hF.2.1 dX8_volume_26 rfl (lv_at hl 0 rfl) ?_
      refine lv_iconst (v := (nI 1)) hF.1 hF.2.1 dX8_volume_27 (by decide) ?_
      refine kIastN hF hK hP hD hS 1 rfl (by omega) (by decide) dX8_volume_28 (fun H locs hP hD hS => ?_)
      have hP : PG G [oC x 8 [.ref ak, .ref am, .ref ao, .ref av, .ref ap, .ref ax, .ref ay, .int (nI ec), .ref ad, .ref an, .ref ab, .int (nI vn), .ref ar, .ref ac, .int us, .int ro, .int pr, .ref at_, .int (nI tn), .ref as_, .int (nI sn), .ref aq, .int (nI qn), .int wa, .int (nI hp), .long nm, .int (nI ns), .int (zI la), .int (zI sl)], aI G ak 40 (upd kF (lfN kF) (nI 1)), aI G am 40 mF, aI G ao 40 oF, aI G av 40 vF, aI G ap 40 pF, aI G ar 4 rF] H := hP
      have hD : va_D A [oC x 8 [.ref ak, .ref am, .ref ao, .ref av, .ref ap, .ref ax, .ref ay, .int (nI ec), .ref ad, .ref an, .ref ab, .int (nI vn), .ref ar, .ref ac, .int us, .int ro, .int pr, .ref at_, .int (nI tn), .ref as_, .int (nI sn), .ref aq, .int (nI qn), .int wa, .int (nI hp), .long nm, .int (nI ns), .int (zI la), .int (zI sl)], aI G ak 40 (upd kF (lfN kF) (nI 1)), aI G am 40 mF, aI G ao 40 oF, aI G av 40 vF, aI G ap 40 pF, aI G ar 4 rF] := hD
      refine lv_aload_n hF.1 hF.2.1 dX8_volume_29 rfl (lv_at hl 1 rfl) ?_
      refine kGet (C := RX8) (T := TX8) (N := 29) (index := 13) hF hK hP (inT inBX8) 0 rfl rfl 1 (by decide) rfl (List.mem_cons_of_mem _ mF_X8_13) rfl dX8_volume_30 ?_
      refine lv_iload_n hF.1 hF.2.1 dX8_volume_33 rfl (lv_at hl 0 rfl) ?_
      refine lv_bipush (v := (nI 15)) hF.1 hF.2.1 dX8_volume_34 (by decide) ?_
      refine kIastN hF hK hP hD hS 2 rfl (by omega) (by decide) dX8_volume_36 (fun H locs hP hD hS => ?_)
      have hP : PG G [oC x 8 [.ref ak, .ref am, .ref ao, .ref av, .ref ap, .ref ax, .ref ay, .int (nI ec), .ref ad, .ref an, .ref ab, .int (nI vn), .ref ar, .ref ac, .int us, .int ro, .int pr, .ref at_, .int (nI tn), .ref as_, .int (nI sn), .ref aq, .int (nI qn), .int wa, .int (nI hp), .long nm, .int (nI ns), .int (zI la), .int (zI sl)], aI G ak 40 (upd kF (lfN kF) (nI 1)), aI G am 40 (upd mF (lfN kF) (nI 15)), aI G ao 40 oF, aI G av 40 vF, aI G ap 40 pF, aI G ar 4 rF] H := hP
      have hD : va_D A [oC x 8 [.ref ak, .ref am, .ref ao, .ref av, .ref ap, .ref ax, .ref ay, .int (nI ec), .ref ad, .ref an, .ref ab, .int (nI vn), .ref ar, .ref ac, .int us, .int ro, .int pr, .ref at_, .int (nI tn), .ref as_, .int (nI sn), .ref aq, .int (nI qn), .int wa, .int (nI hp), .long nm, .int (nI ns), .int (zI la), .int (zI sl)], aI G ak 40 (upd kF (lfN kF) (nI 1)), aI G am 40 (upd mF (lfN kF) (nI 15)), aI G ao 40 oF, aI G av 40 vF, aI G ap 40 pF, aI G ar 4 rF] := hD
      refine lv_aload_n hF.1 hF.2.1 dX8_volume_37 rfl (lv_at hl 1 rfl) ?_
      refine kGet (C := RX8) (T := TX8) (N := 29) (index := 16) hF hK hP (inT inBX8) 0 rfl rfl 2 (by decide) rfl (List.mem_cons_of_mem _ mF_X8_16) rfl dX8_volume_38 ?_
      refine lv_iload_n hF.1 hF.2.1 dX8_volume_41 rfl (lv_at hl 0 rfl) ?_
      refine lv_iconst (v := (nI 0)) hF.1 hF.2.1 dX8_volume_42 (by decide) ?_
      refine kIastN hF hK hP hD hS 3 rfl (by omega) (by decide) dX8_volume_43 (fun H locs hP hD hS => ?_)
      have hP : PG G [oC x 8 [.ref ak, .ref am, .ref ao, .ref av, .ref ap, .ref ax, .ref ay, .int (nI ec), .ref ad, .ref an, .ref ab, .int (nI vn), .ref ar, .ref ac, .int us, .int ro, .int pr, .ref at_, .int (nI tn), .ref as_, .int (nI sn), .ref aq, .int (nI qn), .int wa, .int (nI hp), .long nm, .int (nI ns), .int (zI la), .int (zI sl)], aI G ak 40 (upd kF (lfN kF) (nI 1)), aI G am 40 (upd mF (lfN kF) (nI 15)), aI G ao 40 (upd oF (lfN kF) (nI 0)), aI G av 40 vF, aI G ap 40 pF, aI G ar 4 rF] H := hP
      have hD : va_D A [oC x 8 [.ref ak, .ref am, .ref ao, .ref av, .ref ap, .ref ax, .ref ay, .int (nI ec), .ref ad, .ref an, .ref ab, .int (nI vn), .ref ar, .ref ac, .int us, .int ro, .int pr, .ref at_, .int (nI tn), .ref as_, .int (nI sn), .ref aq, .int (nI qn), .int wa, .int (nI hp), .long nm, .int (nI ns), .int (zI la), .int (zI sl)], aI G ak 40 (upd kF (lfN kF) (nI 1)), aI G am 40 (upd mF (lfN kF) (nI 15)), aI G ao 40 (upd oF (lfN kF) (nI 0)), aI G av 40 vF, aI G ap 40 pF, aI G ar 4 rF] := hD
      refine lv_aload_n hF.1 hF.2.1 dX8_volume_44 rfl (lv_at hl 1 rfl) ?_
      refine kGet (C := RX8) (T := TX8) (N := 29) (index := 19) hF hK hP (inT inBX8) 0 rfl rfl 3 (by decide) rfl (List.mem_cons_of_mem _ mF_X8_19) rfl dX8_volume_45 ?_
      refine lv_iload_n hF.1 hF.2.1 dX8_volume_48 rfl (lv_at hl 0 rfl) ?_
      refine lv_aload_n hF.1 hF.2.1 dX8_volume_49 rfl (lv_at hl 1 rfl) ?_
      refine kGet (C := RX8) (T := TX8) (N := 29) (index := 41) hF hK hP (inT inBX8) 0 rfl rfl 11 (by decide) rfl (List.mem_cons_of_mem _ mF_X8_41) rfl dX8_volume_50 ?_
      refine kIastN hF hK hP hD hS 4 rfl (by omega) (by decide) dX8_volume_53 (fun H locs hP hD hS => ?_)
      have hP : PG G [oC x 8 [.ref ak, .ref am, .ref ao, .ref av, .ref ap, .ref ax, .ref ay, .int (nI ec), .ref ad, .ref an, .ref ab, .int (nI vn), .ref ar, .ref ac, .int us, .int ro, .int pr, .ref at_, .int (nI tn), .ref as_, .int (nI sn), .ref aq, .int (nI qn), .int wa, .int (nI hp), .long nm, .int (nI ns), .int (zI la), .int (zI sl)], aI G ak 40 (upd kF (lfN kF) (nI 1)), aI G am 40 (upd mF (lfN kF) (nI 15)), aI G ao 40 (upd oF (lfN kF) (nI 0)), aI G av 40 (upd vF (lfN kF) (nI vn)), aI G ap 40 pF, aI G ar 4 rF] H := hP
      have hD : va_D A [oC x 8 [.ref ak, .ref am, .ref ao, .ref av, .ref ap, .ref ax, .ref ay, .int (nI ec), .ref ad, .ref an, .ref ab, .int (nI vn), .ref ar, .ref ac, .int us, .int ro, .int pr, .ref at_, .int (nI tn), .ref as_, .int (nI sn), .ref aq, .int (nI qn), .int wa, .int (nI hp), .long nm, .int (nI ns), .int (zI la), .int (zI sl)], aI G ak 40 (upd kF (lfN kF) (nI 1)), aI G am 40 (upd mF (lfN kF) (nI 15)), aI G ao 40 (upd oF (lfN kF) (nI 0)), aI G av 40 (upd vF (lfN kF) (nI vn)), aI G ap 40 pF, aI G ar 4 rF] := hD
      refine lv_aload_n hF.1 hF.2.1 dX8_volume_54 rfl (lv_at hl 1 rfl) ?_
      refine kGet (C := RX8) (T := TX8) (N := 29) (index := 22) hF hK hP (inT inBX8) 0 rfl rfl 4 (by decide) rfl (List.mem_cons_of_mem _ mF_X8_22) rfl dX8_volume_55 ?_
      refine lv_iload_n hF.1 hF.2.1 dX8_volume_58 rfl (lv_at hl 0 rfl) ?_
      refine lv_iload_n hF.1 hF.2.1 dX8_volume_59 rfl (lv_at hl 0 rfl) ?_
      refine kIastN hF hK hP hD hS 5 rfl (by omega) (by decide) dX8_volume_60 (fun H locs hP hD hS => ?_)
      have hP : PG G [oC x 8 [.ref ak, .ref am, .ref ao, .ref av, .ref ap, .ref ax, .ref ay, .int (nI ec), .ref ad, .ref an, .ref ab, .int (nI vn), .ref ar, .ref ac, .int us, .int ro, .int pr, .ref at_, .int (nI tn), .ref as_, .int (nI sn), .ref aq, .int (nI qn), .int wa, .int (nI hp), .long nm, .int (nI ns), .int (zI la), .int (zI sl)], aI G ak 40 (upd kF (lfN kF) (nI 1)), aI G am 40 (upd mF (lfN kF) (nI 15)), aI G ao 40 (upd oF (lfN kF) (nI 0)), aI G av 40 (upd vF (lfN kF) (nI vn)), aI G ap 40 (upd pF (lfN kF) (nI (lfN kF))), aI G ar 4 rF] H := hP
      have hD : va_D A [oC x 8 [.ref ak, .ref am, .ref ao, .ref av, .ref ap, .ref ax, .ref ay, .int (nI ec), .ref ad, .ref an, .ref ab, .int (nI vn), .ref ar, .ref ac, .int us, .int ro, .int pr, .ref at_, .int (nI tn), .ref as_, .int (nI sn), .ref aq, .int (nI qn), .int wa, .int (nI hp), .long nm, .int (nI ns), .int (zI la), .int (zI sl)], aI G ak 40 (upd kF (lfN kF) (nI 1)), aI G am 40 (upd mF (lfN kF) (nI 15)), aI G ao 40 (upd oF (lfN kF) (nI 0)), aI G av 40 (upd vF (lfN kF) (nI vn)), aI G ap 40 (upd pF (lfN kF) (nI (lfN kF))), aI G ar 4 rF] := hD
      refine lv_aload_n hF.1 hF.2.1 dX8_volume_61 rfl (lv_at hl 1 rfl) ?_
      refine kGet (C := RX8) (T := TX8) (N := 29) (index := 45) hF hK hP (inT inBX8) 0 rfl rfl 12 (by decide) rfl (List.mem_cons_of_mem _ mF_X8_45) rfl dX8_volume_62 ?_
      refine lv_aload_n hF.1 hF.2.1 dX8_volume_65 rfl (lv_at hl 1 rfl) ?_
      refine kGet (C := RX8) (T := TX8) (N := 29) (index := 41) hF hK hP (inT inBX8) 0 rfl rfl 11 (by decide) rfl (List.mem_cons_of_mem _ mF_X8_41) rfl dX8_volume_66 ?_
      refine lv_iload_n hF.1 hF.2.1 dX8_volume_69 rfl (lv_at hl 0 rfl) ?_
      refine kIastN hF hK hP hD hS 6 rfl (by omega) (by decide) dX8_volume_70 (fun H locs hP hD hS => ?_)
      have hP : PG G [oC x 8 [.ref ak, .ref am, .ref ao, .ref av, .ref ap, .ref ax, .ref ay, .int (nI ec), .ref ad, .ref an, .ref ab, .int (nI vn), .ref ar, .ref ac, .int us, .int ro, .int pr, .ref at_, .int (nI tn), .ref as_, .int (nI sn), .ref aq, .int (nI qn), .int wa, .int (nI hp), .long nm, .int (nI ns), .int (zI la), .int (zI sl)], aI G ak 40 (upd kF (lfN kF) (nI 1)), aI G am 40 (upd mF (lfN kF) (nI 15)), aI G ao 40 (upd oF (lfN kF) (nI 0)), aI G av 40 (upd vF (lfN kF) (nI vn)), aI G ap 40 (upd pF (lfN kF) (nI (lfN kF))), aI G ar 4 (upd rF vn (nI (lfN kF)))] H := hP
      have hD : va_D A [oC x 8 [.ref ak, .ref am, .ref ao, .ref av, .ref ap, .ref ax, .ref ay, .int (nI ec), .ref ad, .ref an, .ref ab, .int (nI vn), .ref ar, .ref ac, .int us, .int ro, .int pr, .ref at_, .int (nI tn), .ref as_, .int (nI sn), .ref aq, .int (nI qn), .int wa, .int (nI hp), .long nm, .int (nI ns), .int (zI la), .int (zI sl)], aI G ak 40 (upd kF (lfN kF) (nI 1)), aI G am 40 (upd mF (lfN kF) (nI 15)), aI G ao 40 (upd oF (lfN kF) (nI 0)), aI G av 40 (upd vF (lfN kF) (nI vn)), aI G ap 40 (upd pF (lfN kF) (nI (lfN kF))), aI G ar 4 (upd rF vn (nI (lfN kF)))] := hD
      refine lv_aload_n hF.1 hF.2.1 dX8_volume_71 rfl (lv_at hl 1 rfl) ?_
      refine lv_aload_n hF.1 hF.2.1 dX8_volume_72 rfl (lv_at hl 1 rfl) ?_
      refine kGet (C := RX8) (T := TX8) (N := 29) (index := 41) hF hK hP (inT inBX8) 0 rfl rfl 11 (by decide) rfl (List.mem_cons_of_mem _ mF_X8_41) rfl dX8_volume_73 ?_
      refine lv_iconst (v := (nI 1)) hF.1 hF.2.1 dX8_volume_76 (by decide) ?_
      refine lv_iadd hF.1 hF.2.1 dX8_volume_77 ?_
      refine kTop (y := (nI (vn + 1))) (nI_add _ _) ?_
      refine kPut (C := RX8) (T := TX8) (N := 29) (index := 41) (v := .int (nI (vn + 1))) hF hK hP hD hS (inT inBX8) tyX8_ok nmX8 0 rfl rfl 11 (by decide) rfl (List.mem_cons_of_mem _ mF_X8_41) rfl rfl rfl (Nat.le_of_ble_eq_true rfl) dX8_volume_78 (fun H locs hP hD hS => ?_)
      have hP : PG G [oC x 8 [.ref ak, .ref am, .ref ao, .ref av, .ref ap, .ref ax, .ref ay, .int (nI ec), .ref ad, .ref an, .ref ab, .int (nI (vn + 1)), .ref ar, .ref ac, .int us, .int ro, .int pr, .ref at_, .int (nI tn), .ref as_, .int (nI sn), .ref aq, .int (nI qn), .int wa, .int (nI hp), .long nm, .int (nI ns), .int (zI la), .int (zI sl)], aI G ak 40 (upd kF (lfN kF) (nI 1)), aI G am 40 (upd mF (lfN kF) (nI 15)), aI G ao 40 (upd oF (lfN kF) (nI 0)), aI G av 40 (upd vF (lfN kF) (nI vn)), aI G ap 40 (upd pF (lfN kF) (nI (lfN kF))), aI G ar 4 (upd rF vn (nI (lfN kF)))] H := hP
      have hD : va_D A [oC x 8 [.ref ak, .ref am, .ref ao, .ref av, .ref ap, .ref ax, .ref ay, .int (nI ec), .ref ad, .ref an, .ref ab, .int (nI (vn + 1)), .ref ar, .ref ac, .int us, .int ro, .int pr, .ref at_, .int (nI tn), .ref as_, .int (nI sn), .ref aq, .int (nI qn), .int wa, .int (nI hp), .long nm, .int (nI ns), .int (zI la), .int (zI sl)], aI G ak 40 (upd kF (lfN kF) (nI 1)), aI G am 40 (upd mF (lfN kF) (nI 15)), aI G ao 40 (upd oF (lfN kF) (nI 0)), aI G av 40 (upd vF (lfN kF) (nI vn)), aI G ap 40 (upd pF (lfN kF) (nI (lfN kF))), aI G ar 4 (upd rF vn (nI (lfN kF)))] := hD
      refine lv_aload_n hF.1 hF.2.1 dX8_volume_81 rfl (lv_at hl 1 rfl) ?_
      refine kGet (C := RX8) (T := TX8) (N := 29) (index := 41) hF hK hP (inT inBX8) 0 rfl rfl 11 (by decide) rfl (List.mem_cons_of_mem _ mF_X8_41) rfl dX8_volume_82 ?_
      refine lv_iconst (v := (nI 1)) hF.1 hF.2.1 dX8_volume_85 (by decide) ?_
      refine lv_isub hF.1 hF.2.1 dX8_volume_86 ?_
      refine kTop (y := (nI ((vn + 1) - 1))) (pk_sub (by omega)) ?_
      refine kRetI (v := (nI ((vn + 1) - 1))) hF hr hlk hK hP hD hS hQ rfl ((nI ((vn + 1) - 1)), upd kF (lfN kF) (nI 1), upd mF (lfN kF) (nI 15), upd oF (lfN kF) (nI 0), upd vF (lfN kF) (nI vn), upd pF (lfN kF) (nI (lfN kF)), upd rF vn (nI (lfN kF)), vn + 1) [0, 1, 2, 3, 4, 5, 6] (by decide) rfl (Nat.le_of_ble_eq_true rfl) (Nat.le_of_ble_eq_true rfl) dX8_volume_87 ?_
      refine ⟨rfl, ?_⟩
      rw [volR, if_pos ⟨by omega, by omega⟩, Nat.add_sub_cancel]
    · refine lv_bipush (v := (-10)) hF.1 hF.2.1 dX8_volume_19 (by decide) ?_
      refine kRetI (v := (-10)) hF hr hlk hK hP hD hS hQ rfl ((-10), kF, mF, oF, vF, pF, rF, vn) [0, 1, 2, 3, 4, 5, 6] (by decide) rfl (Nat.le_of_ble_eq_true rfl) (Nat.le_of_ble_eq_true rfl) dX8_volume_21 ?_
      exact ⟨rfl, (if_neg (fun h => by omega)).symm⟩
set_option maxHeartbeats 4000000 in
set_option maxRecDepth 100000 in
theorem c_X8_about (l : Launch) (G : GG) (sz : Nat) (x : Nat) (ak : Nat) (am : Nat) (ao : Nat) (av : Nat) (ap : Nat) (ax : Nat) (ay : Nat) (ad : Nat) (an : Nat) (ab : Nat) (ar : Nat) (ac : Nat) (at_ : Nat) (as_ : Nat) (aq : Nat) (ec : Nat) (vn : Nat) (tn : Nat) (sn : Nat) (qn : Nat) (hp : Nat) (ns : Nat) (us : Int32) (ro : Int32) (pr : Int32) (wa : Int32) (nm : Int64) (la : Prop) (sl : Prop) (kF : Nat → Int32) (mF : Nat → Int32) (oF : Nat → Int32) (vF : Nat → Int32) (dF : Nat → Int32) (bF : Nat → Int32) (cF : Nat → Int32) (i : Int32) (w : Int32) (hec : ec ≤ 80) (hvn : 1 ≤ vn ∧ vn ≤ 4) : CtI l G yX8_about wsX8_about 1 23 0 0 sz [.ref x, .int i, .int w] [oC x 8 [.ref ak, .ref am, .ref ao, .ref av, .ref ap, .ref ax, .ref ay, .int (nI ec), .ref ad, .ref an, .ref ab, .int (nI vn), .ref ar, .ref ac, .int us, .int ro, .int pr, .ref at_, .int (nI tn), .ref as_, .int (nI sn), .ref aq, .int (nI qn), .int wa, .int (nI hp), .long nm, .int (nI ns), .int (zI la), .int (zI sl)], aI G ak 40 kF, aI G am 40 mF, aI G ao 40 oF, aI G av 40 vF, aI G ad 80 dF, aI G ab 80 bF, aI G ac 4 cF] (fun r (_ : Unit) => r = (abR kF mF oF vF dF bF cF ec vn i w)) (fun (_ : Unit) => [oC x 8 [.ref ak, .ref am, .ref ao, .ref av, .ref ap, .ref ax, .ref ay, .int (nI ec), .ref ad, .ref an, .ref ab, .int (nI vn), .ref ar, .ref ac, .int us, .int ro, .int pr, .ref at_, .int (nI tn), .ref as_, .int (nI sn), .ref aq, .int (nI qn), .int wa, .int (nI hp), .long nm, .int (nI ns), .int (zI la), .int (zI sl)], aI G ak 40 kF, aI G am 40 mF, aI G ao 40 oF, aI G av 40 vF, aI G ad 80 dF, aI G ab 80 bF, aI G ac 4 cF]) := by
  refine kMet (Qc := fun A => va_Qi _ (Bw G A _) A) (cc := cX8_about) (nL := 3) (ret := some (.int)) (by decide) rfl (Nat.le_of_ble_eq_true rfl) ?_
  intro p e s m args below meth c A Q hF hr hlk hnme hK hP hD hA hS hQ hsz ls hl
  have hl : lv_has ls 3 [(0, .ref x), (1, .int i), (2, .int w)] := hl
  refine lv_aload_n hF.1 hF.2.1 dX8_about_0 rfl (lv_at hl 0 rfl) ?_
  refine lv_iload_n hF.1 hF.2.1 dX8_about_1 rfl (lv_at hl 1 rfl) ?_
  refine kCallI (wr := [aI G am 40 mF, aI G ao 40 oF, aI G av 40 vF, aI G ad 80 dF, aI G ab 80 bF, aI G ac 4 cF]) (va_runV (As := [.int i]) (rest := []) hF (c_X8_there l G _ x ak am ao av ap ax ay ad an ab ar ac at_ as_ aq ec vn tn sn qn hp ns us ro pr wa nm la sl kF i) (cwVB 1 hF rfl mL_X8_199 mI_X8_there mS_X8_there mN_X8 mC_X8_there rfl hd_X8_there rfl rfl ⟨Nat.le_of_ble_eq_true rfl, Nat.le_of_ble_eq_true rfl⟩) (kPre hK hP hD [0, 1] (by decide) rfl (q0 := 0) (ci := 8) rfl rfl rfl) rfl rfl hl.1 rfl (lv_room (Nat.le_of_ble_eq_true rfl)) dX8_about_2 ⟨Nat.le_of_ble_eq_true rfl, Nat.le_of_ble_eq_true rfl⟩) hP hD hS hA [0, 1] [2, 3, 4, 5, 6, 7] rfl rfl (by decide) (by decide) (fun r u H locs hw_1 hP hD hS => ?_)
  have hw_1 := hw_1.symm
  subst hw_1
  have hP : PG G [oC x 8 [.ref ak, .ref am, .ref ao, .ref av, .ref ap, .ref ax, .ref ay, .int (nI ec), .ref ad, .ref an, .ref ab, .int (nI vn), .ref ar, .ref ac, .int us, .int ro, .int pr, .ref at_, .int (nI tn), .ref as_, .int (nI sn), .ref aq, .int (nI qn), .int wa, .int (nI hp), .long nm, .int (nI ns), .int (zI la), .int (zI sl)], aI G ak 40 kF, aI G am 40 mF, aI G ao 40 oF, aI G av 40 vF, aI G ad 80 dF, aI G ab 80 bF, aI G ac 4 cF] H := va_P.sub hP [6, 7, 0, 1, 2, 3, 4, 5] rfl
  have hD : va_D A [oC x 8 [.ref ak, .ref am, .ref ao, .ref av, .ref ap, .ref ax, .ref ay, .int (nI ec), .ref ad, .ref an, .ref ab, .int (nI vn), .ref ar, .ref ac, .int us, .int ro, .int pr, .ref at_, .int (nI tn), .ref as_, .int (nI sn), .ref aq, .int (nI qn), .int wa, .int (nI hp), .long nm, .int (nI ns), .int (zI la), .int (zI sl)], aI G ak 40 kF, aI G am 40 mF, aI G ao 40 oF, aI G av 40 vF, aI G ad 80 dF, aI G ab 80 bF, aI G ac 4 cF] := va_D.sub hD [6, 7, 0, 1, 2, 3, 4, 5] (by decide) rfl
  refine kIfEqZ (tgt := 17) hF dX8_about_5 (by decide) (fun c_2 => ?_) (fun c_2 => ?_)
  · refine lv_bipush (v := (-11)) hF.1 hF.2.1 dX8_about_17 (by decide) ?_
    refine kRetI (v := (-11)) hF hr hlk hK hP hD hS hQ rfl () [0, 1, 2, 3, 4, 5, 6, 7] (by decide) rfl (Nat.le_of_ble_eq_true rfl) (Nat.le_of_ble_eq_true rfl) dX8_about_19 ?_
    exact (if_neg (fun h => by first | exact absurd h.1 (by assumption) | exact absurd (by assumption) h.2.1 | exact absurd (Int32.not_le.mp (by assumption)) h.2.2)).symm
  · refine lv_iload_n hF.1 hF.2.1 dX8_about_8 rfl (lv_at hl 2 rfl) ?_
    refine lv_if_lt (tgt := 17) hF.1 hF.2.1 dX8_about_9 (by decide) (fun c_3 => ?_) (fun c_3 => ?_)
    · refine lv_bipush (v := (-11)) hF.1 hF.2.1 dX8_about_17 (by decide) ?_
      refine kRetI (v := (-11)) hF hr hlk hK hP hD hS hQ rfl () [0, 1, 2, 3, 4, 5, 6, 7] (by decide) rfl (Nat.le_of_ble_eq_true rfl) (Nat.le_of_ble_eq_true rfl) dX8_about_19 ?_
      exact (if_neg (fun h => by first | exact absurd h.1 (by assumption) | exact absurd (by assumption) h.2.1 | exact absurd (Int32.not_le.mp (by assumption)) h.2.2)).symm
    · refine lv_iload_n hF.1 hF.2.1 dX8_about_12 rfl (lv_at hl 2 rfl) ?_
      refine lv_iconst (v := (nI 5)) hF.1 hF.2.1 dX8_about_13 (by decide) ?_
      refine lv_icmp_le (tgt := 20) hF.1 hF.2.1 dX8_about_14 (by decide) (fun c_4 => ?_) (fun c_4 => ?_)
      · refine lv_iload_n hF.1 hF.2.1 dX8_about_20 rfl (lv_at hl 2 rfl) ?_
        refine lv_iconst (v := (nI 2)) hF.1 hF.2.1 dX8_about_21 (by decide) ?_
        refine lv_icmp_le (tgt := 57) hF.1 hF.2.1 dX8_about_22 (by decide) (fun c_5 => ?_) (fun c_5 => ?_)
        · refine lv_iload_n hF.1 hF.2.1 dX8_about_57 rfl (lv_at hl 2 rfl) ?_
          refine lv_if_ne (tgt := 70) hF.1 hF.2.1 dX8_about_58 (by decide) (fun c_6 => ?_) (fun c_6 => ?_)
          · refine lv_iload_n hF.1 hF.2.1 dX8_about_70 rfl (lv_at hl 2 rfl) ?_
            refine lv_iconst (v := (nI 1)) hF.1 hF.2.1 dX8_about_71 (by decide) ?_
            refine lv_icmp_ne (tgt := 84) hF.1 hF.2.1 dX8_about_72 (by decide) (fun c_7 => ?_) (fun c_7 => ?_)
            · refine lv_aload_n hF.1 hF.2.1 dX8_about_84 rfl (lv_at hl 0 rfl) ?_
              refine kGet (C := RX8) (T := TX8) (N := 29) (index := 19) hF hK hP (inT inBX8) 0 rfl rfl 3 (by decide) rfl (List.mem_cons_of_mem _ mF_X8_19) rfl dX8_about_85 ?_
              refine lv_iload_n hF.1 hF.2.1 dX8_about_88 rfl (lv_at hl 1 rfl) ?_
              refine kIald hF hK hP 4 rfl (knC_in (by assumption)) dX8_about_89 ?_
              refine kRetI (v := (vF (ix i))) hF hr hlk hK hP hD hS hQ rfl () [0, 1, 2, 3, 4, 5, 6, 7] (by decide) rfl (Nat.le_of_ble_eq_true rfl) (Nat.le_of_ble_eq_true rfl) dX8_about_90 ?_
              rw [abR, if_pos ⟨by assumption, by assumption, Int32.not_lt.mpr (by assumption)⟩]
              first | (rw [if_pos (Int32.not_le.mp (by assumption))]; first | (rw [if_pos (by assumption)]; done) | (rw [if_neg (by assumption)]; first | (rw [if_pos (by assumption)]; done) | (rw [if_neg (by assumption)]; done))) | (rw [if_neg (Int32.not_lt.mpr (by assumption))]; first | (rw [if_pos (by assumption)]; done) | (rw [if_neg (by assumption)]; first | (rw [if_pos (by assumption)]; done) | (rw [if_neg (by assumption)]; done)))
            · refine lv_aload_n hF.1 hF.2.1 dX8_about_75 rfl (lv_at hl 0 rfl) ?_
              refine kGet (C := RX8) (T := TX8) (N := 29) (index := 16) hF hK hP (inT inBX8) 0 rfl rfl 2 (by decide) rfl (List.mem_cons_of_mem _ mF_X8_16) rfl dX8_about_76 ?_
              refine lv_iload_n hF.1 hF.2.1 dX8_about_79 rfl (lv_at hl 1 rfl) ?_
              refine kIald hF hK hP 3 rfl (knC_in (by assumption)) dX8_about_80 ?_
              refine lv_goto (tgt := 90) hF.1 hF.2.1 dX8_about_81 (by decide) ?_
              refine kRetI (v := (oF (ix i))) hF hr hlk hK hP hD hS hQ rfl () [0, 1, 2, 3, 4, 5, 6, 7] (by decide) rfl (Nat.le_of_ble_eq_true rfl) (Nat.le_of_ble_eq_true rfl) dX8_about_90 ?_
              rw [abR, if_pos ⟨by assumption, by assumption, Int32.not_lt.mpr (by assumption)⟩]
              first | (rw [if_pos (Int32.not_le.mp (by assumption))]; first | (rw [if_pos (by assumption)]; done) | (rw [if_neg (by assumption)]; first | (rw [if_pos (by assumption)]; done) | (rw [if_neg (by assumption)]; done))) | (rw [if_neg (Int32.not_lt.mpr (by assumption))]; first | (rw [if_pos (by assumption)]; done) | (rw [if_neg (by assumption)]; first | (rw [if_pos (by assumption)]; done) | (rw [if_neg (by assumption)]; done)))
          · refine lv_aload_n hF.1 hF.2.1 dX8_about_61 rfl (lv_at hl 0 rfl) ?_
            refine kGet (C := RX8) (T := TX8) (N := 29) (index := 13) hF hK hP (inT inBX8) 0 rfl rfl 1 (by decide) rfl (List.mem_cons_of_mem _ mF_X8_13) rfl dX8_about_62 ?_
            refine lv_iload_n hF.1 hF.2.1 dX8_about_65 rfl (lv_at hl 1 rfl) ?_
            refine kIald hF hK hP 2 rfl (knC_in (by assumption)) dX8_about_66 ?_
            refine lv_goto (tgt := 90) hF.1 hF.2.1 dX8_about_67 (by decide) ?_
            refine kRetI (v := (mF (ix i))) hF hr hlk hK hP hD hS hQ rfl () [0, 1, 2, 3, 4, 5, 6, 7] (by decide) rfl (Nat.le_of_ble_eq_true rfl) (Nat.le_of_ble_eq_true rfl) dX8_about_90 ?_
            rw [abR, if_pos ⟨by assumption, by assumption, Int32.not_lt.mpr (by assumption)⟩]
            first | (rw [if_pos (Int32.not_le.mp (by assumption))]; first | (rw [if_pos (by assumption)]; done) | (rw [if_neg (by assumption)]; first | (rw [if_pos (by assumption)]; done) | (rw [if_neg (by assumption)]; done))) | (rw [if_neg (Int32.not_lt.mpr (by assumption))]; first | (rw [if_pos (by assumption)]; done) | (rw [if_neg (by assumption)]; first | (rw [if_pos (by assumption)]; done) | (rw [if_neg (by assumption)]; done)))
        · refine lv_iload_n hF.1 hF.2.1 dX8_about_25 rfl (lv_at hl 2 rfl) ?_
          refine lv_iconst (v := (nI 3)) hF.1 hF.2.1 dX8_about_26 (by decide) ?_
          refine lv_icmp_ne (tgt := 38) hF.1 hF.2.1 dX8_about_27 (by decide) (fun c_8 => ?_) (fun c_8 => ?_)
          · refine lv_iload_n hF.1 hF.2.1 dX8_about_38 rfl (lv_at hl 2 rfl) ?_
            refine lv_iconst (v := (nI 4)) hF.1 hF.2.1 dX8_about_39 (by decide) ?_
            refine lv_icmp_ne (tgt := 51) hF.1 hF.2.1 dX8_about_40 (by decide) (fun c_9 => ?_) (fun c_9 => ?_)
            · refine lv_aload_n hF.1 hF.2.1 dX8_about_51 rfl (lv_at hl 0 rfl) ?_
              refine lv_iload_n hF.1 hF.2.1 dX8_about_52 rfl (lv_at hl 1 rfl) ?_
              refine kCallI (wr := [aI G ak 40 kF, aI G am 40 mF, aI G ao 40 oF, aI G av 40 vF, aI G ad 80 dF, aI G ab 80 bF]) (va_runV (As := [.int i]) (rest := []) hF (c_X8_coverOf l G H.size x ak am ao av ap ax ay ad an ab ar ac at_ as_ aq ec vn tn sn qn hp ns us ro pr wa nm la sl cF i (by first | assumption | omega)) (cwVB 1 hF rfl mL_X8_69 mI_X8_coverOf mS_X8_coverOf mN_X8 mC_X8_coverOf rfl hd_X8_coverOf rfl rfl ⟨Nat.le_of_ble_eq_true rfl, Nat.le_of_ble_eq_true rfl⟩) (kPre hK hP hD [0, 7] (by decide) rfl (q0 := 0) (ci := 8) rfl rfl rfl) rfl rfl hl.1 rfl (lv_room (Nat.le_of_ble_eq_true rfl)) dX8_about_53 ⟨Nat.le_of_ble_eq_true rfl, Nat.le_of_ble_eq_true rfl⟩) hP hD hS hA [0, 7] [1, 2, 3, 4, 5, 6] rfl rfl (by decide) (by decide) (fun r u H locs hw_10 hP hD hS => ?_)
              have hw_10 := hw_10.symm
              subst hw_10
              have hP : PG G [oC x 8 [.ref ak, .ref am, .ref ao, .ref av, .ref ap, .ref ax, .ref ay, .int (nI ec), .ref ad, .ref an, .ref ab, .int (nI vn), .ref ar, .ref ac, .int us, .int ro, .int pr, .ref at_, .int (nI tn), .ref as_, .int (nI sn), .ref aq, .int (nI qn), .int wa, .int (nI hp), .long nm, .int (nI ns), .int (zI la), .int (zI sl)], aI G ak 40 kF, aI G am 40 mF, aI G ao 40 oF, aI G av 40 vF, aI G ad 80 dF, aI G ab 80 bF, aI G ac 4 cF] H := va_P.sub hP [6, 0, 1, 2, 3, 4, 5, 7] rfl
              have hD : va_D A [oC x 8 [.ref ak, .ref am, .ref ao, .ref av, .ref ap, .ref ax, .ref ay, .int (nI ec), .ref ad, .ref an, .ref ab, .int (nI vn), .ref ar, .ref ac, .int us, .int ro, .int pr, .ref at_, .int (nI tn), .ref as_, .int (nI sn), .ref aq, .int (nI qn), .int wa, .int (nI hp), .long nm, .int (nI ns), .int (zI la), .int (zI sl)], aI G ak 40 kF, aI G am 40 mF, aI G ao 40 oF, aI G av 40 vF, aI G ad 80 dF, aI G ab 80 bF, aI G ac 4 cF] := va_D.sub hD [6, 0, 1, 2, 3, 4, 5, 7] (by decide) rfl
              have hfc_11 := cvR_lt2 cF i vn (by omega)
              refine kRetI (v := (nI (cvR cF i vn))) hF hr hlk hK hP hD hS hQ rfl () [0, 1, 2, 3, 4, 5, 6, 7] (by decide) rfl (Nat.le_of_ble_eq_true rfl) (Nat.le_of_ble_eq_true rfl) dX8_about_56 ?_
              rw [abR, if_pos ⟨by assumption, by assumption, Int32.not_lt.mpr (by assumption)⟩]
              first | (rw [if_pos (Int32.not_le.mp (by assumption))]; first | (rw [if_pos (by assumption)]; done) | (rw [if_neg (by assumption)]; first | (rw [if_pos (by assumption)]; done) | (rw [if_neg (by assumption)]; done))) | (rw [if_neg (Int32.not_lt.mpr (by assumption))]; first | (rw [if_pos (by assumption)]; done) | (rw [if_neg (by assumption)]; first | (rw [if_pos (by assumption)]; done) | (rw [if_neg (by assumption)]; done)))
            · refine lv_aload_n hF.1 hF.2.1 dX8_about_43 rfl (lv_at hl 0 rfl) ?_
              refine lv_iload_n hF.1 hF.2.1 dX8_about_44 rfl (lv_at hl 1 rfl) ?_
              refine kCallI (wr := [aI G ak 40 kF, aI G am 40 mF, aI G ao 40 oF, aI G av 40 vF, aI G ab 80 bF, aI G ac 4 cF]) (va_runV (As := [.int i]) (rest := []) hF (c_X8_entriesOf l G H.size x ak am ao av ap ax ay ad an ab ar ac at_ as_ aq ec vn tn sn qn hp ns us ro pr wa nm la sl dF i (by first | assumption | omega)) (cwVB 1 hF rfl mL_X8_180 mI_X8_entriesOf mS_X8_entriesOf mN_X8 mC_X8_entriesOf rfl hd_X8_entriesOf rfl rfl ⟨Nat.le_of_ble_eq_true rfl, Nat.le_of_ble_eq_true rfl⟩) (kPre hK hP hD [0, 5] (by decide) rfl (q0 := 0) (ci := 8) rfl rfl rfl) rfl rfl hl.1 rfl (lv_room (Nat.le_of_ble_eq_true rfl)) dX8_about_45 ⟨Nat.le_of_ble_eq_true rfl, Nat.le_of_ble_eq_true rfl⟩) hP hD hS hA [0, 5] [1, 2, 3, 4, 6, 7] rfl rfl (by decide) (by decide) (fun r u H locs hw_12 hP hD hS => ?_)
              have hw_12 := hw_12.symm
              subst hw_12
              have hP : PG G [oC x 8 [.ref ak, .ref am, .ref ao, .ref av, .ref ap, .ref ax, .ref ay, .int (nI ec), .ref ad, .ref an, .ref ab, .int (nI vn), .ref ar, .ref ac, .int us, .int ro, .int pr, .ref at_, .int (nI tn), .ref as_, .int (nI sn), .ref aq, .int (nI qn), .int wa, .int (nI hp), .long nm, .int (nI ns), .int (zI la), .int (zI sl)], aI G ak 40 kF, aI G am 40 mF, aI G ao 40 oF, aI G av 40 vF, aI G ad 80 dF, aI G ab 80 bF, aI G ac 4 cF] H := va_P.sub hP [6, 0, 1, 2, 3, 7, 4, 5] rfl
              have hD : va_D A [oC x 8 [.ref ak, .ref am, .ref ao, .ref av, .ref ap, .ref ax, .ref ay, .int (nI ec), .ref ad, .ref an, .ref ab, .int (nI vn), .ref ar, .ref ac, .int us, .int ro, .int pr, .ref at_, .int (nI tn), .ref as_, .int (nI sn), .ref aq, .int (nI qn), .int wa, .int (nI hp), .long nm, .int (nI ns), .int (zI la), .int (zI sl)], aI G ak 40 kF, aI G am 40 mF, aI G ao 40 oF, aI G av 40 vF, aI G ad 80 dF, aI G ab 80 bF, aI G ac 4 cF] := va_D.sub hD [6, 0, 1, 2, 3, 7, 4, 5] (by decide) rfl
              have hfc_13 := cntB_le (p := fun j => decide (dF j = i)) ec
              refine lv_goto (tgt := 56) hF.1 hF.2.1 dX8_about_48 (by decide) ?_
              refine kRetI (v := (nI (cntB (fun j => decide (dF j = i)) ec))) hF hr hlk hK hP hD hS hQ rfl () [0, 1, 2, 3, 4, 5, 6, 7] (by decide) rfl (Nat.le_of_ble_eq_true rfl) (Nat.le_of_ble_eq_true rfl) dX8_about_56 ?_
              rw [abR, if_pos ⟨by assumption, by assumption, Int32.not_lt.mpr (by assumption)⟩]
              first | (rw [if_pos (Int32.not_le.mp (by assumption))]; first | (rw [if_pos (by assumption)]; done) | (rw [if_neg (by assumption)]; first | (rw [if_pos (by assumption)]; done) | (rw [if_neg (by assumption)]; done))) | (rw [if_neg (Int32.not_lt.mpr (by assumption))]; first | (rw [if_pos (by assumption)]; done) | (rw [if_neg (by assumption)]; first | (rw [if_pos (by assumption)]; done) | (rw [if_neg (by assumption)]; done)))
          · refine lv_aload_n hF.1 hF.2.1 dX8_about_30 rfl (lv_at hl 0 rfl) ?_
            refine lv_iload_n hF.1 hF.2.1 dX8_about_31 rfl (lv_at hl 1 rfl) ?_
            refine kCallI (wr := [aI G ak 40 kF, aI G am 40 mF, aI G ao 40 oF, aI G av 40 vF, aI G ad 80 dF, aI G ac 4 cF]) (va_runV (As := [.int i]) (rest := []) hF (c_X8_entriesFor l G H.size x ak am ao av ap ax ay ad an ab ar ac at_ as_ aq ec vn tn sn qn hp ns us ro pr wa nm la sl bF i (by first | assumption | omega)) (cwVB 1 hF rfl mL_X8_183 mI_X8_entriesFor mS_X8_entriesFor mN_X8 mC_X8_entriesFor rfl hd_X8_entriesFor rfl rfl ⟨Nat.le_of_ble_eq_true rfl, Nat.le_of_ble_eq_true rfl⟩) (kPre hK hP hD [0, 6] (by decide) rfl (q0 := 0) (ci := 8) rfl rfl rfl) rfl rfl hl.1 rfl (lv_room (Nat.le_of_ble_eq_true rfl)) dX8_about_32 ⟨Nat.le_of_ble_eq_true rfl, Nat.le_of_ble_eq_true rfl⟩) hP hD hS hA [0, 6] [1, 2, 3, 4, 5, 7] rfl rfl (by decide) (by decide) (fun r u H locs hw_14 hP hD hS => ?_)
            have hw_14 := hw_14.symm
            subst hw_14
            have hP : PG G [oC x 8 [.ref ak, .ref am, .ref ao, .ref av, .ref ap, .ref ax, .ref ay, .int (nI ec), .ref ad, .ref an, .ref ab, .int (nI vn), .ref ar, .ref ac, .int us, .int ro, .int pr, .ref at_, .int (nI tn), .ref as_, .int (nI sn), .ref aq, .int (nI qn), .int wa, .int (nI hp), .long nm, .int (nI ns), .int (zI la), .int (zI sl)], aI G ak 40 kF, aI G am 40 mF, aI G ao 40 oF, aI G av 40 vF, aI G ad 80 dF, aI G ab 80 bF, aI G ac 4 cF] H := va_P.sub hP [6, 0, 1, 2, 3, 4, 7, 5] rfl
            have hD : va_D A [oC x 8 [.ref ak, .ref am, .ref ao, .ref av, .ref ap, .ref ax, .ref ay, .int (nI ec), .ref ad, .ref an, .ref ab, .int (nI vn), .ref ar, .ref ac, .int us, .int ro, .int pr, .ref at_, .int (nI tn), .ref as_, .int (nI sn), .ref aq, .int (nI qn), .int wa, .int (nI hp), .long nm, .int (nI ns), .int (zI la), .int (zI sl)], aI G ak 40 kF, aI G am 40 mF, aI G ao 40 oF, aI G av 40 vF, aI G ad 80 dF, aI G ab 80 bF, aI G ac 4 cF] := va_D.sub hD [6, 0, 1, 2, 3, 4, 7, 5] (by decide) rfl
            have hfc_15 := cntB_le (p := fun j => decide (bF j = i)) ec
            refine lv_goto (tgt := 56) hF.1 hF.2.1 dX8_about_35 (by decide) ?_
            refine kRetI (v := (nI (cntB (fun j => decide (bF j = i)) ec))) hF hr hlk hK hP hD hS hQ rfl () [0, 1, 2, 3, 4, 5, 6, 7] (by decide) rfl (Nat.le_of_ble_eq_true rfl) (Nat.le_of_ble_eq_true rfl) dX8_about_56 ?_
            rw [abR, if_pos ⟨by assumption, by assumption, Int32.not_lt.mpr (by assumption)⟩]
            first | (rw [if_pos (Int32.not_le.mp (by assumption))]; first | (rw [if_pos (by assumption)]; done) | (rw [if_neg (by assumption)]; first | (rw [if_pos (by assumption)]; done) | (rw [if_neg (by assumption)]; done))) | (rw [if_neg (Int32.not_lt.mpr (by assumption))]; first | (rw [if_pos (by assumption)]; done) | (rw [if_neg (by assumption)]; first | (rw [if_pos (by assumption)]; done) | (rw [if_neg (by assumption)]; done)))
      · refine lv_bipush (v := (-11)) hF.1 hF.2.1 dX8_about_17 (by decide) ?_
        refine kRetI (v := (-11)) hF hr hlk hK hP hD hS hQ rfl () [0, 1, 2, 3, 4, 5, 6, 7] (by decide) rfl (Nat.le_of_ble_eq_true rfl) (Nat.le_of_ble_eq_true rfl) dX8_about_19 ?_
        exact (if_neg (fun h => by first | exact absurd h.1 (by assumption) | exact absurd (by assumption) h.2.1 | exact absurd (Int32.not_le.mp (by assumption)) h.2.2)).symm
set_option maxHeartbeats 4000000 in
set_option maxRecDepth 100000 in
theorem c_X8_entry (l : Launch) (G : GG) (sz : Nat) (x : Nat) (ak : Nat) (am : Nat) (ao : Nat) (av : Nat) (ap : Nat) (ax : Nat) (ay : Nat) (ad : Nat) (an : Nat) (ab : Nat) (ar : Nat) (ac : Nat) (at_ : Nat) (as_ : Nat) (aq : Nat) (ec : Nat) (vn : Nat) (tn : Nat) (sn : Nat) (qn : Nat) (hp : Nat) (ns : Nat) (us : Int32) (ro : Int32) (pr : Int32) (wa : Int32) (nm : Int64) (la : Prop) (sl : Prop) (kF : Nat → Int32) (dF : Nat → Int32) (bF : Nat → Int32) (i : Int32) (k0 : Int32) (hec : ec ≤ 80) : CtI l G yX8_entry wsX8_entry 1 21 0 0 sz [.ref x, .int i, .int k0] [oC x 8 [.ref ak, .ref am, .ref ao, .ref av, .ref ap, .ref ax, .ref ay, .int (nI ec), .ref ad, .ref an, .ref ab, .int (nI vn), .ref ar, .ref ac, .int us, .int ro, .int pr, .ref at_, .int (nI tn), .ref as_, .int (nI sn), .ref aq, .int (nI qn), .int wa, .int (nI hp), .long nm, .int (nI ns), .int (zI la), .int (zI sl)], aI G ak 40 kF, aI G ad 80 dF, aI G ab 80 bF] (fun r (_ : Unit) => r = (enR kF dF bF ec i k0)) (fun (_ : Unit) => [oC x 8 [.ref ak, .ref am, .ref ao, .ref av, .ref ap, .ref ax, .ref ay, .int (nI ec), .ref ad, .ref an, .ref ab, .int (nI vn), .ref ar, .ref ac, .int us, .int ro, .int pr, .ref at_, .int (nI tn), .ref as_, .int (nI sn), .ref aq, .int (nI qn), .int wa, .int (nI hp), .long nm, .int (nI ns), .int (zI la), .int (zI sl)], aI G ak 40 kF, aI G ad 80 dF, aI G ab 80 bF]) := by
  refine kMet (Qc := fun A => va_Qi _ (Bw G A _) A) (cc := cX8_entry) (nL := 5) (ret := some (.int)) (by decide) rfl (Nat.le_of_ble_eq_true rfl) ?_
  intro p e s m args below meth c A Q hF hr hlk hnme hK hP hD hA hS hQ hsz ls hl
  have hl : lv_has ls 5 [(0, .ref x), (1, .int i), (2, .int k0)] := hl
  refine lv_aload_n hF.1 hF.2.1 dX8_entry_0 rfl (lv_at hl 0 rfl) ?_
  refine lv_iload_n hF.1 hF.2.1 dX8_entry_1 rfl (lv_at hl 1 rfl) ?_
  refine kCallI (wr := [aI G ad 80 dF, aI G ab 80 bF]) (va_runV (As := [.int i]) (rest := []) hF (c_X8_there l G _ x ak am ao av ap ax ay ad an ab ar ac at_ as_ aq ec vn tn sn qn hp ns us ro pr wa nm la sl kF i) (cwVB 1 hF rfl mL_X8_199 mI_X8_there mS_X8_there mN_X8 mC_X8_there rfl hd_X8_there rfl rfl ⟨Nat.le_of_ble_eq_true rfl, Nat.le_of_ble_eq_true rfl⟩) (kPre hK hP hD [0, 1] (by decide) rfl (q0 := 0) (ci := 8) rfl rfl rfl) rfl rfl hl.1 rfl (lv_room (Nat.le_of_ble_eq_true rfl)) dX8_entry_2 ⟨Nat.le_of_ble_eq_true rfl, Nat.le_of_ble_eq_true rfl⟩) hP hD hS hA [0, 1] [2, 3] rfl rfl (by decide) (by decide) (fun r u H locs hw_1 hP hD hS => ?_)
  have hw_1 := hw_1.symm
  subst hw_1
  have hP : PG G [oC x 8 [.ref ak, .ref am, .ref ao, .ref av, .ref ap, .ref ax, .ref ay, .int (nI ec), .ref ad, .ref an, .ref ab, .int (nI vn), .ref ar, .ref ac, .int us, .int ro, .int pr, .ref at_, .int (nI tn), .ref as_, .int (nI sn), .ref aq, .int (nI qn), .int wa, .int (nI hp), .long nm, .int (nI ns), .int (zI la), .int (zI sl)], aI G ak 40 kF, aI G ad 80 dF, aI G ab 80 bF] H := va_P.sub hP [2, 3, 0, 1] rfl
  have hD : va_D A [oC x 8 [.ref ak, .ref am, .ref ao, .ref av, .ref ap, .ref ax, .ref ay, .int (nI ec), .ref ad, .ref an, .ref ab, .int (nI vn), .ref ar, .ref ac, .int us, .int ro, .int pr, .ref at_, .int (nI tn), .ref as_, .int (nI sn), .ref aq, .int (nI qn), .int wa, .int (nI hp), .long nm, .int (nI ns), .int (zI la), .int (zI sl)], aI G ak 40 kF, aI G ad 80 dF, aI G ab 80 bF] := va_D.sub hD [2, 3, 0, 1] (by decide) rfl
  refine kIfEqZ (tgt := 12) hF dX8_entry_5 (by decide) (fun c_2 => ?_) (fun c_2 => ?_)
  · refine lv_iconst (v := (-1)) hF.1 hF.2.1 dX8_entry_12 (by decide) ?_
    refine kRetI (v := (-1)) hF hr hlk hK hP hD hS hQ rfl () [0, 1, 2, 3] (by decide) rfl (Nat.le_of_ble_eq_true rfl) (Nat.le_of_ble_eq_true rfl) dX8_entry_13 ?_
    exact (if_neg (fun h => by first | exact absurd h.1 (by assumption) | exact absurd hk0 h.2)).symm
  · refine lv_iload_n hF.1 hF.2.1 dX8_entry_8 rfl (lv_at hl 2 rfl) ?_
    refine lv_if_ge (tgt := 14) hF.1 hF.2.1 dX8_entry_9 (by decide) (fun c_3 => ?_) (fun c_3 => ?_)
    · have hk0 := Int32.not_lt.mpr c_3
      refine lv_iload_n hF.1 hF.2.1 dX8_entry_14 rfl (lv_at hl 2 rfl) ?_
      refine lv_istore_n (lv' := [(3, .int k0), (0, .ref x), (1, .int i), (2, .int k0)]) hF.1 hF.2.1 dX8_entry_15 rfl hl (by decide) rfl (fun ls hl => ?_)
      refine lv_iconst (v := (nI 0)) hF.1 hF.2.1 dX8_entry_16 (by decide) ?_
      refine lv_istore (lv' := [(4, .int (nI 0)), (3, .int k0), (0, .ref x), (1, .int i), (2, .int k0)]) hF.1 hF.2.1 dX8_entry_17 hl (by decide) rfl (fun ls hl => ?_)
      have loop_19 : ∀ (n_19 : Nat) (k : Nat) (b1 : Int32), ec - k < n_19 → (k ≤ ec) → (ntR dF i (ec - k) k b1 = ntR dF i ec 0 k0) → ∀ (H : Heap) (locs : List Loc) (ls : Array Slot), PG G [oC x 8 [.ref ak, .ref am, .ref ao, .ref av, .ref ap, .ref ax, .ref ay, .int (nI ec), .ref ad, .ref an, .ref ab, .int (nI vn), .ref ar, .ref ac, .int us, .int ro, .int pr, .ref at_, .int (nI tn), .ref as_, .int (nI sn), .ref aq, .int (nI qn), .int wa, .int (nI hp), .long nm, .int (nI ns), .int (zI la), .int (zI sl)], aI G ak 40 kF, aI G ad 80 dF, aI G ab 80 bF] H → va_D A [oC x 8 [.ref ak, .ref am, .ref ao, .ref av, .ref ap, .ref ax, .ref ay, .int (nI ec), .ref ad, .ref an, .ref ab, .int (nI vn), .ref ar, .ref ac, .int us, .int ro, .int pr, .ref at_, .int (nI tn), .ref as_, .int (nI sn), .ref aq, .int (nI qn), .int wa, .int (nI hp), .long nm, .int (nI ns), .int (zI la), .int (zI sl)], aI G ak 40 kF, aI G ad 80 dF, aI G ab 80 bF] → va_S A s.heap H locs → lv_has ls 5 [(4, .int (nI k)), (3, .int b1), (0, .ref x), (1, .int i), (2, .int k0)] → W p l e (Rm 1 0 0 21) s m args below meth c H locs 0 0 Q (F0 m 19 ls []) := by
        intro n_19
        induction n_19 with
        | zero => intro k b1 hm; exact absurd hm (Nat.not_lt_zero _)
        | succ n_19 ih_19 =>
          intro k b1 hm_19 hk hR H locs ls hP hD hS hl
          refine lv_iload hF.1 hF.2.1 dX8_entry_19 (lv_at hl 0 rfl) ?_
          refine lv_aload_n hF.1 hF.2.1 dX8_entry_21 rfl (lv_at hl 2 rfl) ?_
          refine kGet (C := RX8) (T := TX8) (N := 29) (index := 82) hF hK hP (inT inBX8) 0 rfl rfl 7 (by decide) rfl (List.mem_cons_of_mem _ mF_X8_82) rfl dX8_entry_22 ?_
          refine kGeN (tgt := 61) hF dX8_entry_25 (by decide) (by omega) (by omega) (fun c_4 => ?_) (fun c_4 => ?_)
          · refine lv_iconst (v := (-1)) hF.1 hF.2.1 dX8_entry_61 (by decide) ?_
            refine kRetI (v := (-1)) hF hr hlk hK hP hD hS hQ rfl () [0, 1, 2, 3] (by decide) rfl (Nat.le_of_ble_eq_true rfl) (Nat.le_of_ble_eq_true rfl) dX8_entry_62 ?_
            rw [enR, if_pos ⟨by assumption, hk0⟩, ← hR, ntR_e (by omega), if_neg (by omega)]
          · refine lv_aload_n hF.1 hF.2.1 dX8_entry_28 rfl (lv_at hl 2 rfl) ?_
            refine kGet (C := RX8) (T := TX8) (N := 29) (index := 31) hF hK hP (inT inBX8) 0 rfl rfl 8 (by decide) rfl (List.mem_cons_of_mem _ mF_X8_31) rfl dX8_entry_29 ?_
            refine lv_iload hF.1 hF.2.1 dX8_entry_32 (lv_at hl 0 rfl) ?_
            refine kIaldN hF hK hP 2 rfl (by omega) (by decide) dX8_entry_34 ?_
            refine lv_iload_n hF.1 hF.2.1 dX8_entry_35 rfl (lv_at hl 3 rfl) ?_
            refine lv_icmp_ne (tgt := 55) hF.1 hF.2.1 dX8_entry_36 (by decide) (fun c_5 => ?_) (fun c_5 => ?_)
            · refine lv_iinc (v := (nI (k + 1))) (lv' := [(4, .int (nI (k + 1))), (3, .int b1), (0, .ref x), (1, .int i), (2, .int k0)]) hF.1 hF.2.1 dX8_entry_55 hl (k := 0) rfl (nI_inc1 _) (by decide) rfl (fun ls hl => ?_)
              refine lv_goto (tgt := 19) hF.1 hF.2.1 dX8_entry_58 (by decide) ?_
              exact ih_19 (k + 1) b1 (by omega) (by omega) (by rw [← hR]; first | exact (ntR_n (by omega) (by assumption) (by assumption)).symm | exact (ntR_f (by omega) (by assumption)).symm) H locs ls hP hD hS (lv_sub hl [0, 1, 2, 3, 4] rfl)
            · refine lv_iload_n hF.1 hF.2.1 dX8_entry_39 rfl (lv_at hl 1 rfl) ?_
              refine lv_if_ne (tgt := 51) hF.1 hF.2.1 dX8_entry_40 (by decide) (fun c_6 => ?_) (fun c_6 => ?_)
              · refine lv_iload_n hF.1 hF.2.1 dX8_entry_51 rfl (lv_at hl 1 rfl) ?_
                refine lv_iconst (v := (nI 1)) hF.1 hF.2.1 dX8_entry_52 (by decide) ?_
                refine lv_isub hF.1 hF.2.1 dX8_entry_53 ?_
                refine lv_istore_n (lv' := [(3, .int (b1 - (nI 1))), (4, .int (nI k)), (0, .ref x), (1, .int i), (2, .int k0)]) hF.1 hF.2.1 dX8_entry_54 rfl hl (by decide) rfl (fun ls hl => ?_)
                refine lv_iinc (v := (nI (k + 1))) (lv' := [(4, .int (nI (k + 1))), (3, .int (b1 - (nI 1))), (0, .ref x), (1, .int i), (2, .int k0)]) hF.1 hF.2.1 dX8_entry_55 hl (k := 1) rfl (nI_inc1 _) (by decide) rfl (fun ls hl => ?_)
                refine lv_goto (tgt := 19) hF.1 hF.2.1 dX8_entry_58 (by decide) ?_
                exact ih_19 (k + 1) (b1 - (nI 1)) (by omega) (by omega) (by rw [← hR]; first | exact (ntR_n (by omega) (by assumption) (by assumption)).symm | exact (ntR_f (by omega) (by assumption)).symm) H locs ls hP hD hS (lv_sub hl [0, 1, 2, 3, 4] rfl)
              · refine lv_aload_n hF.1 hF.2.1 dX8_entry_43 rfl (lv_at hl 2 rfl) ?_
                refine kGet (C := RX8) (T := TX8) (N := 29) (index := 38) hF hK hP (inT inBX8) 0 rfl rfl 10 (by decide) rfl (List.mem_cons_of_mem _ mF_X8_38) rfl dX8_entry_44 ?_
                refine lv_iload hF.1 hF.2.1 dX8_entry_47 (lv_at hl 0 rfl) ?_
                refine kIaldN hF hK hP 3 rfl (by omega) (by decide) dX8_entry_49 ?_
                refine kRetI (v := (bF k)) hF hr hlk hK hP hD hS hQ rfl () [0, 1, 2, 3] (by decide) rfl (Nat.le_of_ble_eq_true rfl) (Nat.le_of_ble_eq_true rfl) dX8_entry_50 ?_
                rw [enR, if_pos ⟨by assumption, hk0⟩, ← hR, ntR_t (by omega) (by assumption) (by assumption), if_pos (by omega)]
      exact loop_19 _ 0 k0 (Nat.lt_succ_self _) (by omega) (rfl) _ _ _ hP hD hS (lv_sub hl [0, 1, 2, 3, 4] rfl)
    · have hk0 := Int32.not_le.mp c_3
      refine lv_iconst (v := (-1)) hF.1 hF.2.1 dX8_entry_12 (by decide) ?_
      refine kRetI (v := (-1)) hF hr hlk hK hP hD hS hQ rfl () [0, 1, 2, 3] (by decide) rfl (Nat.le_of_ble_eq_true rfl) (Nat.le_of_ble_eq_true rfl) dX8_entry_13 ?_
      exact (if_neg (fun h => by first | exact absurd h.1 (by assumption) | exact absurd hk0 h.2)).symm
