set_option maxHeartbeats 4000000 in
set_option maxRecDepth 100000 in
theorem c_X8_unmount (l : Launch) (G : GG) (sz : Nat) (x : Nat) (ak : Nat) (am : Nat) (ao : Nat) (av : Nat) (ap : Nat) (ax : Nat) (ay : Nat) (ad : Nat) (an : Nat) (ab : Nat) (ar : Nat) (ac : Nat) (at_ : Nat) (as_ : Nat) (aq : Nat) (ec : Nat) (vn : Nat) (tn : Nat) (sn : Nat) (qn : Nat) (hp : Nat) (ns : Nat) (us : Int32) (ro : Int32) (pr : Int32) (wa : Int32) (nm : Int64) (la : Prop) (sl : Prop) (kF : Nat → Int32) (mF : Nat → Int32) (oF : Nat → Int32) (pF : Nat → Int32) (xF : Nat → Int32) (LN : Nat → Nat) (dF : Nat → Int32) (nF : Nat → Int64) (bF : Nat → Int32) (rF : Nat → Int32) (cF : Nat → Int32) (vF : Nat → Int32) (tF : Nat → Int32) (qF : Nat → Int32) (hvn : 1 ≤ vn ∧ vn ≤ 4) (hcr : ∀ v, v < 4 → cF v = -1 ∨ vp_in (cF v) 40) (hrr : ∀ v, v < 4 → vp_in (rF v) 40) (hpr : ∀ i, i < 40 → vp_in (pF i) 40) (hbr : ∀ k, k < ec → vp_in (bF k) 40) (hro : vp_in ro 40) (hec : ec ≤ 80) (hLN : ∀ i, i < 40 → LN i ≤ 40) (hn : tn ≤ 40) (hpp : vp_in pr 40) : CtI l G yX8_unmount wsX8_unmount 5 114 0 0 sz [.ref x] [oC x 8 [.ref ak, .ref am, .ref ao, .ref av, .ref ap, .ref ax, .ref ay, .int (nI ec), .ref ad, .ref an, .ref ab, .int (nI vn), .ref ar, .ref ac, .int us, .int ro, .int pr, .ref at_, .int (nI tn), .ref as_, .int (nI sn), .ref aq, .int (nI qn), .int wa, .int (nI hp), .long nm, .int (nI ns), .int (zI la), .int (zI sl)], aI G ak 40 kF, aI G am 40 mF, aI G ao 40 oF, aI G ap 40 pF, aI G ax 1600 xF, aI G ay 40 (fun lv => nI (LN lv)), aI G ad 80 dF, aJ G an 80 nF, aI G ab 80 bF, aI G ar 4 rF, aI G ac 4 cF, aI G av 40 vF, aI G at_ 40 tF, aI G aq 100 qF] (fun r (u : Int32 × (Nat → Int32) × Nat × (Nat → Int32) × Int32 × Nat × Int64 × Nat × Prop × Prop) => match u with | (r0, c2, s2, q2, a1, h2, z2, n2, l2, e2) => r = r0 ∧ (r0, c2) = umR vF rF cF vn us ro pr (wkT kF mF oF pF rF cF xF vn dF nF bF ec LN us ro pr (nI 1) qF tn tF)) (fun (u : Int32 × (Nat → Int32) × Nat × (Nat → Int32) × Int32 × Nat × Int64 × Nat × Prop × Prop) => match u with | (r0, c2, s2, q2, a1, h2, z2, n2, l2, e2) => [oC x 8 [.ref ak, .ref am, .ref ao, .ref av, .ref ap, .ref ax, .ref ay, .int (nI ec), .ref ad, .ref an, .ref ab, .int (nI vn), .ref ar, .ref ac, .int us, .int ro, .int pr, .ref at_, .int (nI tn), .ref as_, .int (nI sn), .ref aq, .int (nI s2), .int a1, .int (nI h2), .long z2, .int (nI n2), .int (zI l2), .int (zI e2)], aI G ak 40 kF, aI G am 40 mF, aI G ao 40 oF, aI G ap 40 pF, aI G ax 1600 xF, aI G ay 40 (fun lv => nI (LN lv)), aI G ad 80 dF, aJ G an 80 nF, aI G ab 80 bF, aI G ar 4 rF, aI G ac 4 c2, aI G av 40 vF, aI G at_ 40 tF, aI G aq 100 q2]) := by
  refine kMet (Qc := fun A => va_Qi _ (Bw G A _) A) (cc := cX8_unmount) (nL := 5) (ret := some (.int)) (by decide) rfl (Nat.le_of_ble_eq_true rfl) ?_
  intro p e s m args below meth c A Q hF hr hlk hnme hK hP hD hA hS hQ hsz ls hl
  have hl : lv_has ls 5 [(0, .ref x)] := hl
  refine lv_aload_n hF.1 hF.2.1 dX8_unmount_0 rfl (lv_at hl 0 rfl) ?_
  refine kGet (C := RX8) (T := TX8) (N := 29) (index := 66) hF hK hP (inT inBX8) 0 rfl rfl 14 (by decide) rfl (List.mem_cons_of_mem _ mF_X8_66) rfl dX8_unmount_1 ?_
  refine lv_if_eq (tgt := 10) hF.1 hF.2.1 dX8_unmount_4 (by decide) (fun c_1 => ?_) (fun c_1 => ?_)
  · refine lv_aload_n hF.1 hF.2.1 dX8_unmount_10 rfl (lv_at hl 0 rfl) ?_
    refine lv_iconst (v := (nI 0)) hF.1 hF.2.1 dX8_unmount_11 (by decide) ?_
    refine lv_iconst (v := (nI 1)) hF.1 hF.2.1 dX8_unmount_12 (by decide) ?_
    refine kCallI (wr := [aI G av 40 vF]) (va_runV (As := [.int (nI 0), .int (nI 1)]) (rest := []) hF (c_X8_walk0 l G _ x ak am ao av ap ax ay ad an ab ar ac at_ as_ aq ec vn tn sn qn hp ns us ro pr wa nm la sl kF mF oF pF xF LN dF nF bF rF cF tF qF (nI 1) (by first | assumption | omega) (by first | assumption | omega) (by first | assumption | omega) (by first | assumption | omega) (by first | assumption | omega) (by first | assumption | omega) (by first | assumption | omega) (by first | assumption | omega) (by first | assumption | omega) (by first | assumption | omega)) (cwVB 2 hF rfl mL_X8_157 mI_X8_walk mS_X8_walk mN_X8 mC_X8_walk rfl hd_X8_walk rfl rfl ⟨Nat.le_of_ble_eq_true rfl, Nat.le_of_ble_eq_true rfl⟩) (kPre hK hP hD [0, 1, 2, 3, 4, 5, 6, 7, 8, 9, 10, 11, 13, 14] (by decide) rfl (q0 := 0) (ci := 8) rfl rfl rfl) rfl rfl hl.1 rfl (lv_room (Nat.le_of_ble_eq_true rfl)) dX8_unmount_13 ⟨Nat.le_of_ble_eq_true rfl, Nat.le_of_ble_eq_true rfl⟩) hP hD hS hA [0, 1, 2, 3, 4, 5, 6, 7, 8, 9, 10, 11, 13, 14] [12] rfl rfl (by decide) (by decide) (fun r u H locs hw_11 hP hD hS => ?_)
    obtain ⟨r0_2, s2_3, q2_4, a1_5, h2_6, z2_7, n2_8, l2_9, e2_10⟩ := u
    obtain ⟨hz, hw_11⟩ := hw_11
    have hz := hz.symm
    subst hz
    have hP : PG G [oC x 8 [.ref ak, .ref am, .ref ao, .ref av, .ref ap, .ref ax, .ref ay, .int (nI ec), .ref ad, .ref an, .ref ab, .int (nI vn), .ref ar, .ref ac, .int us, .int ro, .int pr, .ref at_, .int (nI tn), .ref as_, .int (nI sn), .ref aq, .int (nI s2_3), .int a1_5, .int (nI h2_6), .long z2_7, .int (nI n2_8), .int (zI l2_9), .int (zI e2_10)], aI G ak 40 kF, aI G am 40 mF, aI G ao 40 oF, aI G ap 40 pF, aI G ax 1600 xF, aI G ay 40 (fun lv => nI (LN lv)), aI G ad 80 dF, aJ G an 80 nF, aI G ab 80 bF, aI G ar 4 rF, aI G ac 4 cF, aI G av 40 vF, aI G at_ 40 tF, aI G aq 100 q2_4] H := va_P.sub hP [1, 2, 3, 4, 5, 6, 7, 8, 9, 10, 11, 12, 0, 13, 14] rfl
    have hD : va_D A [oC x 8 [.ref ak, .ref am, .ref ao, .ref av, .ref ap, .ref ax, .ref ay, .int (nI ec), .ref ad, .ref an, .ref ab, .int (nI vn), .ref ar, .ref ac, .int us, .int ro, .int pr, .ref at_, .int (nI tn), .ref as_, .int (nI sn), .ref aq, .int (nI s2_3), .int a1_5, .int (nI h2_6), .long z2_7, .int (nI n2_8), .int (zI l2_9), .int (zI e2_10)], aI G ak 40 kF, aI G am 40 mF, aI G ao 40 oF, aI G ap 40 pF, aI G ax 1600 xF, aI G ay 40 (fun lv => nI (LN lv)), aI G ad 80 dF, aJ G an 80 nF, aI G ab 80 bF, aI G ar 4 rF, aI G ac 4 cF, aI G av 40 vF, aI G at_ 40 tF, aI G aq 100 q2_4] := va_D.sub hD [1, 2, 3, 4, 5, 6, 7, 8, 9, 10, 11, 12, 0, 13, 14] (by decide) rfl
    have hT := hw_11
    refine lv_istore_n (lv' := [(1, .int r0_2), (0, .ref x)]) hF.1 hF.2.1 dX8_unmount_16 rfl hl (by decide) rfl (fun ls hl => ?_)
    refine lv_iload_n hF.1 hF.2.1 dX8_unmount_17 rfl (lv_at hl 0 rfl) ?_
    refine lv_if_ge (tgt := 23) hF.1 hF.2.1 dX8_unmount_18 (by decide) (fun c_12 => ?_) (fun c_12 => ?_)
    · have hnn := Int32.not_lt.mpr c_12
      refine lv_aload_n hF.1 hF.2.1 dX8_unmount_23 rfl (lv_at hl 1 rfl) ?_
      refine lv_iload_n hF.1 hF.2.1 dX8_unmount_24 rfl (lv_at hl 0 rfl) ?_
      refine kCallI (wr := [aI G ak 40 kF, aI G am 40 mF, aI G ao 40 oF, aI G ap 40 pF, aI G ax 1600 xF, aI G ay 40 (fun lv => nI (LN lv)), aI G ad 80 dF, aJ G an 80 nF, aI G ab 80 bF, aI G av 40 vF, aI G at_ 40 tF, aI G aq 100 q2_4]) (va_runV (As := [.int r0_2]) (rest := []) hF (c_X8_mountedAt l G H.size x ak am ao av ap ax ay ad an ab ar ac at_ as_ aq ec vn tn sn s2_3 h2_6 n2_8 us ro pr a1_5 z2_7 l2_9 e2_10 rF cF r0_2 (by first | assumption | omega)) (cwVB 1 hF rfl mL_X8_73 mI_X8_mountedAt mS_X8_mountedAt mN_X8 mC_X8_mountedAt rfl hd_X8_mountedAt rfl rfl ⟨Nat.le_of_ble_eq_true rfl, Nat.le_of_ble_eq_true rfl⟩) (kPre hK hP hD [0, 10, 11] (by decide) rfl (q0 := 0) (ci := 8) rfl rfl rfl) rfl rfl hl.1 rfl (lv_room (Nat.le_of_ble_eq_true rfl)) dX8_unmount_25 ⟨Nat.le_of_ble_eq_true rfl, Nat.le_of_ble_eq_true rfl⟩) hP hD hS hA [0, 10, 11] [1, 2, 3, 4, 5, 6, 7, 8, 9, 12, 13, 14] rfl rfl (by decide) (by decide) (fun r u H locs hw_13 hP hD hS => ?_)
      have hw_13 := hw_13.symm
      subst hw_13
      have hP : PG G [oC x 8 [.ref ak, .ref am, .ref ao, .ref av, .ref ap, .ref ax, .ref ay, .int (nI ec), .ref ad, .ref an, .ref ab, .int (nI vn), .ref ar, .ref ac, .int us, .int ro, .int pr, .ref at_, .int (nI tn), .ref as_, .int (nI sn), .ref aq, .int (nI s2_3), .int a1_5, .int (nI h2_6), .long z2_7, .int (nI n2_8), .int (zI l2_9), .int (zI e2_10)], aI G ak 40 kF, aI G am 40 mF, aI G ao 40 oF, aI G ap 40 pF, aI G ax 1600 xF, aI G ay 40 (fun lv => nI (LN lv)), aI G ad 80 dF, aJ G an 80 nF, aI G ab 80 bF, aI G ar 4 rF, aI G ac 4 cF, aI G av 40 vF, aI G at_ 40 tF, aI G aq 100 q2_4] H := va_P.sub hP [12, 0, 1, 2, 3, 4, 5, 6, 7, 8, 13, 14, 9, 10, 11] rfl
      have hD : va_D A [oC x 8 [.ref ak, .ref am, .ref ao, .ref av, .ref ap, .ref ax, .ref ay, .int (nI ec), .ref ad, .ref an, .ref ab, .int (nI vn), .ref ar, .ref ac, .int us, .int ro, .int pr, .ref at_, .int (nI tn), .ref as_, .int (nI sn), .ref aq, .int (nI s2_3), .int a1_5, .int (nI h2_6), .long z2_7, .int (nI n2_8), .int (zI l2_9), .int (zI e2_10)], aI G ak 40 kF, aI G am 40 mF, aI G ao 40 oF, aI G ap 40 pF, aI G ax 1600 xF, aI G ay 40 (fun lv => nI (LN lv)), aI G ad 80 dF, aJ G an 80 nF, aI G ab 80 bF, aI G ar 4 rF, aI G ac 4 cF, aI G av 40 vF, aI G at_ 40 tF, aI G aq 100 q2_4] := va_D.sub hD [12, 0, 1, 2, 3, 4, 5, 6, 7, 8, 13, 14, 9, 10, 11] (by decide) rfl
      have hfc_14 := mwR_lt2 rF cF r0_2 vn (by omega)
      refine lv_istore_n (lv' := [(2, .int (nI (mwR rF cF r0_2 vn))), (1, .int r0_2), (0, .ref x)]) hF.1 hF.2.1 dX8_unmount_28 rfl hl (by decide) rfl (fun ls hl => ?_)
      refine lv_iload_n hF.1 hF.2.1 dX8_unmount_29 rfl (lv_at hl 0 rfl) ?_
      refine kIfNeN (tgt := 36) hF dX8_unmount_30 (by decide) (by omega) (fun c_15 => ?_) (fun c_15 => ?_)
      · refine lv_aload_n hF.1 hF.2.1 dX8_unmount_36 rfl (lv_at hl 2 rfl) ?_
        refine kGet (C := RX8) (T := TX8) (N := 29) (index := 19) hF hK hP (inT inBX8) 0 rfl rfl 3 (by decide) rfl (List.mem_cons_of_mem _ mF_X8_19) rfl dX8_unmount_37 ?_
        refine lv_aload_n hF.1 hF.2.1 dX8_unmount_40 rfl (lv_at hl 2 rfl) ?_
        refine kGet (C := RX8) (T := TX8) (N := 29) (index := 108) hF hK hP (inT inBX8) 0 rfl rfl 15 (by decide) rfl (List.mem_cons_of_mem _ mF_X8_108) rfl dX8_unmount_41 ?_
        refine kIald hF hK hP 12 rfl (by assumption) dX8_unmount_44 ?_
        refine lv_iload_n hF.1 hF.2.1 dX8_unmount_45 rfl (lv_at hl 0 rfl) ?_
        refine lv_icmp_eq (tgt := 62) hF.1 hF.2.1 dX8_unmount_46 (by decide) (fun c_16 => ?_) (fun c_16 => ?_)
        · refine lv_iconst (v := (nI 1)) hF.1 hF.2.1 dX8_unmount_62 (by decide) ?_
          refine lv_goto (tgt := 67) hF.1 hF.2.1 dX8_unmount_63 (by decide) ?_
          refine kTop (y := zI (vF (ix ro) = nI (mwR rF cF r0_2 vn) ∨ vF (ix pr) = nI (mwR rF cF r0_2 vn))) (first_z (by first | exact Or.inl ⟨rfl, Or.inl (by assumption)⟩ | exact Or.inl ⟨rfl, Or.inr (by first | assumption | exact ⟨by assumption, by assumption⟩)⟩ | exact Or.inr ⟨rfl, fun h => by rcases h with h | h <;> first | contradiction | exact absurd h.2 (by assumption) | exact absurd (by assumption) h.1⟩)) ?_
          refine lv_istore_n (lv' := [(3, .int (zI (vF (ix ro) = nI (mwR rF cF r0_2 vn) ∨ vF (ix pr) = nI (mwR rF cF r0_2 vn)))), (2, .int (nI (mwR rF cF r0_2 vn))), (1, .int r0_2), (0, .ref x)]) hF.1 hF.2.1 dX8_unmount_67 rfl hl (by decide) rfl (fun ls hl => ?_)
          refine lv_iconst (v := (nI 1)) hF.1 hF.2.1 dX8_unmount_68 (by decide) ?_
          refine lv_istore (lv' := [(4, .int (nI 1)), (3, .int (zI (vF (ix ro) = nI (mwR rF cF r0_2 vn) ∨ vF (ix pr) = nI (mwR rF cF r0_2 vn)))), (2, .int (nI (mwR rF cF r0_2 vn))), (1, .int r0_2), (0, .ref x)]) hF.1 hF.2.1 dX8_unmount_69 hl (by decide) rfl (fun ls hl => ?_)
          have loop_71 : ∀ (n_71 : Nat) (k : Nat) (B : Prop), vn - k < n_71 → (1 ≤ k ∧ k ≤ vn) → (B ↔ bsR cF vF (nI (mwR rF cF r0_2 vn)) (vF (ix ro) = nI (mwR rF cF r0_2 vn) ∨ vF (ix pr) = nI (mwR rF cF r0_2 vn)) k) → ∀ (H : Heap) (locs : List Loc) (ls : Array Slot), PG G [oC x 8 [.ref ak, .ref am, .ref ao, .ref av, .ref ap, .ref ax, .ref ay, .int (nI ec), .ref ad, .ref an, .ref ab, .int (nI vn), .ref ar, .ref ac, .int us, .int ro, .int pr, .ref at_, .int (nI tn), .ref as_, .int (nI sn), .ref aq, .int (nI s2_3), .int a1_5, .int (nI h2_6), .long z2_7, .int (nI n2_8), .int (zI l2_9), .int (zI e2_10)], aI G ak 40 kF, aI G am 40 mF, aI G ao 40 oF, aI G ap 40 pF, aI G ax 1600 xF, aI G ay 40 (fun lv => nI (LN lv)), aI G ad 80 dF, aJ G an 80 nF, aI G ab 80 bF, aI G ar 4 rF, aI G ac 4 cF, aI G av 40 vF, aI G at_ 40 tF, aI G aq 100 q2_4] H → va_D A [oC x 8 [.ref ak, .ref am, .ref ao, .ref av, .ref ap, .ref ax, .ref ay, .int (nI ec), .ref ad, .ref an, .ref ab, .int (nI vn), .ref ar, .ref ac, .int us, .int ro, .int pr, .ref at_, .int (nI tn), .ref as_, .int (nI sn), .ref aq, .int (nI s2_3), .int a1_5, .int (nI h2_6), .long z2_7, .int (nI n2_8), .int (zI l2_9), .int (zI e2_10)], aI G ak 40 kF, aI G am 40 mF, aI G ao 40 oF, aI G ap 40 pF, aI G ax 1600 xF, aI G ay 40 (fun lv => nI (LN lv)), aI G ad 80 dF, aJ G an 80 nF, aI G ab 80 bF, aI G ar 4 rF, aI G ac 4 cF, aI G av 40 vF, aI G at_ 40 tF, aI G aq 100 q2_4] → va_S A s.heap H locs → lv_has ls 5 [(4, .int (nI k)), (3, .int (zI B)), (2, .int (nI (mwR rF cF r0_2 vn))), (1, .int r0_2), (0, .ref x)] → W p l e (Rm 5 0 0 114) s m args below meth c H locs 0 0 Q (F0 m 71 ls []) := by
            intro n_71
            induction n_71 with
            | zero => intro k B hm; exact absurd hm (Nat.not_lt_zero _)
            | succ n_71 ih_71 =>
              intro k B hm_71 hk hB H locs ls hP hD hS hl
              refine lv_iload hF.1 hF.2.1 dX8_unmount_71 (lv_at hl 0 rfl) ?_
              refine lv_aload_n hF.1 hF.2.1 dX8_unmount_73 rfl (lv_at hl 4 rfl) ?_
              refine kGet (C := RX8) (T := TX8) (N := 29) (index := 41) hF hK hP (inT inBX8) 0 rfl rfl 11 (by decide) rfl (List.mem_cons_of_mem _ mF_X8_41) rfl dX8_unmount_74 ?_
              refine kGeN (tgt := 122) hF dX8_unmount_77 (by decide) (by omega) (by omega) (fun c_17 => ?_) (fun c_17 => ?_)
              · have hBv := hB
                rw [show k = vn by omega] at hBv
                refine lv_iload_n hF.1 hF.2.1 dX8_unmount_122 rfl (lv_at hl 1 rfl) ?_
                refine kIfEqZ (tgt := 129) hF dX8_unmount_123 (by decide) (fun c_18 => ?_) (fun c_18 => ?_)
                · refine lv_aload_n hF.1 hF.2.1 dX8_unmount_129 rfl (lv_at hl 4 rfl) ?_
                  refine kGet (C := RX8) (T := TX8) (N := 29) (index := 48) hF hK hP (inT inBX8) 0 rfl rfl 13 (by decide) rfl (List.mem_cons_of_mem _ mF_X8_48) rfl dX8_unmount_130 ?_
                  refine lv_iload_n hF.1 hF.2.1 dX8_unmount_133 rfl (lv_at hl 2 rfl) ?_
                  refine lv_iconst (v := (-1)) hF.1 hF.2.1 dX8_unmount_134 (by decide) ?_
                  refine kIastN hF hK hP hD hS 11 rfl (by omega) (by decide) dX8_unmount_135 (fun H locs hP hD hS => ?_)
                  have hP : PG G [oC x 8 [.ref ak, .ref am, .ref ao, .ref av, .ref ap, .ref ax, .ref ay, .int (nI ec), .ref ad, .ref an, .ref ab, .int (nI vn), .ref ar, .ref ac, .int us, .int ro, .int pr, .ref at_, .int (nI tn), .ref as_, .int (nI sn), .ref aq, .int (nI s2_3), .int a1_5, .int (nI h2_6), .long z2_7, .int (nI n2_8), .int (zI l2_9), .int (zI e2_10)], aI G ak 40 kF, aI G am 40 mF, aI G ao 40 oF, aI G ap 40 pF, aI G ax 1600 xF, aI G ay 40 (fun lv => nI (LN lv)), aI G ad 80 dF, aJ G an 80 nF, aI G ab 80 bF, aI G ar 4 rF, aI G ac 4 (upd cF (mwR rF cF r0_2 vn) (-1)), aI G av 40 vF, aI G at_ 40 tF, aI G aq 100 q2_4] H := hP
                  have hD : va_D A [oC x 8 [.ref ak, .ref am, .ref ao, .ref av, .ref ap, .ref ax, .ref ay, .int (nI ec), .ref ad, .ref an, .ref ab, .int (nI vn), .ref ar, .ref ac, .int us, .int ro, .int pr, .ref at_, .int (nI tn), .ref as_, .int (nI sn), .ref aq, .int (nI s2_3), .int a1_5, .int (nI h2_6), .long z2_7, .int (nI n2_8), .int (zI l2_9), .int (zI e2_10)], aI G ak 40 kF, aI G am 40 mF, aI G ao 40 oF, aI G ap 40 pF, aI G ax 1600 xF, aI G ay 40 (fun lv => nI (LN lv)), aI G ad 80 dF, aJ G an 80 nF, aI G ab 80 bF, aI G ar 4 rF, aI G ac 4 (upd cF (mwR rF cF r0_2 vn) (-1)), aI G av 40 vF, aI G at_ 40 tF, aI G aq 100 q2_4] := hD
                  refine lv_iload_n hF.1 hF.2.1 dX8_unmount_136 rfl (lv_at hl 2 rfl) ?_
                  refine kRetI (v := (nI (mwR rF cF r0_2 vn))) hF hr hlk hK hP hD hS hQ rfl ((nI (mwR rF cF r0_2 vn)), upd cF (mwR rF cF r0_2 vn) (-1), s2_3, q2_4, a1_5, h2_6, z2_7, n2_8, l2_9, e2_10) [0, 1, 2, 3, 4, 5, 6, 7, 8, 9, 10, 11, 12, 13, 14] (by decide) rfl (Nat.le_of_ble_eq_true rfl) (Nat.le_of_ble_eq_true rfl) dX8_unmount_137 ?_
                  refine ⟨rfl, ?_⟩
                  rw [← hT.1, umR, if_pos (by assumption)]
                  rw [if_neg hnn]
                  rw [if_neg (by omega)]
                  rw [pI_f (fun h => c_18 (hBv.mpr h))]
                · refine lv_bipush (v := (-7)) hF.1 hF.2.1 dX8_unmount_126 (by decide) ?_
                  refine kRetI (v := (-7)) hF hr hlk hK hP hD hS hQ rfl ((-7), cF, s2_3, q2_4, a1_5, h2_6, z2_7, n2_8, l2_9, e2_10) [0, 1, 2, 3, 4, 5, 6, 7, 8, 9, 10, 11, 12, 13, 14] (by decide) rfl (Nat.le_of_ble_eq_true rfl) (Nat.le_of_ble_eq_true rfl) dX8_unmount_128 ?_
                  refine ⟨rfl, ?_⟩
                  rw [← hT.1, umR, if_pos (by assumption)]
                  rw [if_neg hnn]
                  rw [if_neg (by omega)]
                  rw [pI_t (hBv.mp c_18)]
              · refine lv_iload_n hF.1 hF.2.1 dX8_unmount_80 rfl (lv_at hl 1 rfl) ?_
                refine kIfNeZ (tgt := 110) hF dX8_unmount_81 (by decide) (fun c_19 => ?_) (fun c_19 => ?_)
                · refine lv_iconst (v := (nI 1)) hF.1 hF.2.1 dX8_unmount_110 (by decide) ?_
                  refine lv_goto (tgt := 115) hF.1 hF.2.1 dX8_unmount_111 (by decide) ?_
                  refine kTop (y := zI (B ∨ (¬ cF k < 0 ∧ vF (ix (cF k)) = nI (mwR rF cF r0_2 vn)))) (first_z (by first | exact Or.inl ⟨rfl, Or.inl (by assumption)⟩ | exact Or.inl ⟨rfl, Or.inr (by first | assumption | exact ⟨by assumption, by assumption⟩)⟩ | exact Or.inr ⟨rfl, fun h => by rcases h with h | h <;> first | contradiction | exact absurd h.2 (by assumption) | exact absurd (by assumption) h.1⟩)) ?_
                  refine lv_istore_n (lv' := [(3, .int (zI (B ∨ (¬ cF k < 0 ∧ vF (ix (cF k)) = nI (mwR rF cF r0_2 vn))))), (4, .int (nI k)), (2, .int (nI (mwR rF cF r0_2 vn))), (1, .int r0_2), (0, .ref x)]) hF.1 hF.2.1 dX8_unmount_115 rfl hl (by decide) rfl (fun ls hl => ?_)
                  refine lv_iinc (v := (nI (k + 1))) (lv' := [(4, .int (nI (k + 1))), (3, .int (zI (B ∨ (¬ cF k < 0 ∧ vF (ix (cF k)) = nI (mwR rF cF r0_2 vn))))), (2, .int (nI (mwR rF cF r0_2 vn))), (1, .int r0_2), (0, .ref x)]) hF.1 hF.2.1 dX8_unmount_116 hl (k := 1) rfl (nI_inc1 _) (by decide) rfl (fun ls hl => ?_)
                  refine lv_goto (tgt := 71) hF.1 hF.2.1 dX8_unmount_119 (by decide) ?_
                  exact ih_71 (k + 1) (B ∨ (¬ cF k < 0 ∧ vF (ix (cF k)) = nI (mwR rF cF r0_2 vn))) (by omega) (by omega) (bsR_s (by omega) hB) H locs ls hP hD hS (lv_sub hl [0, 1, 2, 3, 4] rfl)
                · refine lv_aload_n hF.1 hF.2.1 dX8_unmount_84 rfl (lv_at hl 4 rfl) ?_
                  refine kGet (C := RX8) (T := TX8) (N := 29) (index := 48) hF hK hP (inT inBX8) 0 rfl rfl 13 (by decide) rfl (List.mem_cons_of_mem _ mF_X8_48) rfl dX8_unmount_85 ?_
                  refine lv_iload hF.1 hF.2.1 dX8_unmount_88 (lv_at hl 0 rfl) ?_
                  refine kIaldN hF hK hP 11 rfl (by omega) (by decide) dX8_unmount_90 ?_
                  refine lv_if_lt (tgt := 114) hF.1 hF.2.1 dX8_unmount_91 (by decide) (fun c_20 => ?_) (fun c_20 => ?_)
                  · refine lv_iconst (v := (nI 0)) hF.1 hF.2.1 dX8_unmount_114 (by decide) ?_
                    refine kTop (y := zI (B ∨ (¬ cF k < 0 ∧ vF (ix (cF k)) = nI (mwR rF cF r0_2 vn)))) (first_z (by first | exact Or.inl ⟨rfl, Or.inl (by assumption)⟩ | exact Or.inl ⟨rfl, Or.inr (by first | assumption | exact ⟨by assumption, by assumption⟩)⟩ | exact Or.inr ⟨rfl, fun h => by rcases h with h | h <;> first | contradiction | exact absurd h.2 (by assumption) | exact absurd (by assumption) h.1⟩)) ?_
                    refine lv_istore_n (lv' := [(3, .int (zI (B ∨ (¬ cF k < 0 ∧ vF (ix (cF k)) = nI (mwR rF cF r0_2 vn))))), (4, .int (nI k)), (2, .int (nI (mwR rF cF r0_2 vn))), (1, .int r0_2), (0, .ref x)]) hF.1 hF.2.1 dX8_unmount_115 rfl hl (by decide) rfl (fun ls hl => ?_)
                    refine lv_iinc (v := (nI (k + 1))) (lv' := [(4, .int (nI (k + 1))), (3, .int (zI (B ∨ (¬ cF k < 0 ∧ vF (ix (cF k)) = nI (mwR rF cF r0_2 vn))))), (2, .int (nI (mwR rF cF r0_2 vn))), (1, .int r0_2), (0, .ref x)]) hF.1 hF.2.1 dX8_unmount_116 hl (k := 1) rfl (nI_inc1 _) (by decide) rfl (fun ls hl => ?_)
                    refine lv_goto (tgt := 71) hF.1 hF.2.1 dX8_unmount_119 (by decide) ?_
                    exact ih_71 (k + 1) (B ∨ (¬ cF k < 0 ∧ vF (ix (cF k)) = nI (mwR rF cF r0_2 vn))) (by omega) (by omega) (bsR_s (by omega) hB) H locs ls hP hD hS (lv_sub hl [0, 1, 2, 3, 4] rfl)
                  · refine lv_aload_n hF.1 hF.2.1 dX8_unmount_94 rfl (lv_at hl 4 rfl) ?_
                    refine kGet (C := RX8) (T := TX8) (N := 29) (index := 19) hF hK hP (inT inBX8) 0 rfl rfl 3 (by decide) rfl (List.mem_cons_of_mem _ mF_X8_19) rfl dX8_unmount_95 ?_
                    refine lv_aload_n hF.1 hF.2.1 dX8_unmount_98 rfl (lv_at hl 4 rfl) ?_
                    refine kGet (C := RX8) (T := TX8) (N := 29) (index := 48) hF hK hP (inT inBX8) 0 rfl rfl 13 (by decide) rfl (List.mem_cons_of_mem _ mF_X8_48) rfl dX8_unmount_99 ?_
                    refine lv_iload hF.1 hF.2.1 dX8_unmount_102 (lv_at hl 0 rfl) ?_
                    refine kIaldN hF hK hP 11 rfl (by omega) (by decide) dX8_unmount_104 ?_
                    refine kIald hF hK hP 12 rfl (cr_in hcr (by omega) (by assumption)) dX8_unmount_105 ?_
                    refine lv_iload_n hF.1 hF.2.1 dX8_unmount_106 rfl (lv_at hl 2 rfl) ?_
                    refine lv_icmp_ne (tgt := 114) hF.1 hF.2.1 dX8_unmount_107 (by decide) (fun c_21 => ?_) (fun c_21 => ?_)
                    · refine lv_iconst (v := (nI 0)) hF.1 hF.2.1 dX8_unmount_114 (by decide) ?_
                      refine kTop (y := zI (B ∨ (¬ cF k < 0 ∧ vF (ix (cF k)) = nI (mwR rF cF r0_2 vn)))) (first_z (by first | exact Or.inl ⟨rfl, Or.inl (by assumption)⟩ | exact Or.inl ⟨rfl, Or.inr (by first | assumption | exact ⟨by assumption, by assumption⟩)⟩ | exact Or.inr ⟨rfl, fun h => by rcases h with h | h <;> first | contradiction | exact absurd h.2 (by assumption) | exact absurd (by assumption) h.1⟩)) ?_
                      refine lv_istore_n (lv' := [(3, .int (zI (B ∨ (¬ cF k < 0 ∧ vF (ix (cF k)) = nI (mwR rF cF r0_2 vn))))), (4, .int (nI k)), (2, .int (nI (mwR rF cF r0_2 vn))), (1, .int r0_2), (0, .ref x)]) hF.1 hF.2.1 dX8_unmount_115 rfl hl (by decide) rfl (fun ls hl => ?_)
                      refine lv_iinc (v := (nI (k + 1))) (lv' := [(4, .int (nI (k + 1))), (3, .int (zI (B ∨ (¬ cF k < 0 ∧ vF (ix (cF k)) = nI (mwR rF cF r0_2 vn))))), (2, .int (nI (mwR rF cF r0_2 vn))), (1, .int r0_2), (0, .ref x)]) hF.1 hF.2.1 dX8_unmount_116 hl (k := 1) rfl (nI_inc1 _) (by decide) rfl (fun ls hl => ?_)
                      refine lv_goto (tgt := 71) hF.1 hF.2.1 dX8_unmount_119 (by decide) ?_
                      exact ih_71 (k + 1) (B ∨ (¬ cF k < 0 ∧ vF (ix (cF k)) = nI (mwR rF cF r0_2 vn))) (by omega) (by omega) (bsR_s (by omega) hB) H locs ls hP hD hS (lv_sub hl [0, 1, 2, 3, 4] rfl)
                    · refine lv_iconst (v := (nI 1)) hF.1 hF.2.1 dX8_unmount_110 (by decide) ?_
                      refine lv_goto (tgt := 115) hF.1 hF.2.1 dX8_unmount_111 (by decide) ?_
                      refine kTop (y := zI (B ∨ (¬ cF k < 0 ∧ vF (ix (cF k)) = nI (mwR rF cF r0_2 vn)))) (first_z (by first | exact Or.inl ⟨rfl, Or.inl (by assumption)⟩ | exact Or.inl ⟨rfl, Or.inr (by first | assumption | exact ⟨by assumption, by assumption⟩)⟩ | exact Or.inr ⟨rfl, fun h => by rcases h with h | h <;> first | contradiction | exact absurd h.2 (by assumption) | exact absurd (by assumption) h.1⟩)) ?_
                      refine lv_istore_n (lv' := [(3, .int (zI (B ∨ (¬ cF k < 0 ∧ vF (ix (cF k)) = nI (mwR rF cF r0_2 vn))))), (4, .int (nI k)), (2, .int (nI (mwR rF cF r0_2 vn))), (1, .int r0_2), (0, .ref x)]) hF.1 hF.2.1 dX8_unmount_115 rfl hl (by decide) rfl (fun ls hl => ?_)
                      refine lv_iinc (v := (nI (k + 1))) (lv' := [(4, .int (nI (k + 1))), (3, .int (zI (B ∨ (¬ cF k < 0 ∧ vF (ix (cF k)) = nI (mwR rF cF r0_2 vn))))), (2, .int (nI (mwR rF cF r0_2 vn))), (1, .int r0_2), (0, .ref x)]) hF.1 hF.2.1 dX8_unmount_116 hl (k := 1) rfl (nI_inc1 _) (by decide) rfl (fun ls hl => ?_)
                      refine lv_goto (tgt := 71) hF.1 hF.2.1 dX8_unmount_119 (by decide) ?_
                      exact ih_71 (k + 1) (B ∨ (¬ cF k < 0 ∧ vF (ix (cF k)) = nI (mwR rF cF r0_2 vn))) (by omega) (by omega) (bsR_s (by omega) hB) H locs ls hP hD hS (lv_sub hl [0, 1, 2, 3, 4] rfl)
          exact loop_71 _ 1 (vF (ix ro) = nI (mwR rF cF r0_2 vn) ∨ vF (ix pr) = nI (mwR rF cF r0_2 vn)) (Nat.lt_succ_self _) (by omega) (bsR_1) _ _ _ hP hD hS (lv_sub hl [0, 1, 2, 3, 4] rfl)
        · refine lv_aload_n hF.1 hF.2.1 dX8_unmount_49 rfl (lv_at hl 2 rfl) ?_
          refine kGet (C := RX8) (T := TX8) (N := 29) (index := 19) hF hK hP (inT inBX8) 0 rfl rfl 3 (by decide) rfl (List.mem_cons_of_mem _ mF_X8_19) rfl dX8_unmount_50 ?_
          refine lv_aload_n hF.1 hF.2.1 dX8_unmount_53 rfl (lv_at hl 2 rfl) ?_
          refine kGet (C := RX8) (T := TX8) (N := 29) (index := 111) hF hK hP (inT inBX8) 0 rfl rfl 16 (by decide) rfl (List.mem_cons_of_mem _ mF_X8_111) rfl dX8_unmount_54 ?_
          refine kIald hF hK hP 12 rfl (by assumption) dX8_unmount_57 ?_
          refine lv_iload_n hF.1 hF.2.1 dX8_unmount_58 rfl (lv_at hl 0 rfl) ?_
          refine lv_icmp_ne (tgt := 66) hF.1 hF.2.1 dX8_unmount_59 (by decide) (fun c_22 => ?_) (fun c_22 => ?_)
          · refine lv_iconst (v := (nI 0)) hF.1 hF.2.1 dX8_unmount_66 (by decide) ?_
            refine kTop (y := zI (vF (ix ro) = nI (mwR rF cF r0_2 vn) ∨ vF (ix pr) = nI (mwR rF cF r0_2 vn))) (first_z (by first | exact Or.inl ⟨rfl, Or.inl (by assumption)⟩ | exact Or.inl ⟨rfl, Or.inr (by first | assumption | exact ⟨by assumption, by assumption⟩)⟩ | exact Or.inr ⟨rfl, fun h => by rcases h with h | h <;> first | contradiction | exact absurd h.2 (by assumption) | exact absurd (by assumption) h.1⟩)) ?_
            refine lv_istore_n (lv' := [(3, .int (zI (vF (ix ro) = nI (mwR rF cF r0_2 vn) ∨ vF (ix pr) = nI (mwR rF cF r0_2 vn)))), (2, .int (nI (mwR rF cF r0_2 vn))), (1, .int r0_2), (0, .ref x)]) hF.1 hF.2.1 dX8_unmount_67 rfl hl (by decide) rfl (fun ls hl => ?_)
            refine lv_iconst (v := (nI 1)) hF.1 hF.2.1 dX8_unmount_68 (by decide) ?_
            refine lv_istore (lv' := [(4, .int (nI 1)), (3, .int (zI (vF (ix ro) = nI (mwR rF cF r0_2 vn) ∨ vF (ix pr) = nI (mwR rF cF r0_2 vn)))), (2, .int (nI (mwR rF cF r0_2 vn))), (1, .int r0_2), (0, .ref x)]) hF.1 hF.2.1 dX8_unmount_69 hl (by decide) rfl (fun ls hl => ?_)
            have loop_71 : ∀ (n_71 : Nat) (k : Nat) (B : Prop), vn - k < n_71 → (1 ≤ k ∧ k ≤ vn) → (B ↔ bsR cF vF (nI (mwR rF cF r0_2 vn)) (vF (ix ro) = nI (mwR rF cF r0_2 vn) ∨ vF (ix pr) = nI (mwR rF cF r0_2 vn)) k) → ∀ (H : Heap) (locs : List Loc) (ls : Array Slot), PG G [oC x 8 [.ref ak, .ref am, .ref ao, .ref av, .ref ap, .ref ax, .ref ay, .int (nI ec), .ref ad, .ref an, .ref ab, .int (nI vn), .ref ar, .ref ac, .int us, .int ro, .int pr, .ref at_, .int (nI tn), .ref as_, .int (nI sn), .ref aq, .int (nI s2_3), .int a1_5, .int (nI h2_6), .long z2_7, .int (nI n2_8), .int (zI l2_9), .int (zI e2_10)], aI G ak 40 kF, aI G am 40 mF, aI G ao 40 oF, aI G ap 40 pF, aI G ax 1600 xF, aI G ay 40 (fun lv => nI (LN lv)), aI G ad 80 dF, aJ G an 80 nF, aI G ab 80 bF, aI G ar 4 rF, aI G ac 4 cF, aI G av 40 vF, aI G at_ 40 tF, aI G aq 100 q2_4] H → va_D A [oC x 8 [.ref ak, .ref am, .ref ao, .ref av, .ref ap, .ref ax, .ref ay, .int (nI ec), .ref ad, .ref an, .ref ab, .int (nI vn), .ref ar, .ref ac, .int us, .int ro, .int pr, .ref at_, .int (nI tn), .ref as_, .int (nI sn), .ref aq, .int (nI s2_3), .int a1_5, .int (nI h2_6), .long z2_7, .int (nI n2_8), .int (zI l2_9), .int (zI e2_10)], aI G ak 40 kF, aI G am 40 mF, aI G ao 40 oF, aI G ap 40 pF, aI G ax 1600 xF, aI G ay 40 (fun lv => nI (LN lv)), aI G ad 80 dF, aJ G an 80 nF, aI G ab 80 bF, aI G ar 4 rF, aI G ac 4 cF, aI G av 40 vF, aI G at_ 40 tF, aI G aq 100 q2_4] → va_S A s.heap H locs → lv_has ls 5 [(4, .int (nI k)), (3, .int (zI B)), (2, .int (nI (mwR rF cF r0_2 vn))), (1, .int r0_2), (0, .ref x)] → W p l e (Rm 5 0 0 114) s m args below meth c H locs 0 0 Q (F0 m 71 ls []) := by
              intro n_71
              induction n_71 with
              | zero => intro k B hm; exact absurd hm (Nat.not_lt_zero _)
              | succ n_71 ih_71 =>
                intro k B hm_71 hk hB H locs ls hP hD hS hl
                refine lv_iload hF.1 hF.2.1 dX8_unmount_71 (lv_at hl 0 rfl) ?_
                refine lv_aload_n hF.1 hF.2.1 dX8_unmount_73 rfl (lv_at hl 4 rfl) ?_
                refine kGet (C := RX8) (T := TX8) (N := 29) (index := 41) hF hK hP (inT inBX8) 0 rfl rfl 11 (by decide) rfl (List.mem_cons_of_mem _ mF_X8_41) rfl dX8_unmount_74 ?_
                refine kGeN (tgt := 122) hF dX8_unmount_77 (by decide) (by omega) (by omega) (fun c_23 => ?_) (fun c_23 => ?_)
                · have hBv := hB
                  rw [show k = vn by omega] at hBv
                  refine lv_iload_n hF.1 hF.2.1 dX8_unmount_122 rfl (lv_at hl 1 rfl) ?_
                  refine kIfEqZ (tgt := 129) hF dX8_unmount_123 (by decide) (fun c_24 => ?_) (fun c_24 => ?_)
                  · refine lv_aload_n hF.1 hF.2.1 dX8_unmount_129 rfl (lv_at hl 4 rfl) ?_
                    refine kGet (C := RX8) (T := TX8) (N := 29) (index := 48) hF hK hP (inT inBX8) 0 rfl rfl 13 (by decide) rfl (List.mem_cons_of_mem _ mF_X8_48) rfl dX8_unmount_130 ?_
                    refine lv_iload_n hF.1 hF.2.1 dX8_unmount_133 rfl (lv_at hl 2 rfl) ?_
                    refine lv_iconst (v := (-1)) hF.1 hF.2.1 dX8_unmount_134 (by decide) ?_
                    refine kIastN hF hK hP hD hS 11 rfl (by omega) (by decide) dX8_unmount_135 (fun H locs hP hD hS => ?_)
                    have hP : PG G [oC x 8 [.ref ak, .ref am, .ref ao, .ref av, .ref ap, .ref ax, .ref ay, .int (nI ec), .ref ad, .ref an, .ref ab, .int (nI vn), .ref ar, .ref ac, .int us, .int ro, .int pr, .ref at_, .int (nI tn), .ref as_, .int (nI sn), .ref aq, .int (nI s2_3), .int a1_5, .int (nI h2_6), .long z2_7, .int (nI n2_8), .int (zI l2_9), .int (zI e2_10)], aI G ak 40 kF, aI G am 40 mF, aI G ao 40 oF, aI G ap 40 pF, aI G ax 1600 xF, aI G ay 40 (fun lv => nI (LN lv)), aI G ad 80 dF, aJ G an 80 nF, aI G ab 80 bF, aI G ar 4 rF, aI G ac 4 (upd cF (mwR rF cF r0_2 vn) (-1)), aI G av 40 vF, aI G at_ 40 tF, aI G aq 100 q2_4] H := hP
                    have hD : va_D A [oC x 8 [.ref ak, .ref am, .ref ao, .ref av, .ref ap, .ref ax, .ref ay, .int (nI ec), .ref ad, .ref an, .ref ab, .int (nI vn), .ref ar, .ref ac, .int us, .int ro, .int pr, .ref at_, .int (nI tn), .ref as_, .int (nI sn), .ref aq, .int (nI s2_3), .int a1_5, .int (nI h2_6), .long z2_7, .int (nI n2_8), .int (zI l2_9), .int (zI e2_10)], aI G ak 40 kF, aI G am 40 mF, aI G ao 40 oF, aI G ap 40 pF, aI G ax 1600 xF, aI G ay 40 (fun lv => nI (LN lv)), aI G ad 80 dF, aJ G an 80 nF, aI G ab 80 bF, aI G ar 4 rF, aI G ac 4 (upd cF (mwR rF cF r0_2 vn) (-1)), aI G av 40 vF, aI G at_ 40 tF, aI G aq 100 q2_4] := hD
                    refine lv_iload_n hF.1 hF.2.1 dX8_unmount_136 rfl (lv_at hl 2 rfl) ?_
                    refine kRetI (v := (nI (mwR rF cF r0_2 vn))) hF hr hlk hK hP hD hS hQ rfl ((nI (mwR rF cF r0_2 vn)), upd cF (mwR rF cF r0_2 vn) (-1), s2_3, q2_4, a1_5, h2_6, z2_7, n2_8, l2_9, e2_10) [0, 1, 2, 3, 4, 5, 6, 7, 8, 9, 10, 11, 12, 13, 14] (by decide) rfl (Nat.le_of_ble_eq_true rfl) (Nat.le_of_ble_eq_true rfl) dX8_unmount_137 ?_
                    refine ⟨rfl, ?_⟩
                    rw [← hT.1, umR, if_pos (by assumption)]
                    rw [if_neg hnn]
                    rw [if_neg (by omega)]
                    rw [pI_f (fun h => c_24 (hBv.mpr h))]
                  · refine lv_bipush (v := (-7)) hF.1 hF.2.1 dX8_unmount_126 (by decide) ?_
                    refine kRetI (v := (-7)) hF hr hlk hK hP hD hS hQ rfl ((-7), cF, s2_3, q2_4, a1_5, h2_6, z2_7, n2_8, l2_9, e2_10) [0, 1, 2, 3, 4, 5, 6, 7, 8, 9, 10, 11, 12, 13, 14] (by decide) rfl (Nat.le_of_ble_eq_true rfl) (Nat.le_of_ble_eq_true rfl) dX8_unmount_128 ?_
                    refine ⟨rfl, ?_⟩
                    rw [← hT.1, umR, if_pos (by assumption)]
                    rw [if_neg hnn]
                    rw [if_neg (by omega)]
                    rw [pI_t (hBv.mp c_24)]
                · refine lv_iload_n hF.1 hF.2.1 dX8_unmount_80 rfl (lv_at hl 1 rfl) ?_
                  refine kIfNeZ (tgt := 110) hF dX8_unmount_81 (by decide) (fun c_25 => ?_) (fun c_25 => ?_)
                  · refine lv_iconst (v := (nI 1)) hF.1 hF.2.1 dX8_unmount_110 (by decide) ?_
                    refine lv_goto (tgt := 115) hF.1 hF.2.1 dX8_unmount_111 (by decide) ?_
                    refine kTop (y := zI (B ∨ (¬ cF k < 0 ∧ vF (ix (cF k)) = nI (mwR rF cF r0_2 vn)))) (first_z (by first | exact Or.inl ⟨rfl, Or.inl (by assumption)⟩ | exact Or.inl ⟨rfl, Or.inr (by first | assumption | exact ⟨by assumption, by assumption⟩)⟩ | exact Or.inr ⟨rfl, fun h => by rcases h with h | h <;> first | contradiction | exact absurd h.2 (by assumption) | exact absurd (by assumption) h.1⟩)) ?_
                    refine lv_istore_n (lv' := [(3, .int (zI (B ∨ (¬ cF k < 0 ∧ vF (ix (cF k)) = nI (mwR rF cF r0_2 vn))))), (4, .int (nI k)), (2, .int (nI (mwR rF cF r0_2 vn))), (1, .int r0_2), (0, .ref x)]) hF.1 hF.2.1 dX8_unmount_115 rfl hl (by decide) rfl (fun ls hl => ?_)
                    refine lv_iinc (v := (nI (k + 1))) (lv' := [(4, .int (nI (k + 1))), (3, .int (zI (B ∨ (¬ cF k < 0 ∧ vF (ix (cF k)) = nI (mwR rF cF r0_2 vn))))), (2, .int (nI (mwR rF cF r0_2 vn))), (1, .int r0_2), (0, .ref x)]) hF.1 hF.2.1 dX8_unmount_116 hl (k := 1) rfl (nI_inc1 _) (by decide) rfl (fun ls hl => ?_)
                    refine lv_goto (tgt := 71) hF.1 hF.2.1 dX8_unmount_119 (by decide) ?_
                    exact ih_71 (k + 1) (B ∨ (¬ cF k < 0 ∧ vF (ix (cF k)) = nI (mwR rF cF r0_2 vn))) (by omega) (by omega) (bsR_s (by omega) hB) H locs ls hP hD hS (lv_sub hl [0, 1, 2, 3, 4] rfl)
                  · refine lv_aload_n hF.1 hF.2.1 dX8_unmount_84 rfl (lv_at hl 4 rfl) ?_
                    refine kGet (C := RX8) (T := TX8) (N := 29) (index := 48) hF hK hP (inT inBX8) 0 rfl rfl 13 (by decide) rfl (List.mem_cons_of_mem _ mF_X8_48) rfl dX8_unmount_85 ?_
                    refine lv_iload hF.1 hF.2.1 dX8_unmount_88 (lv_at hl 0 rfl) ?_
                    refine kIaldN hF hK hP 11 rfl (by omega) (by decide) dX8_unmount_90 ?_
                    refine lv_if_lt (tgt := 114) hF.1 hF.2.1 dX8_unmount_91 (by decide) (fun c_26 => ?_) (fun c_26 => ?_)
                    · refine lv_iconst (v := (nI 0)) hF.1 hF.2.1 dX8_unmount_114 (by decide) ?_
                      refine kTop (y := zI (B ∨ (¬ cF k < 0 ∧ vF (ix (cF k)) = nI (mwR rF cF r0_2 vn)))) (first_z (by first | exact Or.inl ⟨rfl, Or.inl (by assumption)⟩ | exact Or.inl ⟨rfl, Or.inr (by first | assumption | exact ⟨by assumption, by assumption⟩)⟩ | exact Or.inr ⟨rfl, fun h => by rcases h with h | h <;> first | contradiction | exact absurd h.2 (by assumption) | exact absurd (by assumption) h.1⟩)) ?_
                      refine lv_istore_n (lv' := [(3, .int (zI (B ∨ (¬ cF k < 0 ∧ vF (ix (cF k)) = nI (mwR rF cF r0_2 vn))))), (4, .int (nI k)), (2, .int (nI (mwR rF cF r0_2 vn))), (1, .int r0_2), (0, .ref x)]) hF.1 hF.2.1 dX8_unmount_115 rfl hl (by decide) rfl (fun ls hl => ?_)
                      refine lv_iinc (v := (nI (k + 1))) (lv' := [(4, .int (nI (k + 1))), (3, .int (zI (B ∨ (¬ cF k < 0 ∧ vF (ix (cF k)) = nI (mwR rF cF r0_2 vn))))), (2, .int (nI (mwR rF cF r0_2 vn))), (1, .int r0_2), (0, .ref x)]) hF.1 hF.2.1 dX8_unmount_116 hl (k := 1) rfl (nI_inc1 _) (by decide) rfl (fun ls hl => ?_)
                      refine lv_goto (tgt := 71) hF.1 hF.2.1 dX8_unmount_119 (by decide) ?_
                      exact ih_71 (k + 1) (B ∨ (¬ cF k < 0 ∧ vF (ix (cF k)) = nI (mwR rF cF r0_2 vn))) (by omega) (by omega) (bsR_s (by omega) hB) H locs ls hP hD hS (lv_sub hl [0, 1, 2, 3, 4] rfl)
                    · refine lv_aload_n hF.1 hF.2.1 dX8_unmount_94 rfl (lv_at hl 4 rfl) ?_
                      refine kGet (C := RX8) (T := TX8) (N := 29) (index := 19) hF hK hP (inT inBX8) 0 rfl rfl 3 (by decide) rfl (List.mem_cons_of_mem _ mF_X8_19) rfl dX8_unmount_95 ?_
                      refine lv_aload_n hF.1 hF.2.1 dX8_unmount_98 rfl (lv_at hl 4 rfl) ?_
                      refine kGet (C := RX8) (T := TX8) (N := 29) (index := 48) hF hK hP (inT inBX8) 0 rfl rfl 13 (by decide) rfl (List.mem_cons_of_mem _ mF_X8_48) rfl dX8_unmount_99 ?_
                      refine lv_iload hF.1 hF.2.1 dX8_unmount_102 (lv_at hl 0 rfl) ?_
                      refine kIaldN hF hK hP 11 rfl (by omega) (by decide) dX8_unmount_104 ?_
                      refine kIald hF hK hP 12 rfl (cr_in hcr (by omega) (by assumption)) dX8_unmount_105 ?_
                      refine lv_iload_n hF.1 hF.2.1 dX8_unmount_106 rfl (lv_at hl 2 rfl) ?_
                      refine lv_icmp_ne (tgt := 114) hF.1 hF.2.1 dX8_unmount_107 (by decide) (fun c_27 => ?_) (fun c_27 => ?_)
                      · refine lv_iconst (v := (nI 0)) hF.1 hF.2.1 dX8_unmount_114 (by decide) ?_
                        refine kTop (y := zI (B ∨ (¬ cF k < 0 ∧ vF (ix (cF k)) = nI (mwR rF cF r0_2 vn)))) (first_z (by first | exact Or.inl ⟨rfl, Or.inl (by assumption)⟩ | exact Or.inl ⟨rfl, Or.inr (by first | assumption | exact ⟨by assumption, by assumption⟩)⟩ | exact Or.inr ⟨rfl, fun h => by rcases h with h | h <;> first | contradiction | exact absurd h.2 (by assumption) | exact absurd (by assumption) h.1⟩)) ?_
                        refine lv_istore_n (lv' := [(3, .int (zI (B ∨ (¬ cF k < 0 ∧ vF (ix (cF k)) = nI (mwR rF cF r0_2 vn))))), (4, .int (nI k)), (2, .int (nI (mwR rF cF r0_2 vn))), (1, .int r0_2), (0, .ref x)]) hF.1 hF.2.1 dX8_unmount_115 rfl hl (by decide) rfl (fun ls hl => ?_)
                        refine lv_iinc (v := (nI (k + 1))) (lv' := [(4, .int (nI (k + 1))), (3, .int (zI (B ∨ (¬ cF k < 0 ∧ vF (ix (cF k)) = nI (mwR rF cF r0_2 vn))))), (2, .int (nI (mwR rF cF r0_2 vn))), (1, .int r0_2), (0, .ref x)]) hF.1 hF.2.1 dX8_unmount_116 hl (k := 1) rfl (nI_inc1 _) (by decide) rfl (fun ls hl => ?_)
                        refine lv_goto (tgt := 71) hF.1 hF.2.1 dX8_unmount_119 (by decide) ?_
                        exact ih_71 (k + 1) (B ∨ (¬ cF k < 0 ∧ vF (ix (cF k)) = nI (mwR rF cF r0_2 vn))) (by omega) (by omega) (bsR_s (by omega) hB) H locs ls hP hD hS (lv_sub hl [0, 1, 2, 3, 4] rfl)
                      · refine lv_iconst (v := (nI 1)) hF.1 hF.2.1 dX8_unmount_110 (by decide) ?_
                        refine lv_goto (tgt := 115) hF.1 hF.2.1 dX8_unmount_111 (by decide) ?_
                        refine kTop (y := zI (B ∨ (¬ cF k < 0 ∧ vF (ix (cF k)) = nI (mwR rF cF r0_2 vn)))) (first_z (by first | exact Or.inl ⟨rfl, Or.inl (by assumption)⟩ | exact Or.inl ⟨rfl, Or.inr (by first | assumption | exact ⟨by assumption, by assumption⟩)⟩ | exact Or.inr ⟨rfl, fun h => by rcases h with h | h <;> first | contradiction | exact absurd h.2 (by assumption) | exact absurd (by assumption) h.1⟩)) ?_
                        refine lv_istore_n (lv' := [(3, .int (zI (B ∨ (¬ cF k < 0 ∧ vF (ix (cF k)) = nI (mwR rF cF r0_2 vn))))), (4, .int (nI k)), (2, .int (nI (mwR rF cF r0_2 vn))), (1, .int r0_2), (0, .ref x)]) hF.1 hF.2.1 dX8_unmount_115 rfl hl (by decide) rfl (fun ls hl => ?_)
                        refine lv_iinc (v := (nI (k + 1))) (lv' := [(4, .int (nI (k + 1))), (3, .int (zI (B ∨ (¬ cF k < 0 ∧ vF (ix (cF k)) = nI (mwR rF cF r0_2 vn))))), (2, .int (nI (mwR rF cF r0_2 vn))), (1, .int r0_2), (0, .ref x)]) hF.1 hF.2.1 dX8_unmount_116 hl (k := 1) rfl (nI_inc1 _) (by decide) rfl (fun ls hl => ?_)
                        refine lv_goto (tgt := 71) hF.1 hF.2.1 dX8_unmount_119 (by decide) ?_
                        exact ih_71 (k + 1) (B ∨ (¬ cF k < 0 ∧ vF (ix (cF k)) = nI (mwR rF cF r0_2 vn))) (by omega) (by omega) (bsR_s (by omega) hB) H locs ls hP hD hS (lv_sub hl [0, 1, 2, 3, 4] rfl)
            exact loop_71 _ 1 (vF (ix ro) = nI (mwR rF cF r0_2 vn) ∨ vF (ix pr) = nI (mwR rF cF r0_2 vn)) (Nat.lt_succ_self _) (by omega) (bsR_1) _ _ _ hP hD hS (lv_sub hl [0, 1, 2, 3, 4] rfl)
          · refine lv_iconst (v := (nI 1)) hF.1 hF.2.1 dX8_unmount_62 (by decide) ?_
            refine lv_goto (tgt := 67) hF.1 hF.2.1 dX8_unmount_63 (by decide) ?_
            refine kTop (y := zI (vF (ix ro) = nI (mwR rF cF r0_2 vn) ∨ vF (ix pr) = nI (mwR rF cF r0_2 vn))) (first_z (by first | exact Or.inl ⟨rfl, Or.inl (by assumption)⟩ | exact Or.inl ⟨rfl, Or.inr (by first | assumption | exact ⟨by assumption, by assumption⟩)⟩ | exact Or.inr ⟨rfl, fun h => by rcases h with h | h <;> first | contradiction | exact absurd h.2 (by assumption) | exact absurd (by assumption) h.1⟩)) ?_
            refine lv_istore_n (lv' := [(3, .int (zI (vF (ix ro) = nI (mwR rF cF r0_2 vn) ∨ vF (ix pr) = nI (mwR rF cF r0_2 vn)))), (2, .int (nI (mwR rF cF r0_2 vn))), (1, .int r0_2), (0, .ref x)]) hF.1 hF.2.1 dX8_unmount_67 rfl hl (by decide) rfl (fun ls hl => ?_)
            refine lv_iconst (v := (nI 1)) hF.1 hF.2.1 dX8_unmount_68 (by decide) ?_
            refine lv_istore (lv' := [(4, .int (nI 1)), (3, .int (zI (vF (ix ro) = nI (mwR rF cF r0_2 vn) ∨ vF (ix pr) = nI (mwR rF cF r0_2 vn)))), (2, .int (nI (mwR rF cF r0_2 vn))), (1, .int r0_2), (0, .ref x)]) hF.1 hF.2.1 dX8_unmount_69 hl (by decide) rfl (fun ls hl => ?_)
            have loop_71 : ∀ (n_71 : Nat) (k : Nat) (B : Prop), vn - k < n_71 → (1 ≤ k ∧ k ≤ vn) → (B ↔ bsR cF vF (nI (mwR rF cF r0_2 vn)) (vF (ix ro) = nI (mwR rF cF r0_2 vn) ∨ vF (ix pr) = nI (mwR rF cF r0_2 vn)) k) → ∀ (H : Heap) (locs : List Loc) (ls : Array Slot), PG G [oC x 8 [.ref ak, .ref am, .ref ao, .ref av, .ref ap, .ref ax, .ref ay, .int (nI ec), .ref ad, .ref an, .ref ab, .int (nI vn), .ref ar, .ref ac, .int us, .int ro, .int pr, .ref at_, .int (nI tn), .ref as_, .int (nI sn), .ref aq, .int (nI s2_3), .int a1_5, .int (nI h2_6), .long z2_7, .int (nI n2_8), .int (zI l2_9), .int (zI e2_10)], aI G ak 40 kF, aI G am 40 mF, aI G ao 40 oF, aI G ap 40 pF, aI G ax 1600 xF, aI G ay 40 (fun lv => nI (LN lv)), aI G ad 80 dF, aJ G an 80 nF, aI G ab 80 bF, aI G ar 4 rF, aI G ac 4 cF, aI G av 40 vF, aI G at_ 40 tF, aI G aq 100 q2_4] H → va_D A [oC x 8 [.ref ak, .ref am, .ref ao, .ref av, .ref ap, .ref ax, .ref ay, .int (nI ec), .ref ad, .ref an, .ref ab, .int (nI vn), .ref ar, .ref ac, .int us, .int ro, .int pr, .ref at_, .int (nI tn), .ref as_, .int (nI sn), .ref aq, .int (nI s2_3), .int a1_5, .int (nI h2_6), .long z2_7, .int (nI n2_8), .int (zI l2_9), .int (zI e2_10)], aI G ak 40 kF, aI G am 40 mF, aI G ao 40 oF, aI G ap 40 pF, aI G ax 1600 xF, aI G ay 40 (fun lv => nI (LN lv)), aI G ad 80 dF, aJ G an 80 nF, aI G ab 80 bF, aI G ar 4 rF, aI G ac 4 cF, aI G av 40 vF, aI G at_ 40 tF, aI G aq 100 q2_4] → va_S A s.heap H locs → lv_has ls 5 [(4, .int (nI k)), (3, .int (zI B)), (2, .int (nI (mwR rF cF r0_2 vn))), (1, .int r0_2), (0, .ref x)] → W p l e (Rm 5 0 0 114) s m args below meth c H locs 0 0 Q (F0 m 71 ls []) := by
              intro n_71
              induction n_71 with
              | zero => intro k B hm; exact absurd hm (Nat.not_lt_zero _)
              | succ n_71 ih_71 =>
                intro k B hm_71 hk hB H locs ls hP hD hS hl
                refine lv_iload hF.1 hF.2.1 dX8_unmount_71 (lv_at hl 0 rfl) ?_
                refine lv_aload_n hF.1 hF.2.1 dX8_unmount_73 rfl (lv_at hl 4 rfl) ?_
                refine kGet (C := RX8) (T := TX8) (N := 29) (index := 41) hF hK hP (inT inBX8) 0 rfl rfl 11 (by decide) rfl (List.mem_cons_of_mem _ mF_X8_41) rfl dX8_unmount_74 ?_
                refine kGeN (tgt := 122) hF dX8_unmount_77 (by decide) (by omega) (by omega) (fun c_28 => ?_) (fun c_28 => ?_)
                · have hBv := hB
                  rw [show k = vn by omega] at hBv
                  refine lv_iload_n hF.1 hF.2.1 dX8_unmount_122 rfl (lv_at hl 1 rfl) ?_
                  refine kIfEqZ (tgt := 129) hF dX8_unmount_123 (by decide) (fun c_29 => ?_) (fun c_29 => ?_)
                  · refine lv_aload_n hF.1 hF.2.1 dX8_unmount_129 rfl (lv_at hl 4 rfl) ?_
                    refine kGet (C := RX8) (T := TX8) (N := 29) (index := 48) hF hK hP (inT inBX8) 0 rfl rfl 13 (by decide) rfl (List.mem_cons_of_mem _ mF_X8_48) rfl dX8_unmount_130 ?_
                    refine lv_iload_n hF.1 hF.2.1 dX8_unmount_133 rfl (lv_at hl 2 rfl) ?_
                    refine lv_iconst (v := (-1)) hF.1 hF.2.1 dX8_unmount_134 (by decide) ?_
                    refine kIastN hF hK hP hD hS 11 rfl (by omega) (by decide) dX8_unmount_135 (fun H locs hP hD hS => ?_)
                    have hP : PG G [oC x 8 [.ref ak, .ref am, .ref ao, .ref av, .ref ap, .ref ax, .ref ay, .int (nI ec), .ref ad, .ref an, .ref ab, .int (nI vn), .ref ar, .ref ac, .int us, .int ro, .int pr, .ref at_, .int (nI tn), .ref as_, .int (nI sn), .ref aq, .int (nI s2_3), .int a1_5, .int (nI h2_6), .long z2_7, .int (nI n2_8), .int (zI l2_9), .int (zI e2_10)], aI G ak 40 kF, aI G am 40 mF, aI G ao 40 oF, aI G ap 40 pF, aI G ax 1600 xF, aI G ay 40 (fun lv => nI (LN lv)), aI G ad 80 dF, aJ G an 80 nF, aI G ab 80 bF, aI G ar 4 rF, aI G ac 4 (upd cF (mwR rF cF r0_2 vn) (-1)), aI G av 40 vF, aI G at_ 40 tF, aI G aq 100 q2_4] H := hP
                    have hD : va_D A [oC x 8 [.ref ak, .ref am, .ref ao, .ref av, .ref ap, .ref ax, .ref ay, .int (nI ec), .ref ad, .ref an, .ref ab, .int (nI vn), .ref ar, .ref ac, .int us, .int ro, .int pr, .ref at_, .int (nI tn), .ref as_, .int (nI sn), .ref aq, .int (nI s2_3), .int a1_5, .int (nI h2_6), .long z2_7, .int (nI n2_8), .int (zI l2_9), .int (zI e2_10)], aI G ak 40 kF, aI G am 40 mF, aI G ao 40 oF, aI G ap 40 pF, aI G ax 1600 xF, aI G ay 40 (fun lv => nI (LN lv)), aI G ad 80 dF, aJ G an 80 nF, aI G ab 80 bF, aI G ar 4 rF, aI G ac 4 (upd cF (mwR rF cF r0_2 vn) (-1)), aI G av 40 vF, aI G at_ 40 tF, aI G aq 100 q2_4] := hD
                    refine lv_iload_n hF.1 hF.2.1 dX8_unmount_136 rfl (lv_at hl 2 rfl) ?_
                    refine kRetI (v := (nI (mwR rF cF r0_2 vn))) hF hr hlk hK hP hD hS hQ rfl ((nI (mwR rF cF r0_2 vn)), upd cF (mwR rF cF r0_2 vn) (-1), s2_3, q2_4, a1_5, h2_6, z2_7, n2_8, l2_9, e2_10) [0, 1, 2, 3, 4, 5, 6, 7, 8, 9, 10, 11, 12, 13, 14] (by decide) rfl (Nat.le_of_ble_eq_true rfl) (Nat.le_of_ble_eq_true rfl) dX8_unmount_137 ?_
                    refine ⟨rfl, ?_⟩
                    rw [← hT.1, umR, if_pos (by assumption)]
                    rw [if_neg hnn]
                    rw [if_neg (by omega)]
                    rw [pI_f (fun h => c_29 (hBv.mpr h))]
                  · refine lv_bipush (v := (-7)) hF.1 hF.2.1 dX8_unmount_126 (by decide) ?_
                    refine kRetI (v := (-7)) hF hr hlk hK hP hD hS hQ rfl ((-7), cF, s2_3, q2_4, a1_5, h2_6, z2_7, n2_8, l2_9, e2_10) [0, 1, 2, 3, 4, 5, 6, 7, 8, 9, 10, 11, 12, 13, 14] (by decide) rfl (Nat.le_of_ble_eq_true rfl) (Nat.le_of_ble_eq_true rfl) dX8_unmount_128 ?_
                    refine ⟨rfl, ?_⟩
                    rw [← hT.1, umR, if_pos (by assumption)]
                    rw [if_neg hnn]
                    rw [if_neg (by omega)]
                    rw [pI_t (hBv.mp c_29)]
                · refine lv_iload_n hF.1 hF.2.1 dX8_unmount_80 rfl (lv_at hl 1 rfl) ?_
                  refine kIfNeZ (tgt := 110) hF dX8_unmount_81 (by decide) (fun c_30 => ?_) (fun c_30 => ?_)
                  · refine lv_iconst (v := (nI 1)) hF.1 hF.2.1 dX8_unmount_110 (by decide) ?_
                    refine lv_goto (tgt := 115) hF.1 hF.2.1 dX8_unmount_111 (by decide) ?_
                    refine kTop (y := zI (B ∨ (¬ cF k < 0 ∧ vF (ix (cF k)) = nI (mwR rF cF r0_2 vn)))) (first_z (by first | exact Or.inl ⟨rfl, Or.inl (by assumption)⟩ | exact Or.inl ⟨rfl, Or.inr (by first | assumption | exact ⟨by assumption, by assumption⟩)⟩ | exact Or.inr ⟨rfl, fun h => by rcases h with h | h <;> first | contradiction | exact absurd h.2 (by assumption) | exact absurd (by assumption) h.1⟩)) ?_
                    refine lv_istore_n (lv' := [(3, .int (zI (B ∨ (¬ cF k < 0 ∧ vF (ix (cF k)) = nI (mwR rF cF r0_2 vn))))), (4, .int (nI k)), (2, .int (nI (mwR rF cF r0_2 vn))), (1, .int r0_2), (0, .ref x)]) hF.1 hF.2.1 dX8_unmount_115 rfl hl (by decide) rfl (fun ls hl => ?_)
                    refine lv_iinc (v := (nI (k + 1))) (lv' := [(4, .int (nI (k + 1))), (3, .int (zI (B ∨ (¬ cF k < 0 ∧ vF (ix (cF k)) = nI (mwR rF cF r0_2 vn))))), (2, .int (nI (mwR rF cF r0_2 vn))), (1, .int r0_2), (0, .ref x)]) hF.1 hF.2.1 dX8_unmount_116 hl (k := 1) rfl (nI_inc1 _) (by decide) rfl (fun ls hl => ?_)
                    refine lv_goto (tgt := 71) hF.1 hF.2.1 dX8_unmount_119 (by decide) ?_
                    exact ih_71 (k + 1) (B ∨ (¬ cF k < 0 ∧ vF (ix (cF k)) = nI (mwR rF cF r0_2 vn))) (by omega) (by omega) (bsR_s (by omega) hB) H locs ls hP hD hS (lv_sub hl [0, 1, 2, 3, 4] rfl)
                  · refine lv_aload_n hF.1 hF.2.1 dX8_unmount_84 rfl (lv_at hl 4 rfl) ?_
                    refine kGet (C := RX8) (T := TX8) (N := 29) (index := 48) hF hK hP (inT inBX8) 0 rfl rfl 13 (by decide) rfl (List.mem_cons_of_mem _ mF_X8_48) rfl dX8_unmount_85 ?_
                    refine lv_iload hF.1 hF.2.1 dX8_unmount_88 (lv_at hl 0 rfl) ?_
                    refine kIaldN hF hK hP 11 rfl (by omega) (by decide) dX8_unmount_90 ?_
                    refine lv_if_lt (tgt := 114) hF.1 hF.2.1 dX8_unmount_91 (by decide) (fun c_31 => ?_) (fun c_31 => ?_)
                    · refine lv_iconst (v := (nI 0)) hF.1 hF.2.1 dX8_unmount_114 (by decide) ?_
                      refine kTop (y := zI (B ∨ (¬ cF k < 0 ∧ vF (ix (cF k)) = nI (mwR rF cF r0_2 vn)))) (first_z (by first | exact Or.inl ⟨rfl, Or.inl (by assumption)⟩ | exact Or.inl ⟨rfl, Or.inr (by first | assumption | exact ⟨by assumption, by assumption⟩)⟩ | exact Or.inr ⟨rfl, fun h => by rcases h with h | h <;> first | contradiction | exact absurd h.2 (by assumption) | exact absurd (by assumption) h.1⟩)) ?_
                      refine lv_istore_n (lv' := [(3, .int (zI (B ∨ (¬ cF k < 0 ∧ vF (ix (cF k)) = nI (mwR rF cF r0_2 vn))))), (4, .int (nI k)), (2, .int (nI (mwR rF cF r0_2 vn))), (1, .int r0_2), (0, .ref x)]) hF.1 hF.2.1 dX8_unmount_115 rfl hl (by decide) rfl (fun ls hl => ?_)
                      refine lv_iinc (v := (nI (k + 1))) (lv' := [(4, .int (nI (k + 1))), (3, .int (zI (B ∨ (¬ cF k < 0 ∧ vF (ix (cF k)) = nI (mwR rF cF r0_2 vn))))), (2, .int (nI (mwR rF cF r0_2 vn))), (1, .int r0_2), (0, .ref x)]) hF.1 hF.2.1 dX8_unmount_116 hl (k := 1) rfl (nI_inc1 _) (by decide) rfl (fun ls hl => ?_)
                      refine lv_goto (tgt := 71) hF.1 hF.2.1 dX8_unmount_119 (by decide) ?_
                      exact ih_71 (k + 1) (B ∨ (¬ cF k < 0 ∧ vF (ix (cF k)) = nI (mwR rF cF r0_2 vn))) (by omega) (by omega) (bsR_s (by omega) hB) H locs ls hP hD hS (lv_sub hl [0, 1, 2, 3, 4] rfl)
                    · refine lv_aload_n hF.1 hF.2.1 dX8_unmount_94 rfl (lv_at hl 4 rfl) ?_
                      refine kGet (C := RX8) (T := TX8) (N := 29) (index := 19) hF hK hP (inT inBX8) 0 rfl rfl 3 (by decide) rfl (List.mem_cons_of_mem _ mF_X8_19) rfl dX8_unmount_95 ?_
                      refine lv_aload_n hF.1 hF.2.1 dX8_unmount_98 rfl (lv_at hl 4 rfl) ?_
                      refine kGet (C := RX8) (T := TX8) (N := 29) (index := 48) hF hK hP (inT inBX8) 0 rfl rfl 13 (by decide) rfl (List.mem_cons_of_mem _ mF_X8_48) rfl dX8_unmount_99 ?_
                      refine lv_iload hF.1 hF.2.1 dX8_unmount_102 (lv_at hl 0 rfl) ?_
                      refine kIaldN hF hK hP 11 rfl (by omega) (by decide) dX8_unmount_104 ?_
                      refine kIald hF hK hP 12 rfl (cr_in hcr (by omega) (by assumption)) dX8_unmount_105 ?_
                      refine lv_iload_n hF.1 hF.2.1 dX8_unmount_106 rfl (lv_at hl 2 rfl) ?_
                      refine lv_icmp_ne (tgt := 114) hF.1 hF.2.1 dX8_unmount_107 (by decide) (fun c_32 => ?_) (fun c_32 => ?_)
                      · refine lv_iconst (v := (nI 0)) hF.1 hF.2.1 dX8_unmount_114 (by decide) ?_
                        refine kTop (y := zI (B ∨ (¬ cF k < 0 ∧ vF (ix (cF k)) = nI (mwR rF cF r0_2 vn)))) (first_z (by first | exact Or.inl ⟨rfl, Or.inl (by assumption)⟩ | exact Or.inl ⟨rfl, Or.inr (by first | assumption | exact ⟨by assumption, by assumption⟩)⟩ | exact Or.inr ⟨rfl, fun h => by rcases h with h | h <;> first | contradiction | exact absurd h.2 (by assumption) | exact absurd (by assumption) h.1⟩)) ?_
                        refine lv_istore_n (lv' := [(3, .int (zI (B ∨ (¬ cF k < 0 ∧ vF (ix (cF k)) = nI (mwR rF cF r0_2 vn))))), (4, .int (nI k)), (2, .int (nI (mwR rF cF r0_2 vn))), (1, .int r0_2), (0, .ref x)]) hF.1 hF.2.1 dX8_unmount_115 rfl hl (by decide) rfl (fun ls hl => ?_)
                        refine lv_iinc (v := (nI (k + 1))) (lv' := [(4, .int (nI (k + 1))), (3, .int (zI (B ∨ (¬ cF k < 0 ∧ vF (ix (cF k)) = nI (mwR rF cF r0_2 vn))))), (2, .int (nI (mwR rF cF r0_2 vn))), (1, .int r0_2), (0, .ref x)]) hF.1 hF.2.1 dX8_unmount_116 hl (k := 1) rfl (nI_inc1 _) (by decide) rfl (fun ls hl => ?_)
                        refine lv_goto (tgt := 71) hF.1 hF.2.1 dX8_unmount_119 (by decide) ?_
                        exact ih_71 (k + 1) (B ∨ (¬ cF k < 0 ∧ vF (ix (cF k)) = nI (mwR rF cF r0_2 vn))) (by omega) (by omega) (bsR_s (by omega) hB) H locs ls hP hD hS (lv_sub hl [0, 1, 2, 3, 4] rfl)
                      · refine lv_iconst (v := (nI 1)) hF.1 hF.2.1 dX8_unmount_110 (by decide) ?_
                        refine lv_goto (tgt := 115) hF.1 hF.2.1 dX8_unmount_111 (by decide) ?_
                        refine kTop (y := zI (B ∨ (¬ cF k < 0 ∧ vF (ix (cF k)) = nI (mwR rF cF r0_2 vn)))) (first_z (by first | exact Or.inl ⟨rfl, Or.inl (by assumption)⟩ | exact Or.inl ⟨rfl, Or.inr (by first | assumption | exact ⟨by assumption, by assumption⟩)⟩ | exact Or.inr ⟨rfl, fun h => by rcases h with h | h <;> first | contradiction | exact absurd h.2 (by assumption) | exact absurd (by assumption) h.1⟩)) ?_
                        refine lv_istore_n (lv' := [(3, .int (zI (B ∨ (¬ cF k < 0 ∧ vF (ix (cF k)) = nI (mwR rF cF r0_2 vn))))), (4, .int (nI k)), (2, .int (nI (mwR rF cF r0_2 vn))), (1, .int r0_2), (0, .ref x)]) hF.1 hF.2.1 dX8_unmount_115 rfl hl (by decide) rfl (fun ls hl => ?_)
                        refine lv_iinc (v := (nI (k + 1))) (lv' := [(4, .int (nI (k + 1))), (3, .int (zI (B ∨ (¬ cF k < 0 ∧ vF (ix (cF k)) = nI (mwR rF cF r0_2 vn))))), (2, .int (nI (mwR rF cF r0_2 vn))), (1, .int r0_2), (0, .ref x)]) hF.1 hF.2.1 dX8_unmount_116 hl (k := 1) rfl (nI_inc1 _) (by decide) rfl (fun ls hl => ?_)
                        refine lv_goto (tgt := 71) hF.1 hF.2.1 dX8_unmount_119 (by decide) ?_
                        exact ih_71 (k + 1) (B ∨ (¬ cF k < 0 ∧ vF (ix (cF k)) = nI (mwR rF cF r0_2 vn))) (by omega) (by omega) (bsR_s (by omega) hB) H locs ls hP hD hS (lv_sub hl [0, 1, 2, 3, 4] rfl)
            exact loop_71 _ 1 (vF (ix ro) = nI (mwR rF cF r0_2 vn) ∨ vF (ix pr) = nI (mwR rF cF r0_2 vn)) (Nat.lt_succ_self _) (by omega) (bsR_1) _ _ _ hP hD hS (lv_sub hl [0, 1, 2, 3, 4] rfl)
      · refine lv_bipush (v := (-11)) hF.1 hF.2.1 dX8_unmount_33 (by decide) ?_
        refine kRetI (v := (-11)) hF hr hlk hK hP hD hS hQ rfl ((-11), cF, s2_3, q2_4, a1_5, h2_6, z2_7, n2_8, l2_9, e2_10) [0, 1, 2, 3, 4, 5, 6, 7, 8, 9, 10, 11, 12, 13, 14] (by decide) rfl (Nat.le_of_ble_eq_true rfl) (Nat.le_of_ble_eq_true rfl) dX8_unmount_35 ?_
        refine ⟨rfl, ?_⟩
        rw [← hT.1, umR, if_pos (by assumption)]
        rw [if_neg hnn]
        rw [if_pos (by omega)]
    · have hneg := Int32.not_le.mp c_12
      refine lv_iload_n hF.1 hF.2.1 dX8_unmount_21 rfl (lv_at hl 0 rfl) ?_
      refine kRetI (v := r0_2) hF hr hlk hK hP hD hS hQ rfl (r0_2, cF, s2_3, q2_4, a1_5, h2_6, z2_7, n2_8, l2_9, e2_10) [0, 1, 2, 3, 4, 5, 6, 7, 8, 9, 10, 11, 12, 13, 14] (by decide) rfl (Nat.le_of_ble_eq_true rfl) (Nat.le_of_ble_eq_true rfl) dX8_unmount_22 ?_
      refine ⟨rfl, ?_⟩
      rw [← hT.1, umR, if_pos (by assumption)]
      rw [if_pos hneg]
  · refine lv_bipush (v := (-3)) hF.1 hF.2.1 dX8_unmount_7 (by decide) ?_
    refine kRetI (v := (-3)) hF hr hlk hK hP hD hS hQ rfl ((-3), cF, qn, qF, wa, hp, nm, ns, la, sl) [0, 1, 2, 3, 4, 5, 6, 7, 8, 9, 10, 11, 12, 13, 14] (by decide) rfl (Nat.le_of_ble_eq_true rfl) (Nat.le_of_ble_eq_true rfl) dX8_unmount_9 ?_
    exact ⟨rfl, (if_neg (by assumption)).symm⟩
set_option maxHeartbeats 4000000 in
set_option maxRecDepth 100000 in
theorem c_X8_link (l : Launch) (G : GG) (sz : Nat) (x : Nat) (ak : Nat) (am : Nat) (ao : Nat) (av : Nat) (ap : Nat) (ax : Nat) (ay : Nat) (ad : Nat) (an : Nat) (ab : Nat) (ar : Nat) (ac : Nat) (at_ : Nat) (as_ : Nat) (aq : Nat) (ec : Nat) (vn : Nat) (tn : Nat) (sn : Nat) (qn : Nat) (hp : Nat) (ns : Nat) (us : Int32) (ro : Int32) (pr : Int32) (wa : Int32) (nm : Int64) (la : Prop) (sl : Prop) (kF : Nat → Int32) (mF : Nat → Int32) (oF : Nat → Int32) (pF : Nat → Int32) (xF : Nat → Int32) (LN : Nat → Nat) (dF : Nat → Int32) (nF : Nat → Int64) (bF : Nat → Int32) (rF : Nat → Int32) (cF : Nat → Int32) (vF : Nat → Int32) (tF : Nat → Int32) (sF : Nat → Int32) (qF : Nat → Int32) (hvn : 1 ≤ vn ∧ vn ≤ 4) (hcr : ∀ v, v < 4 → cF v = -1 ∨ vp_in (cF v) 40) (hrr : ∀ v, v < 4 → vp_in (rF v) 40) (hpr : ∀ i, i < 40 → vp_in (pF i) 40) (hbr : ∀ k, k < ec → vp_in (bF k) 40) (hro : vp_in ro 40) (hec : ec ≤ 80) (hLN : ∀ i, i < 40 → LN i ≤ 40) (hn : tn ≤ 40) (hpp : vp_in pr 40) (hsn : sn ≤ 40) : CtI l G yX8_link wsX8_link 6 135 0 0 sz [.ref x] [oC x 8 [.ref ak, .ref am, .ref ao, .ref av, .ref ap, .ref ax, .ref ay, .int (nI ec), .ref ad, .ref an, .ref ab, .int (nI vn), .ref ar, .ref ac, .int us, .int ro, .int pr, .ref at_, .int (nI tn), .ref as_, .int (nI sn), .ref aq, .int (nI qn), .int wa, .int (nI hp), .long nm, .int (nI ns), .int (zI la), .int (zI sl)], aI G ak 40 kF, aI G am 40 mF, aI G ao 40 oF, aI G ap 40 pF, aI G ax 1600 xF, aI G ay 40 (fun lv => nI (LN lv)), aI G ad 80 dF, aJ G an 80 nF, aI G ab 80 bF, aI G ar 4 rF, aI G ac 4 cF, aI G av 40 vF, aI G at_ 40 tF, aI G as_ 40 sF, aI G aq 100 qF] (fun r (u : Int32 × Nat × (Nat → Int32) × (Nat → Int64) × (Nat → Int32) × Nat × (Nat → Int32) × Int32 × Nat × Int64 × Nat × Prop × Prop) => match u with | (r0, c2, d2, g2, b3, s2, q2, a1, h2, z2, n2, l2, e2) => r = r0 ∧ ∃ g : Nat → Int32, (r0, c2, d2, g2, b3) = lkR kF mF oF pF rF cF xF vn dF nF bF ec LN us ro vF pr qF g tn tF sn sF) (fun (u : Int32 × Nat × (Nat → Int32) × (Nat → Int64) × (Nat → Int32) × Nat × (Nat → Int32) × Int32 × Nat × Int64 × Nat × Prop × Prop) => match u with | (r0, c2, d2, g2, b3, s2, q2, a1, h2, z2, n2, l2, e2) => [oC x 8 [.ref ak, .ref am, .ref ao, .ref av, .ref ap, .ref ax, .ref ay, .int (nI c2), .ref ad, .ref an, .ref ab, .int (nI vn), .ref ar, .ref ac, .int us, .int ro, .int pr, .ref at_, .int (nI tn), .ref as_, .int (nI sn), .ref aq, .int (nI s2), .int a1, .int (nI h2), .long z2, .int (nI n2), .int (zI l2), .int (zI e2)], aI G ak 40 kF, aI G am 40 mF, aI G ao 40 oF, aI G ap 40 pF, aI G ax 1600 xF, aI G ay 40 (fun lv => nI (LN lv)), aI G ad 80 d2, aJ G an 80 g2, aI G ab 80 b3, aI G ar 4 rF, aI G ac 4 cF, aI G av 40 vF, aI G at_ 40 tF, aI G as_ 40 sF, aI G aq 100 q2]) := by
  refine kMet (Qc := fun A => va_Qi _ (Bw G A _) A) (cc := cX8_link) (nL := 3) (ret := some (.int)) (by decide) rfl (Nat.le_of_ble_eq_true rfl) ?_
  intro p e s m args below meth c A Q hF hr hlk hnme hK hP hD hA hS hQ hsz ls hl
  have hl : lv_has ls 3 [(0, .ref x)] := hl
  refine lv_aload_n hF.1 hF.2.1 dX8_link_0 rfl (lv_at hl 0 rfl) ?_
  refine lv_iconst (v := (nI 1)) hF.1 hF.2.1 dX8_link_1 (by decide) ?_
  refine lv_iconst (v := (nI 0)) hF.1 hF.2.1 dX8_link_2 (by decide) ?_
  refine kCallI (wr := [aI G av 40 vF, aI G at_ 40 tF]) (va_runV (As := [.int (nI 1), .int (nI 0)]) (rest := []) hF (c_X8_walk1 l G _ x ak am ao av ap ax ay ad an ab ar ac at_ as_ aq ec vn tn sn qn hp ns us ro pr wa nm la sl kF mF oF pF xF LN dF nF bF rF cF sF qF (nI 0) (by first | assumption | omega) (by first | assumption | omega) (by first | assumption | omega) (by first | assumption | omega) (by first | assumption | omega) (by first | assumption | omega) (by first | assumption | omega) (by first | assumption | omega) (by first | assumption | omega) (by first | assumption | omega)) (cwVB 2 hF rfl mL_X8_157 mI_X8_walk mS_X8_walk mN_X8 mC_X8_walk rfl hd_X8_walk rfl rfl ⟨Nat.le_of_ble_eq_true rfl, Nat.le_of_ble_eq_true rfl⟩) (kPre hK hP hD [0, 1, 2, 3, 4, 5, 6, 7, 8, 9, 10, 11, 14, 15] (by decide) rfl (q0 := 0) (ci := 8) rfl rfl rfl) rfl rfl hl.1 rfl (lv_room (Nat.le_of_ble_eq_true rfl)) dX8_link_3 ⟨Nat.le_of_ble_eq_true rfl, Nat.le_of_ble_eq_true rfl⟩) hP hD hS hA [0, 1, 2, 3, 4, 5, 6, 7, 8, 9, 10, 11, 14, 15] [12, 13] rfl rfl (by decide) (by decide) (fun r u H locs hw_10 hP hD hS => ?_)
  obtain ⟨r0_1, s2_2, q2_3, a1_4, h2_5, z2_6, n2_7, l2_8, e2_9⟩ := u
  obtain ⟨hz, hw_10⟩ := hw_10
  have hz := hz.symm
  subst hz
  have hP : PG G [oC x 8 [.ref ak, .ref am, .ref ao, .ref av, .ref ap, .ref ax, .ref ay, .int (nI ec), .ref ad, .ref an, .ref ab, .int (nI vn), .ref ar, .ref ac, .int us, .int ro, .int pr, .ref at_, .int (nI tn), .ref as_, .int (nI sn), .ref aq, .int (nI s2_2), .int a1_4, .int (nI h2_5), .long z2_6, .int (nI n2_7), .int (zI l2_8), .int (zI e2_9)], aI G ak 40 kF, aI G am 40 mF, aI G ao 40 oF, aI G ap 40 pF, aI G ax 1600 xF, aI G ay 40 (fun lv => nI (LN lv)), aI G ad 80 dF, aJ G an 80 nF, aI G ab 80 bF, aI G ar 4 rF, aI G ac 4 cF, aI G av 40 vF, aI G at_ 40 tF, aI G as_ 40 sF, aI G aq 100 q2_3] H := va_P.sub hP [2, 3, 4, 5, 6, 7, 8, 9, 10, 11, 12, 13, 0, 1, 14, 15] rfl
  have hD : va_D A [oC x 8 [.ref ak, .ref am, .ref ao, .ref av, .ref ap, .ref ax, .ref ay, .int (nI ec), .ref ad, .ref an, .ref ab, .int (nI vn), .ref ar, .ref ac, .int us, .int ro, .int pr, .ref at_, .int (nI tn), .ref as_, .int (nI sn), .ref aq, .int (nI s2_2), .int a1_4, .int (nI h2_5), .long z2_6, .int (nI n2_7), .int (zI l2_8), .int (zI e2_9)], aI G ak 40 kF, aI G am 40 mF, aI G ao 40 oF, aI G ap 40 pF, aI G ax 1600 xF, aI G ay 40 (fun lv => nI (LN lv)), aI G ad 80 dF, aJ G an 80 nF, aI G ab 80 bF, aI G ar 4 rF, aI G ac 4 cF, aI G av 40 vF, aI G at_ 40 tF, aI G as_ 40 sF, aI G aq 100 q2_3] := va_D.sub hD [2, 3, 4, 5, 6, 7, 8, 9, 10, 11, 12, 13, 0, 1, 14, 15] (by decide) rfl
  have hT := hw_10
  skip
  refine lv_istore_n (lv' := [(1, .int r0_1), (0, .ref x)]) hF.1 hF.2.1 dX8_link_6 rfl hl (by decide) rfl (fun ls hl => ?_)
  refine lv_iload_n hF.1 hF.2.1 dX8_link_7 rfl (lv_at hl 0 rfl) ?_
  refine lv_if_ge (tgt := 13) hF.1 hF.2.1 dX8_link_8 (by decide) (fun c_11 => ?_) (fun c_11 => ?_)
  · have hnn := Int32.not_lt.mpr c_11
    refine lv_aload_n hF.1 hF.2.1 dX8_link_13 rfl (lv_at hl 1 rfl) ?_
    refine kGet (C := RX8) (T := TX8) (N := 29) (index := 7) hF hK hP (inT inBX8) 0 rfl rfl 0 (by decide) rfl (List.mem_cons_of_mem _ mF_X8_7) rfl dX8_link_14 ?_
    refine lv_iload_n hF.1 hF.2.1 dX8_link_17 rfl (lv_at hl 0 rfl) ?_
    refine kIald hF hK hP 1 rfl (hT.2 hnn) dX8_link_18 ?_
    refine lv_iconst (v := (nI 1)) hF.1 hF.2.1 dX8_link_19 (by decide) ?_
    refine lv_icmp_ne (tgt := 26) hF.1 hF.2.1 dX8_link_20 (by decide) (fun c_12 => ?_) (fun c_12 => ?_)
    · refine lv_aload_n hF.1 hF.2.1 dX8_link_26 rfl (lv_at hl 1 rfl) ?_
      refine lv_iconst (v := (nI 0)) hF.1 hF.2.1 dX8_link_27 (by decide) ?_
      refine kCallI (wr := [aI G av 40 vF, aI G as_ 40 sF]) (va_runV (As := [.int (nI 0)]) (rest := []) hF (c_X8_newName l G H.size x ak am ao av ap ax ay ad an ab ar ac at_ as_ aq ec vn tn sn s2_2 h2_5 n2_7 us ro pr a1_4 z2_6 l2_8 e2_9 kF mF oF pF xF LN dF nF bF rF cF tF q2_3 (nI 0) (by first | assumption | omega) (by first | assumption | omega) (by first | assumption | omega) (by first | assumption | omega) (by first | assumption | omega) (by first | assumption | omega) (by first | assumption | omega) (by first | assumption | omega) (by first | assumption | omega) (by first | assumption | omega)) (cwVB 1 hF rfl mL_X8_171 mI_X8_newName mS_X8_newName mN_X8 mC_X8_newName rfl hd_X8_newName rfl rfl ⟨Nat.le_of_ble_eq_true rfl, Nat.le_of_ble_eq_true rfl⟩) (kPre hK hP hD [0, 1, 2, 3, 4, 5, 6, 7, 8, 9, 10, 11, 13, 15] (by decide) rfl (q0 := 0) (ci := 8) rfl rfl rfl) rfl rfl hl.1 rfl (lv_room (Nat.le_of_ble_eq_true rfl)) dX8_link_28 ⟨Nat.le_of_ble_eq_true rfl, Nat.le_of_ble_eq_true rfl⟩) hP hD hS hA [0, 1, 2, 3, 4, 5, 6, 7, 8, 9, 10, 11, 13, 15] [12, 14] rfl rfl (by decide) (by decide) (fun r u H locs hw_22 hP hD hS => ?_)
      obtain ⟨r0_13, s2_14, q2_15, a1_16, h2_17, z2_18, n2_19, l2_20, e2_21⟩ := u
      obtain ⟨hz, hw_22⟩ := hw_22
      have hz := hz.symm
      subst hz
      have hP : PG G [oC x 8 [.ref ak, .ref am, .ref ao, .ref av, .ref ap, .ref ax, .ref ay, .int (nI ec), .ref ad, .ref an, .ref ab, .int (nI vn), .ref ar, .ref ac, .int us, .int ro, .int pr, .ref at_, .int (nI tn), .ref as_, .int (nI sn), .ref aq, .int (nI s2_14), .int a1_16, .int (nI h2_17), .long z2_18, .int (nI n2_19), .int (zI l2_20), .int (zI e2_21)], aI G ak 40 kF, aI G am 40 mF, aI G ao 40 oF, aI G ap 40 pF, aI G ax 1600 xF, aI G ay 40 (fun lv => nI (LN lv)), aI G ad 80 dF, aJ G an 80 nF, aI G ab 80 bF, aI G ar 4 rF, aI G ac 4 cF, aI G av 40 vF, aI G at_ 40 tF, aI G as_ 40 sF, aI G aq 100 q2_15] H := va_P.sub hP [2, 3, 4, 5, 6, 7, 8, 9, 10, 11, 12, 13, 0, 14, 1, 15] rfl
      have hD : va_D A [oC x 8 [.ref ak, .ref am, .ref ao, .ref av, .ref ap, .ref ax, .ref ay, .int (nI ec), .ref ad, .ref an, .ref ab, .int (nI vn), .ref ar, .ref ac, .int us, .int ro, .int pr, .ref at_, .int (nI tn), .ref as_, .int (nI sn), .ref aq, .int (nI s2_14), .int a1_16, .int (nI h2_17), .long z2_18, .int (nI n2_19), .int (zI l2_20), .int (zI e2_21)], aI G ak 40 kF, aI G am 40 mF, aI G ao 40 oF, aI G ap 40 pF, aI G ax 1600 xF, aI G ay 40 (fun lv => nI (LN lv)), aI G ad 80 dF, aJ G an 80 nF, aI G ab 80 bF, aI G ar 4 rF, aI G ac 4 cF, aI G av 40 vF, aI G at_ 40 tF, aI G as_ 40 sF, aI G aq 100 q2_15] := va_D.sub hD [2, 3, 4, 5, 6, 7, 8, 9, 10, 11, 12, 13, 0, 14, 1, 15] (by decide) rfl
      have hC := hw_22
      skip
      refine lv_istore_n (lv' := [(2, .int r0_13), (1, .int r0_1), (0, .ref x)]) hF.1 hF.2.1 dX8_link_31 rfl hl (by decide) rfl (fun ls hl => ?_)
      refine lv_iload_n hF.1 hF.2.1 dX8_link_32 rfl (lv_at hl 0 rfl) ?_
      refine lv_if_eq (tgt := 38) hF.1 hF.2.1 dX8_link_33 (by decide) (fun c_23 => ?_) (fun c_23 => ?_)
      · have hE := (hC.2 c_23).2.1
        have hV := (hC.2 c_23).2.2
        refine lv_aload_n hF.1 hF.2.1 dX8_link_38 rfl (lv_at hl 2 rfl) ?_
        refine kGet (C := RX8) (T := TX8) (N := 29) (index := 19) hF hK hP (inT inBX8) 0 rfl rfl 3 (by decide) rfl (List.mem_cons_of_mem _ mF_X8_19) rfl dX8_link_39 ?_
        refine lv_aload_n hF.1 hF.2.1 dX8_link_42 rfl (lv_at hl 2 rfl) ?_
        refine kGet (C := RX8) (T := TX8) (N := 29) (index := 114) hF hK hP (inT inBX8) 0 rfl rfl 23 (by decide) rfl (List.mem_cons_of_mem _ mF_X8_114) rfl dX8_link_43 ?_
        refine kIald hF hK hP 12 rfl (hV) dX8_link_46 ?_
        refine lv_aload_n hF.1 hF.2.1 dX8_link_47 rfl (lv_at hl 2 rfl) ?_
        refine kGet (C := RX8) (T := TX8) (N := 29) (index := 19) hF hK hP (inT inBX8) 0 rfl rfl 3 (by decide) rfl (List.mem_cons_of_mem _ mF_X8_19) rfl dX8_link_48 ?_
        refine lv_iload_n hF.1 hF.2.1 dX8_link_51 rfl (lv_at hl 1 rfl) ?_
        refine kIald hF hK hP 12 rfl (hT.2 hnn) dX8_link_52 ?_
        refine lv_icmp_eq (tgt := 59) hF.1 hF.2.1 dX8_link_53 (by decide) (fun c_24 => ?_) (fun c_24 => ?_)
        · refine lv_aload_n hF.1 hF.2.1 dX8_link_59 rfl (lv_at hl 2 rfl) ?_
          refine kGet (C := RX8) (T := TX8) (N := 29) (index := 82) hF hK hP (inT inBX8) 0 rfl rfl 7 (by decide) rfl (List.mem_cons_of_mem _ mF_X8_82) rfl dX8_link_60 ?_
          refine lv_bipush (v := (nI 80)) hF.1 hF.2.1 dX8_link_63 (by decide) ?_
          refine kNeN (tgt := 73) hF dX8_link_65 (by decide) (by omega) (by omega) (fun c_25 => ?_) (fun c_25 => ?_)
          · refine lv_aload_n hF.1 hF.2.1 dX8_link_73 rfl (lv_at hl 2 rfl) ?_
            refine lv_iload_n hF.1 hF.2.1 dX8_link_74 rfl (lv_at hl 1 rfl) ?_
            refine kCallI (wr := [aI G ak 40 kF, aI G am 40 mF, aI G ao 40 oF, aI G ap 40 pF, aI G ax 1600 xF, aI G ay 40 (fun lv => nI (LN lv)), aI G ar 4 rF, aI G ac 4 cF, aI G av 40 vF, aI G at_ 40 tF, aI G as_ 40 sF, aI G aq 100 q2_15]) (va_runV (As := [.int r0_1]) (rest := []) hF (c_X8_addEntry l G H.size x ak am ao av ap ax ay ad an ab ar ac at_ as_ aq ec vn tn sn s2_14 h2_17 n2_19 us ro pr a1_16 z2_18 l2_20 e2_21 dF nF bF r0_1 (by first | assumption | omega)) (cwVB 1 hF rfl mL_X8_177 mI_X8_addEntry mS_X8_addEntry mN_X8 mC_X8_addEntry rfl hd_X8_addEntry rfl rfl ⟨Nat.le_of_ble_eq_true rfl, Nat.le_of_ble_eq_true rfl⟩) (kPre hK hP hD [0, 7, 8, 9] (by decide) rfl (q0 := 0) (ci := 8) rfl rfl rfl) rfl rfl hl.1 rfl (lv_room (Nat.le_of_ble_eq_true rfl)) dX8_link_75 ⟨Nat.le_of_ble_eq_true rfl, Nat.le_of_ble_eq_true rfl⟩) hP hD hS hA [0, 7, 8, 9] [1, 2, 3, 4, 5, 6, 10, 11, 12, 13, 14, 15] rfl rfl (by decide) (by decide) (fun r u H locs hw_26 hP hD hS => ?_)
            have hw_26 := hw_26.symm
            subst hw_26
            have hP : PG G [oC x 8 [.ref ak, .ref am, .ref ao, .ref av, .ref ap, .ref ax, .ref ay, .int (nI (ec + 1)), .ref ad, .ref an, .ref ab, .int (nI vn), .ref ar, .ref ac, .int us, .int ro, .int pr, .ref at_, .int (nI tn), .ref as_, .int (nI sn), .ref aq, .int (nI s2_14), .int a1_16, .int (nI h2_17), .long z2_18, .int (nI n2_19), .int (zI l2_20), .int (zI e2_21)], aI G ak 40 kF, aI G am 40 mF, aI G ao 40 oF, aI G ap 40 pF, aI G ax 1600 xF, aI G ay 40 (fun lv => nI (LN lv)), aI G ad 80 (upd dF ec a1_16), aJ G an 80 (vp_updL nF ec z2_18), aI G ab 80 (upd bF ec r0_1), aI G ar 4 rF, aI G ac 4 cF, aI G av 40 vF, aI G at_ 40 tF, aI G as_ 40 sF, aI G aq 100 q2_15] H := va_P.sub hP [12, 0, 1, 2, 3, 4, 5, 13, 14, 15, 6, 7, 8, 9, 10, 11] rfl
            have hD : va_D A [oC x 8 [.ref ak, .ref am, .ref ao, .ref av, .ref ap, .ref ax, .ref ay, .int (nI (ec + 1)), .ref ad, .ref an, .ref ab, .int (nI vn), .ref ar, .ref ac, .int us, .int ro, .int pr, .ref at_, .int (nI tn), .ref as_, .int (nI sn), .ref aq, .int (nI s2_14), .int a1_16, .int (nI h2_17), .long z2_18, .int (nI n2_19), .int (zI l2_20), .int (zI e2_21)], aI G ak 40 kF, aI G am 40 mF, aI G ao 40 oF, aI G ap 40 pF, aI G ax 1600 xF, aI G ay 40 (fun lv => nI (LN lv)), aI G ad 80 (upd dF ec a1_16), aJ G an 80 (vp_updL nF ec z2_18), aI G ab 80 (upd bF ec r0_1), aI G ar 4 rF, aI G ac 4 cF, aI G av 40 vF, aI G at_ 40 tF, aI G as_ 40 sF, aI G aq 100 q2_15] := va_D.sub hD [12, 0, 1, 2, 3, 4, 5, 13, 14, 15, 6, 7, 8, 9, 10, 11] (by decide) rfl
            refine kRetI (v := r0_1) hF hr hlk hK hP hD hS hQ rfl (r0_1, ec + 1, upd dF ec a1_16, vp_updL nF ec z2_18, upd bF ec r0_1, s2_14, q2_15, a1_16, h2_17, z2_18, n2_19, l2_20, e2_21) [0, 1, 2, 3, 4, 5, 6, 7, 8, 9, 10, 11, 12, 13, 14, 15] (by decide) rfl (Nat.le_of_ble_eq_true rfl) (Nat.le_of_ble_eq_true rfl) dX8_link_78 ?_
            refine ⟨rfl, q2_3, ?_⟩
            rw [lkR, ← hT.1, if_neg hnn, if_neg (by assumption), ← hC.1]
            first | (rw [if_neg (by assumption)]; done) | (rw [if_pos (by assumption), hE]; dsimp only; first | (rw [if_neg (by assumption)]; done) | (rw [if_pos (by assumption)]; first | (rw [if_pos (by omega)]; done) | (rw [if_neg (by omega)]; done)))
          · refine lv_bipush (v := (-10)) hF.1 hF.2.1 dX8_link_68 (by decide) ?_
            refine lv_goto (tgt := 78) hF.1 hF.2.1 dX8_link_70 (by decide) ?_
            refine kRetI (v := (-10)) hF hr hlk hK hP hD hS hQ rfl ((-10), ec, dF, nF, bF, s2_14, q2_15, a1_16, h2_17, z2_18, n2_19, l2_20, e2_21) [0, 1, 2, 3, 4, 5, 6, 7, 8, 9, 10, 11, 12, 13, 14, 15] (by decide) rfl (Nat.le_of_ble_eq_true rfl) (Nat.le_of_ble_eq_true rfl) dX8_link_78 ?_
            refine ⟨rfl, q2_3, ?_⟩
            rw [lkR, ← hT.1, if_neg hnn, if_neg (by assumption), ← hC.1]
            first | (rw [if_neg (by assumption)]; done) | (rw [if_pos (by assumption), hE]; dsimp only; first | (rw [if_neg (by assumption)]; done) | (rw [if_pos (by assumption)]; first | (rw [if_pos (by omega)]; done) | (rw [if_neg (by omega)]; done)))
        · refine lv_bipush (v := (-9)) hF.1 hF.2.1 dX8_link_56 (by decide) ?_
          refine kRetI (v := (-9)) hF hr hlk hK hP hD hS hQ rfl ((-9), ec, dF, nF, bF, s2_14, q2_15, a1_16, h2_17, z2_18, n2_19, l2_20, e2_21) [0, 1, 2, 3, 4, 5, 6, 7, 8, 9, 10, 11, 12, 13, 14, 15] (by decide) rfl (Nat.le_of_ble_eq_true rfl) (Nat.le_of_ble_eq_true rfl) dX8_link_58 ?_
          refine ⟨rfl, q2_3, ?_⟩
          rw [lkR, ← hT.1, if_neg hnn, if_neg (by assumption), ← hC.1]
          first | (rw [if_neg (by assumption)]; done) | (rw [if_pos (by assumption), hE]; dsimp only; first | (rw [if_neg (by assumption)]; done) | (rw [if_pos (by assumption)]; first | (rw [if_pos (by omega)]; done) | (rw [if_neg (by omega)]; done)))
      · refine lv_iload_n hF.1 hF.2.1 dX8_link_36 rfl (lv_at hl 0 rfl) ?_
        refine kRetI (v := r0_13) hF hr hlk hK hP hD hS hQ rfl (r0_13, ec, dF, nF, bF, s2_14, q2_15, a1_16, h2_17, z2_18, n2_19, l2_20, e2_21) [0, 1, 2, 3, 4, 5, 6, 7, 8, 9, 10, 11, 12, 13, 14, 15] (by decide) rfl (Nat.le_of_ble_eq_true rfl) (Nat.le_of_ble_eq_true rfl) dX8_link_37 ?_
        refine ⟨rfl, q2_3, ?_⟩
        rw [lkR, ← hT.1, if_neg hnn, if_neg (by assumption), ← hC.1]
        first | (rw [if_neg (by assumption)]; done) | (rw [if_pos (by assumption), hE]; dsimp only; first | (rw [if_neg (by assumption)]; done) | (rw [if_pos (by assumption)]; first | (rw [if_pos (by omega)]; done) | (rw [if_neg (by omega)]; done)))
    · refine lv_bipush (v := (-11)) hF.1 hF.2.1 dX8_link_23 (by decide) ?_
      refine kRetI (v := (-11)) hF hr hlk hK hP hD hS hQ rfl ((-11), ec, dF, nF, bF, s2_2, q2_3, a1_4, h2_5, z2_6, n2_7, l2_8, e2_9) [0, 1, 2, 3, 4, 5, 6, 7, 8, 9, 10, 11, 12, 13, 14, 15] (by decide) rfl (Nat.le_of_ble_eq_true rfl) (Nat.le_of_ble_eq_true rfl) dX8_link_25 ?_
      refine ⟨rfl, qF, ?_⟩
      rw [lkR, ← hT.1, if_neg hnn, if_pos (by assumption)]
  · have hneg := Int32.not_le.mp c_11
    refine lv_iload_n hF.1 hF.2.1 dX8_link_11 rfl (lv_at hl 0 rfl) ?_
    refine kRetI (v := r0_1) hF hr hlk hK hP hD hS hQ rfl (r0_1, ec, dF, nF, bF, s2_2, q2_3, a1_4, h2_5, z2_6, n2_7, l2_8, e2_9) [0, 1, 2, 3, 4, 5, 6, 7, 8, 9, 10, 11, 12, 13, 14, 15] (by decide) rfl (Nat.le_of_ble_eq_true rfl) (Nat.le_of_ble_eq_true rfl) dX8_link_12 ?_
    refine ⟨rfl, qF, ?_⟩
    rw [lkR, ← hT.1, if_pos hneg]
set_option maxHeartbeats 4000000 in
set_option maxRecDepth 100000 in
theorem c_X8_remove (l : Launch) (G : GG) (sz : Nat) (x : Nat) (ak : Nat) (am : Nat) (ao : Nat) (av : Nat) (ap : Nat) (ax : Nat) (ay : Nat) (ad : Nat) (an : Nat) (ab : Nat) (ar : Nat) (ac : Nat) (at_ : Nat) (as_ : Nat) (aq : Nat) (ec : Nat) (vn : Nat) (tn : Nat) (sn : Nat) (qn : Nat) (hp : Nat) (ns : Nat) (us : Int32) (ro : Int32) (pr : Int32) (wa : Int32) (nm : Int64) (la : Prop) (sl : Prop) (kF : Nat → Int32) (mF : Nat → Int32) (oF : Nat → Int32) (pF : Nat → Int32) (xF : Nat → Int32) (LN : Nat → Nat) (dF : Nat → Int32) (nF : Nat → Int64) (bF : Nat → Int32) (rF : Nat → Int32) (cF : Nat → Int32) (tF : Nat → Int32) (qF : Nat → Int32) (hvn : 1 ≤ vn ∧ vn ≤ 4) (hcr : ∀ v, v < 4 → cF v = -1 ∨ vp_in (cF v) 40) (hrr : ∀ v, v < 4 → vp_in (rF v) 40) (hpr : ∀ i, i < 40 → vp_in (pF i) 40) (hbr : ∀ k, k < ec → vp_in (bF k) 40) (hro : vp_in ro 40) (hec : ec ≤ 80) (hLN : ∀ i, i < 40 → LN i ≤ 40) (hn : tn ≤ 40) (hpp : vp_in pr 40) : CtI l G yX8_remove wsX8_remove 5 113 0 0 sz [.ref x] [oC x 8 [.ref ak, .ref am, .ref ao, .ref av, .ref ap, .ref ax, .ref ay, .int (nI ec), .ref ad, .ref an, .ref ab, .int (nI vn), .ref ar, .ref ac, .int us, .int ro, .int pr, .ref at_, .int (nI tn), .ref as_, .int (nI sn), .ref aq, .int (nI qn), .int wa, .int (nI hp), .long nm, .int (nI ns), .int (zI la), .int (zI sl)], aI G ak 40 kF, aI G am 40 mF, aI G ao 40 oF, aI G ap 40 pF, aI G ax 1600 xF, aI G ay 40 (fun lv => nI (LN lv)), aI G ad 80 dF, aJ G an 80 nF, aI G ab 80 bF, aI G ar 4 rF, aI G ac 4 cF, aI G at_ 40 tF, aI G aq 100 qF] (fun r (u : Int32 × Nat × (Nat → Int32) × (Nat → Int64) × (Nat → Int32) × (Nat → Int32) × Nat × (Nat → Int32) × Int32 × Nat × Int64 × Nat × Prop × Prop) => match u with | (r0, c2, d2, g2, b3, k2, s2, q2, a1, h2, z2, n2, l2, e2) => r = r0 ∧ (r0, c2, d2, g2, b3, k2) = rmR kF mF oF pF rF cF xF vn dF nF bF ec LN us ro pr qF tn tF) (fun (u : Int32 × Nat × (Nat → Int32) × (Nat → Int64) × (Nat → Int32) × (Nat → Int32) × Nat × (Nat → Int32) × Int32 × Nat × Int64 × Nat × Prop × Prop) => match u with | (r0, c2, d2, g2, b3, k2, s2, q2, a1, h2, z2, n2, l2, e2) => [oC x 8 [.ref ak, .ref am, .ref ao, .ref av, .ref ap, .ref ax, .ref ay, .int (nI c2), .ref ad, .ref an, .ref ab, .int (nI vn), .ref ar, .ref ac, .int us, .int ro, .int pr, .ref at_, .int (nI tn), .ref as_, .int (nI sn), .ref aq, .int (nI s2), .int a1, .int (nI h2), .long z2, .int (nI n2), .int (zI l2), .int (zI e2)], aI G ak 40 k2, aI G am 40 mF, aI G ao 40 oF, aI G ap 40 pF, aI G ax 1600 xF, aI G ay 40 (fun lv => nI (LN lv)), aI G ad 80 d2, aJ G an 80 g2, aI G ab 80 b3, aI G ar 4 rF, aI G ac 4 cF, aI G at_ 40 tF, aI G aq 100 q2]) := by
  refine kMet (Qc := fun A => va_Qi _ (Bw G A _) A) (cc := cX8_remove) (nL := 5) (ret := some (.int)) (by decide) rfl (Nat.le_of_ble_eq_true rfl) ?_
  intro p e s m args below meth c A Q hF hr hlk hnme hK hP hD hA hS hQ hsz ls hl
  have hl : lv_has ls 5 [(0, .ref x)] := hl
  refine lv_aload_n hF.1 hF.2.1 dX8_remove_0 rfl (lv_at hl 0 rfl) ?_
  refine kGet (C := RX8) (T := TX8) (N := 29) (index := 60) hF hK hP (inT inBX8) 0 rfl rfl 18 (by decide) rfl (List.mem_cons_of_mem _ mF_X8_60) rfl dX8_remove_1 ?_
  refine kIfNeN (tgt := 9) hF dX8_remove_4 (by decide) (by omega) (fun c_1 => ?_) (fun c_1 => ?_)
  · refine lv_aload_n hF.1 hF.2.1 dX8_remove_9 rfl (lv_at hl 0 rfl) ?_
    refine kCallI (wr := [aI G ak 40 kF, aI G am 40 mF, aI G ao 40 oF, aI G ap 40 pF, aI G ax 1600 xF, aI G ay 40 (fun lv => nI (LN lv)), aI G ad 80 dF, aJ G an 80 nF, aI G ab 80 bF, aI G ar 4 rF, aI G ac 4 cF, aI G aq 100 qF]) (va_runV (As := []) (rest := []) hF (c_X8_slashesAlone l G _ x ak am ao av ap ax ay ad an ab ar ac at_ as_ aq ec vn tn sn qn hp ns us ro pr wa nm la sl tF (by first | assumption | omega)) (cwVB 0 hF rfl mL_X8_161 mI_X8_slashesAlone mS_X8_slashesAlone mN_X8 mC_X8_slashesAlone rfl hd_X8_slashesAlone rfl rfl ⟨Nat.le_of_ble_eq_true rfl, Nat.le_of_ble_eq_true rfl⟩) (kPre hK hP hD [0, 12] (by decide) rfl (q0 := 0) (ci := 8) rfl rfl rfl) rfl rfl hl.1 rfl (lv_room (Nat.le_of_ble_eq_true rfl)) dX8_remove_10 ⟨Nat.le_of_ble_eq_true rfl, Nat.le_of_ble_eq_true rfl⟩) hP hD hS hA [0, 12] [1, 2, 3, 4, 5, 6, 7, 8, 9, 10, 11, 13] rfl rfl (by decide) (by decide) (fun r u H locs hw_2 hP hD hS => ?_)
    have hw_2 := hw_2.symm
    subst hw_2
    have hP : PG G [oC x 8 [.ref ak, .ref am, .ref ao, .ref av, .ref ap, .ref ax, .ref ay, .int (nI ec), .ref ad, .ref an, .ref ab, .int (nI vn), .ref ar, .ref ac, .int us, .int ro, .int pr, .ref at_, .int (nI tn), .ref as_, .int (nI sn), .ref aq, .int (nI qn), .int wa, .int (nI hp), .long nm, .int (nI ns), .int (zI la), .int (zI sl)], aI G ak 40 kF, aI G am 40 mF, aI G ao 40 oF, aI G ap 40 pF, aI G ax 1600 xF, aI G ay 40 (fun lv => nI (LN lv)), aI G ad 80 dF, aJ G an 80 nF, aI G ab 80 bF, aI G ar 4 rF, aI G ac 4 cF, aI G at_ 40 tF, aI G aq 100 qF] H := va_P.sub hP [12, 0, 1, 2, 3, 4, 5, 6, 7, 8, 9, 10, 13, 11] rfl
    have hD : va_D A [oC x 8 [.ref ak, .ref am, .ref ao, .ref av, .ref ap, .ref ax, .ref ay, .int (nI ec), .ref ad, .ref an, .ref ab, .int (nI vn), .ref ar, .ref ac, .int us, .int ro, .int pr, .ref at_, .int (nI tn), .ref as_, .int (nI sn), .ref aq, .int (nI qn), .int wa, .int (nI hp), .long nm, .int (nI ns), .int (zI la), .int (zI sl)], aI G ak 40 kF, aI G am 40 mF, aI G ao 40 oF, aI G ap 40 pF, aI G ax 1600 xF, aI G ay 40 (fun lv => nI (LN lv)), aI G ad 80 dF, aJ G an 80 nF, aI G ab 80 bF, aI G ar 4 rF, aI G ac 4 cF, aI G at_ 40 tF, aI G aq 100 qF] := va_D.sub hD [12, 0, 1, 2, 3, 4, 5, 6, 7, 8, 9, 10, 13, 11] (by decide) rfl
    refine kIfEqZ (tgt := 19) hF dX8_remove_13 (by decide) (fun c_3 => ?_) (fun c_3 => ?_)
    · refine lv_aload_n hF.1 hF.2.1 dX8_remove_19 rfl (lv_at hl 0 rfl) ?_
      refine kCallI (wr := []) (va_runV (As := []) (rest := []) hF (c_X8_come l G H.size x ak am ao av ap ax ay ad an ab ar ac at_ as_ aq ec vn tn sn qn hp ns us ro pr wa nm la sl kF mF oF pF xF LN dF nF bF rF cF tF qF (by first | assumption | omega) (by first | assumption | omega) (by first | assumption | omega) (by first | assumption | omega) (by first | assumption | omega) (by first | assumption | omega) (by first | assumption | omega) (by first | assumption | omega) (by first | assumption | omega) (by first | assumption | omega) (ns_of (by omega) (by assumption))) (cwVB 0 hF rfl mL_X8_165 mI_X8_come mS_X8_come mN_X8 mC_X8_come rfl hd_X8_come rfl rfl ⟨Nat.le_of_ble_eq_true rfl, Nat.le_of_ble_eq_true rfl⟩) (kPre hK hP hD [0, 1, 2, 3, 4, 5, 6, 7, 8, 9, 10, 11, 12, 13] (by decide) rfl (q0 := 0) (ci := 8) rfl rfl rfl) rfl rfl hl.1 rfl (lv_room (Nat.le_of_ble_eq_true rfl)) dX8_remove_20 ⟨Nat.le_of_ble_eq_true rfl, Nat.le_of_ble_eq_true rfl⟩) hP hD hS hA [0, 1, 2, 3, 4, 5, 6, 7, 8, 9, 10, 11, 12, 13] [] rfl rfl (by decide) (by decide) (fun r u H locs hw_13 hP hD hS => ?_)
      obtain ⟨r0_4, s2_5, q2_6, a1_7, h2_8, z2_9, n2_10, l2_11, e2_12⟩ := u
      obtain ⟨hz, hw_13⟩ := hw_13
      have hz := hz.symm
      subst hz
      have hP : PG G [oC x 8 [.ref ak, .ref am, .ref ao, .ref av, .ref ap, .ref ax, .ref ay, .int (nI ec), .ref ad, .ref an, .ref ab, .int (nI vn), .ref ar, .ref ac, .int us, .int ro, .int pr, .ref at_, .int (nI tn), .ref as_, .int (nI sn), .ref aq, .int (nI s2_5), .int a1_7, .int (nI h2_8), .long z2_9, .int (nI n2_10), .int (zI l2_11), .int (zI e2_12)], aI G ak 40 kF, aI G am 40 mF, aI G ao 40 oF, aI G ap 40 pF, aI G ax 1600 xF, aI G ay 40 (fun lv => nI (LN lv)), aI G ad 80 dF, aJ G an 80 nF, aI G ab 80 bF, aI G ar 4 rF, aI G ac 4 cF, aI G at_ 40 tF, aI G aq 100 q2_6] H := hP
      have hD : va_D A [oC x 8 [.ref ak, .ref am, .ref ao, .ref av, .ref ap, .ref ax, .ref ay, .int (nI ec), .ref ad, .ref an, .ref ab, .int (nI vn), .ref ar, .ref ac, .int us, .int ro, .int pr, .ref at_, .int (nI tn), .ref as_, .int (nI sn), .ref aq, .int (nI s2_5), .int a1_7, .int (nI h2_8), .long z2_9, .int (nI n2_10), .int (zI l2_11), .int (zI e2_12)], aI G ak 40 kF, aI G am 40 mF, aI G ao 40 oF, aI G ap 40 pF, aI G ax 1600 xF, aI G ay 40 (fun lv => nI (LN lv)), aI G ad 80 dF, aJ G an 80 nF, aI G ab 80 bF, aI G ar 4 rF, aI G ac 4 cF, aI G at_ 40 tF, aI G aq 100 q2_6] := hD
      have hT := hw_13
      refine lv_istore_n (lv' := [(1, .int r0_4), (0, .ref x)]) hF.1 hF.2.1 dX8_remove_23 rfl hl (by decide) rfl (fun ls hl => ?_)
      refine lv_iload_n hF.1 hF.2.1 dX8_remove_24 rfl (lv_at hl 0 rfl) ?_
      refine lv_if_eq (tgt := 30) hF.1 hF.2.1 dX8_remove_25 (by decide) (fun c_14 => ?_) (fun c_14 => ?_)
      · have hE := (hT.2 c_14).1
        have hV := (hT.2 c_14).2
        refine lv_aload_n hF.1 hF.2.1 dX8_remove_30 rfl (lv_at hl 1 rfl) ?_
        refine kCallI (wr := [aI G ak 40 kF, aI G am 40 mF, aI G ao 40 oF, aI G ap 40 pF, aI G ax 1600 xF, aI G ay 40 (fun lv => nI (LN lv)), aI G ad 80 dF, aJ G an 80 nF, aI G ab 80 bF, aI G ar 4 rF, aI G ac 4 cF, aI G at_ 40 tF, aI G aq 100 q2_6]) (va_runV (As := []) (rest := []) hF (c_X8_dots l G H.size x ak am ao av ap ax ay ad an ab ar ac at_ as_ aq ec vn tn sn s2_5 h2_8 n2_10 us ro pr a1_7 z2_9 l2_11 e2_12) (cwVB 0 hF rfl mL_X8_168 mI_X8_dots mS_X8_dots mN_X8 mC_X8_dots rfl hd_X8_dots rfl rfl ⟨Nat.le_of_ble_eq_true rfl, Nat.le_of_ble_eq_true rfl⟩) (kPre hK hP hD [0] (by decide) rfl (q0 := 0) (ci := 8) rfl rfl rfl) rfl rfl hl.1 rfl (lv_room (Nat.le_of_ble_eq_true rfl)) dX8_remove_31 ⟨Nat.le_of_ble_eq_true rfl, Nat.le_of_ble_eq_true rfl⟩) hP hD hS hA [0] [1, 2, 3, 4, 5, 6, 7, 8, 9, 10, 11, 12, 13] rfl rfl (by decide) (by decide) (fun r u H locs hw_15 hP hD hS => ?_)
        have hw_15 := hw_15.symm
        subst hw_15
        have hP : PG G [oC x 8 [.ref ak, .ref am, .ref ao, .ref av, .ref ap, .ref ax, .ref ay, .int (nI ec), .ref ad, .ref an, .ref ab, .int (nI vn), .ref ar, .ref ac, .int us, .int ro, .int pr, .ref at_, .int (nI tn), .ref as_, .int (nI sn), .ref aq, .int (nI s2_5), .int a1_7, .int (nI h2_8), .long z2_9, .int (nI n2_10), .int (zI l2_11), .int (zI e2_12)], aI G ak 40 kF, aI G am 40 mF, aI G ao 40 oF, aI G ap 40 pF, aI G ax 1600 xF, aI G ay 40 (fun lv => nI (LN lv)), aI G ad 80 dF, aJ G an 80 nF, aI G ab 80 bF, aI G ar 4 rF, aI G ac 4 cF, aI G at_ 40 tF, aI G aq 100 q2_6] H := va_P.sub hP [13, 0, 1, 2, 3, 4, 5, 6, 7, 8, 9, 10, 11, 12] rfl
        have hD : va_D A [oC x 8 [.ref ak, .ref am, .ref ao, .ref av, .ref ap, .ref ax, .ref ay, .int (nI ec), .ref ad, .ref an, .ref ab, .int (nI vn), .ref ar, .ref ac, .int us, .int ro, .int pr, .ref at_, .int (nI tn), .ref as_, .int (nI sn), .ref aq, .int (nI s2_5), .int a1_7, .int (nI h2_8), .long z2_9, .int (nI n2_10), .int (zI l2_11), .int (zI e2_12)], aI G ak 40 kF, aI G am 40 mF, aI G ao 40 oF, aI G ap 40 pF, aI G ax 1600 xF, aI G ay 40 (fun lv => nI (LN lv)), aI G ad 80 dF, aJ G an 80 nF, aI G ab 80 bF, aI G ar 4 rF, aI G ac 4 cF, aI G at_ 40 tF, aI G aq 100 q2_6] := va_D.sub hD [13, 0, 1, 2, 3, 4, 5, 6, 7, 8, 9, 10, 11, 12] (by decide) rfl
        refine kIfEqZ (tgt := 40) hF dX8_remove_34 (by decide) (fun c_16 => ?_) (fun c_16 => ?_)
        · refine lv_aload_n hF.1 hF.2.1 dX8_remove_40 rfl (lv_at hl 1 rfl) ?_
          refine lv_aload_n hF.1 hF.2.1 dX8_remove_41 rfl (lv_at hl 1 rfl) ?_
          refine kGet (C := RX8) (T := TX8) (N := 29) (index := 114) hF hK hP (inT inBX8) 0 rfl rfl 23 (by decide) rfl (List.mem_cons_of_mem _ mF_X8_114) rfl dX8_remove_42 ?_
          refine lv_aload_n hF.1 hF.2.1 dX8_remove_45 rfl (lv_at hl 1 rfl) ?_
          refine kGet (C := RX8) (T := TX8) (N := 29) (index := 92) hF hK hP (inT inBX8) 0 rfl rfl 25 (by decide) rfl (List.mem_cons_of_mem _ mF_X8_92) rfl dX8_remove_46 ?_
          refine kCallI (wr := [aI G ak 40 kF, aI G am 40 mF, aI G ao 40 oF, aI G ap 40 pF, aI G ax 1600 xF, aI G ay 40 (fun lv => nI (LN lv)), aI G ab 80 bF, aI G ar 4 rF, aI G ac 4 cF, aI G at_ 40 tF, aI G aq 100 q2_6]) (va_runV (As := [.int a1_7, .long z2_9]) (rest := []) hF (c_X8_find l G H.size x ak am ao av ap ax ay ad an ab ar ac at_ as_ aq ec vn tn sn s2_5 h2_8 n2_10 us ro pr a1_7 z2_9 l2_11 e2_12 dF nF a1_7 z2_9 (by first | assumption | omega)) (cwVB 2 hF rfl mL_X8_132 mI_X8_find mS_X8_find mN_X8 mC_X8_find rfl hd_X8_find rfl rfl ⟨Nat.le_of_ble_eq_true rfl, Nat.le_of_ble_eq_true rfl⟩) (kPre hK hP hD [0, 7, 8] (by decide) rfl (q0 := 0) (ci := 8) rfl rfl rfl) rfl rfl hl.1 rfl (lv_room (Nat.le_of_ble_eq_true rfl)) dX8_remove_49 ⟨Nat.le_of_ble_eq_true rfl, Nat.le_of_ble_eq_true rfl⟩) hP hD hS hA [0, 7, 8] [1, 2, 3, 4, 5, 6, 9, 10, 11, 12, 13] rfl rfl (by decide) (by decide) (fun r u H locs hw_17 hP hD hS => ?_)
          have hw_17 := hw_17.symm
          subst hw_17
          have hP : PG G [oC x 8 [.ref ak, .ref am, .ref ao, .ref av, .ref ap, .ref ax, .ref ay, .int (nI ec), .ref ad, .ref an, .ref ab, .int (nI vn), .ref ar, .ref ac, .int us, .int ro, .int pr, .ref at_, .int (nI tn), .ref as_, .int (nI sn), .ref aq, .int (nI s2_5), .int a1_7, .int (nI h2_8), .long z2_9, .int (nI n2_10), .int (zI l2_11), .int (zI e2_12)], aI G ak 40 kF, aI G am 40 mF, aI G ao 40 oF, aI G ap 40 pF, aI G ax 1600 xF, aI G ay 40 (fun lv => nI (LN lv)), aI G ad 80 dF, aJ G an 80 nF, aI G ab 80 bF, aI G ar 4 rF, aI G ac 4 cF, aI G at_ 40 tF, aI G aq 100 q2_6] H := va_P.sub hP [11, 0, 1, 2, 3, 4, 5, 12, 13, 6, 7, 8, 9, 10] rfl
          have hD : va_D A [oC x 8 [.ref ak, .ref am, .ref ao, .ref av, .ref ap, .ref ax, .ref ay, .int (nI ec), .ref ad, .ref an, .ref ab, .int (nI vn), .ref ar, .ref ac, .int us, .int ro, .int pr, .ref at_, .int (nI tn), .ref as_, .int (nI sn), .ref aq, .int (nI s2_5), .int a1_7, .int (nI h2_8), .long z2_9, .int (nI n2_10), .int (zI l2_11), .int (zI e2_12)], aI G ak 40 kF, aI G am 40 mF, aI G ao 40 oF, aI G ap 40 pF, aI G ax 1600 xF, aI G ay 40 (fun lv => nI (LN lv)), aI G ad 80 dF, aJ G an 80 nF, aI G ab 80 bF, aI G ar 4 rF, aI G ac 4 cF, aI G at_ 40 tF, aI G aq 100 q2_6] := va_D.sub hD [11, 0, 1, 2, 3, 4, 5, 12, 13, 6, 7, 8, 9, 10] (by decide) rfl
          refine lv_istore_n (lv' := [(2, .int (rI (fndE dF nF a1_7 z2_9 ec) ec)), (1, .int r0_4), (0, .ref x)]) hF.1 hF.2.1 dX8_remove_52 rfl hl (by decide) rfl (fun ls hl => ?_)
          refine lv_iload_n hF.1 hF.2.1 dX8_remove_53 rfl (lv_at hl 0 rfl) ?_
          refine lv_if_ge (tgt := 59) hF.1 hF.2.1 dX8_remove_54 (by decide) (fun c_18 => ?_) (fun c_18 => ?_)
          · have hJ0 : fndE dF nF a1_7 z2_9 ec < ec := rI_nn c_18
            rw [rI_t hJ0] at hl
            obtain ⟨JJ, hJJ⟩ : ∃ j, fndE dF nF a1_7 z2_9 ec = j := ⟨_, rfl⟩
            rw [hJJ] at hl
            have hJ : JJ < ec := hJJ ▸ hJ0
            refine lv_aload_n hF.1 hF.2.1 dX8_remove_59 rfl (lv_at hl 2 rfl) ?_
            refine kGet (C := RX8) (T := TX8) (N := 29) (index := 38) hF hK hP (inT inBX8) 0 rfl rfl 10 (by decide) rfl (List.mem_cons_of_mem _ mF_X8_38) rfl dX8_remove_60 ?_
            refine lv_iload_n hF.1 hF.2.1 dX8_remove_63 rfl (lv_at hl 0 rfl) ?_
            refine kIaldN hF hK hP 9 rfl (by omega) (by decide) dX8_remove_64 ?_
            refine lv_istore_n (lv' := [(3, .int (bF JJ)), (2, .int (nI JJ)), (1, .int r0_4), (0, .ref x)]) hF.1 hF.2.1 dX8_remove_65 rfl hl (by decide) rfl (fun ls hl => ?_)
            refine lv_aload_n hF.1 hF.2.1 dX8_remove_66 rfl (lv_at hl 3 rfl) ?_
            refine kGet (C := RX8) (T := TX8) (N := 29) (index := 101) hF hK hP (inT inBX8) 0 rfl rfl 28 (by decide) rfl (List.mem_cons_of_mem _ mF_X8_101) rfl dX8_remove_67 ?_
            refine kIfEqZ (tgt := 86) hF dX8_remove_70 (by decide) (fun c_19 => ?_) (fun c_19 => ?_)
            · refine lv_aload_n hF.1 hF.2.1 dX8_remove_86 rfl (lv_at hl 3 rfl) ?_
              refine lv_aload_n hF.1 hF.2.1 dX8_remove_87 rfl (lv_at hl 3 rfl) ?_
              refine kGet (C := RX8) (T := TX8) (N := 29) (index := 114) hF hK hP (inT inBX8) 0 rfl rfl 23 (by decide) rfl (List.mem_cons_of_mem _ mF_X8_114) rfl dX8_remove_88 ?_
              refine lv_iconst (v := (nI 1)) hF.1 hF.2.1 dX8_remove_91 (by decide) ?_
              refine kCallI (wr := [aI G ak 40 kF, aI G ap 40 pF, aI G ax 1600 xF, aI G ay 40 (fun lv => nI (LN lv)), aI G ad 80 dF, aJ G an 80 nF, aI G ab 80 bF, aI G ar 4 rF, aI G ac 4 cF, aI G at_ 40 tF, aI G aq 100 q2_6]) (va_runV (As := [.int a1_7, .int (nI 1)]) (rest := []) hF (c_X8_may l G H.size x ak am ao av ap ax ay ad an ab ar ac at_ as_ aq ec vn tn sn s2_5 h2_8 n2_10 us ro pr a1_7 z2_9 l2_11 e2_12 mF oF a1_7 (nI 1) (hV)) (cwVB 2 hF rfl mL_X8_120 mI_X8_may mS_X8_may mN_X8 mC_X8_may rfl hd_X8_may rfl rfl ⟨Nat.le_of_ble_eq_true rfl, Nat.le_of_ble_eq_true rfl⟩) (kPre hK hP hD [0, 2, 3] (by decide) rfl (q0 := 0) (ci := 8) rfl rfl rfl) rfl rfl hl.1 rfl (lv_room (Nat.le_of_ble_eq_true rfl)) dX8_remove_92 ⟨Nat.le_of_ble_eq_true rfl, Nat.le_of_ble_eq_true rfl⟩) hP hD hS hA [0, 2, 3] [1, 4, 5, 6, 7, 8, 9, 10, 11, 12, 13] rfl rfl (by decide) (by decide) (fun r u H locs hw_20 hP hD hS => ?_)
              have hw_20 := hw_20.symm
              subst hw_20
              have hP : PG G [oC x 8 [.ref ak, .ref am, .ref ao, .ref av, .ref ap, .ref ax, .ref ay, .int (nI ec), .ref ad, .ref an, .ref ab, .int (nI vn), .ref ar, .ref ac, .int us, .int ro, .int pr, .ref at_, .int (nI tn), .ref as_, .int (nI sn), .ref aq, .int (nI s2_5), .int a1_7, .int (nI h2_8), .long z2_9, .int (nI n2_10), .int (zI l2_11), .int (zI e2_12)], aI G ak 40 kF, aI G am 40 mF, aI G ao 40 oF, aI G ap 40 pF, aI G ax 1600 xF, aI G ay 40 (fun lv => nI (LN lv)), aI G ad 80 dF, aJ G an 80 nF, aI G ab 80 bF, aI G ar 4 rF, aI G ac 4 cF, aI G at_ 40 tF, aI G aq 100 q2_6] H := va_P.sub hP [11, 0, 12, 13, 1, 2, 3, 4, 5, 6, 7, 8, 9, 10] rfl
              have hD : va_D A [oC x 8 [.ref ak, .ref am, .ref ao, .ref av, .ref ap, .ref ax, .ref ay, .int (nI ec), .ref ad, .ref an, .ref ab, .int (nI vn), .ref ar, .ref ac, .int us, .int ro, .int pr, .ref at_, .int (nI tn), .ref as_, .int (nI sn), .ref aq, .int (nI s2_5), .int a1_7, .int (nI h2_8), .long z2_9, .int (nI n2_10), .int (zI l2_11), .int (zI e2_12)], aI G ak 40 kF, aI G am 40 mF, aI G ao 40 oF, aI G ap 40 pF, aI G ax 1600 xF, aI G ay 40 (fun lv => nI (LN lv)), aI G ad 80 dF, aJ G an 80 nF, aI G ab 80 bF, aI G ar 4 rF, aI G ac 4 cF, aI G at_ 40 tF, aI G aq 100 q2_6] := va_D.sub hD [11, 0, 12, 13, 1, 2, 3, 4, 5, 6, 7, 8, 9, 10] (by decide) rfl
              refine kIfNeZ (tgt := 101) hF dX8_remove_95 (by decide) (fun c_21 => ?_) (fun c_21 => ?_)
              · refine lv_aload_n hF.1 hF.2.1 dX8_remove_101 rfl (lv_at hl 3 rfl) ?_
                refine lv_iload_n hF.1 hF.2.1 dX8_remove_102 rfl (lv_at hl 0 rfl) ?_
                refine kCallI (wr := [aI G ak 40 kF, aI G am 40 mF, aI G ao 40 oF, aI G ap 40 pF, aI G ax 1600 xF, aI G ay 40 (fun lv => nI (LN lv)), aI G ad 80 dF, aJ G an 80 nF, aI G ab 80 bF, aI G ar 4 rF, aI G at_ 40 tF, aI G aq 100 q2_6]) (va_runV (As := [.int (bF JJ)]) (rest := []) hF (c_X8_coverOf l G H.size x ak am ao av ap ax ay ad an ab ar ac at_ as_ aq ec vn tn sn s2_5 h2_8 n2_10 us ro pr a1_7 z2_9 l2_11 e2_12 cF (bF JJ) (by first | assumption | omega)) (cwVB 1 hF rfl mL_X8_69 mI_X8_coverOf mS_X8_coverOf mN_X8 mC_X8_coverOf rfl hd_X8_coverOf rfl rfl ⟨Nat.le_of_ble_eq_true rfl, Nat.le_of_ble_eq_true rfl⟩) (kPre hK hP hD [0, 11] (by decide) rfl (q0 := 0) (ci := 8) rfl rfl rfl) rfl rfl hl.1 rfl (lv_room (Nat.le_of_ble_eq_true rfl)) dX8_remove_103 ⟨Nat.le_of_ble_eq_true rfl, Nat.le_of_ble_eq_true rfl⟩) hP hD hS hA [0, 11] [1, 2, 3, 4, 5, 6, 7, 8, 9, 10, 12, 13] rfl rfl (by decide) (by decide) (fun r u H locs hw_22 hP hD hS => ?_)
                have hw_22 := hw_22.symm
                subst hw_22
                have hP : PG G [oC x 8 [.ref ak, .ref am, .ref ao, .ref av, .ref ap, .ref ax, .ref ay, .int (nI ec), .ref ad, .ref an, .ref ab, .int (nI vn), .ref ar, .ref ac, .int us, .int ro, .int pr, .ref at_, .int (nI tn), .ref as_, .int (nI sn), .ref aq, .int (nI s2_5), .int a1_7, .int (nI h2_8), .long z2_9, .int (nI n2_10), .int (zI l2_11), .int (zI e2_12)], aI G ak 40 kF, aI G am 40 mF, aI G ao 40 oF, aI G ap 40 pF, aI G ax 1600 xF, aI G ay 40 (fun lv => nI (LN lv)), aI G ad 80 dF, aJ G an 80 nF, aI G ab 80 bF, aI G ar 4 rF, aI G ac 4 cF, aI G at_ 40 tF, aI G aq 100 q2_6] H := va_P.sub hP [12, 0, 1, 2, 3, 4, 5, 6, 7, 8, 9, 13, 10, 11] rfl
                have hD : va_D A [oC x 8 [.ref ak, .ref am, .ref ao, .ref av, .ref ap, .ref ax, .ref ay, .int (nI ec), .ref ad, .ref an, .ref ab, .int (nI vn), .ref ar, .ref ac, .int us, .int ro, .int pr, .ref at_, .int (nI tn), .ref as_, .int (nI sn), .ref aq, .int (nI s2_5), .int a1_7, .int (nI h2_8), .long z2_9, .int (nI n2_10), .int (zI l2_11), .int (zI e2_12)], aI G ak 40 kF, aI G am 40 mF, aI G ao 40 oF, aI G ap 40 pF, aI G ax 1600 xF, aI G ay 40 (fun lv => nI (LN lv)), aI G ad 80 dF, aJ G an 80 nF, aI G ab 80 bF, aI G ar 4 rF, aI G ac 4 cF, aI G at_ 40 tF, aI G aq 100 q2_6] := va_D.sub hD [12, 0, 1, 2, 3, 4, 5, 6, 7, 8, 9, 13, 10, 11] (by decide) rfl
                have hfc_23 := cvR_lt2 cF (bF JJ) vn (by omega)
                refine kIfGtN (tgt := 125) hF dX8_remove_106 (by decide) (by omega) (fun c_24 => ?_) (fun c_24 => ?_)
                · refine lv_bipush (v := (-7)) hF.1 hF.2.1 dX8_remove_125 (by decide) ?_
                  refine kRetI (v := (-7)) hF hr hlk hK hP hD hS hQ rfl ((-7), ec, dF, nF, bF, kF, s2_5, q2_6, a1_7, h2_8, z2_9, n2_10, l2_11, e2_12) [0, 1, 2, 3, 4, 5, 6, 7, 8, 9, 10, 11, 12, 13] (by decide) rfl (Nat.le_of_ble_eq_true rfl) (Nat.le_of_ble_eq_true rfl) dX8_remove_127 ?_
                  refine ⟨rfl, ?_⟩
                  rw [rmR, if_neg (by omega), pI_f (by assumption), hE, if_pos rfl]
                  dsimp only
                  rw [if_neg (by assumption)]
                  rw [hJJ, if_pos hJ]
                  rw [wnR, pI_f (fun h => c_19 h.1), pI_t c_21, if_pos (Or.inl c_24), rmE, if_neg (by decide)]
                · refine lv_iload_n hF.1 hF.2.1 dX8_remove_109 rfl (lv_at hl 0 rfl) ?_
                  refine lv_aload_n hF.1 hF.2.1 dX8_remove_110 rfl (lv_at hl 3 rfl) ?_
                  refine kGet (C := RX8) (T := TX8) (N := 29) (index := 108) hF hK hP (inT inBX8) 0 rfl rfl 15 (by decide) rfl (List.mem_cons_of_mem _ mF_X8_108) rfl dX8_remove_111 ?_
                  refine lv_icmp_eq (tgt := 125) hF.1 hF.2.1 dX8_remove_114 (by decide) (fun c_25 => ?_) (fun c_25 => ?_)
                  · refine lv_bipush (v := (-7)) hF.1 hF.2.1 dX8_remove_125 (by decide) ?_
                    refine kRetI (v := (-7)) hF hr hlk hK hP hD hS hQ rfl ((-7), ec, dF, nF, bF, kF, s2_5, q2_6, a1_7, h2_8, z2_9, n2_10, l2_11, e2_12) [0, 1, 2, 3, 4, 5, 6, 7, 8, 9, 10, 11, 12, 13] (by decide) rfl (Nat.le_of_ble_eq_true rfl) (Nat.le_of_ble_eq_true rfl) dX8_remove_127 ?_
                    refine ⟨rfl, ?_⟩
                    rw [rmR, if_neg (by omega), pI_f (by assumption), hE, if_pos rfl]
                    dsimp only
                    rw [if_neg (by assumption)]
                    rw [hJJ, if_pos hJ]
                    rw [wnR, pI_f (fun h => c_19 h.1), pI_t c_21, if_pos (Or.inr (Or.inl c_25)), rmE, if_neg (by decide)]
                  · refine lv_iload_n hF.1 hF.2.1 dX8_remove_117 rfl (lv_at hl 0 rfl) ?_
                    refine lv_aload_n hF.1 hF.2.1 dX8_remove_118 rfl (lv_at hl 3 rfl) ?_
                    refine kGet (C := RX8) (T := TX8) (N := 29) (index := 111) hF hK hP (inT inBX8) 0 rfl rfl 16 (by decide) rfl (List.mem_cons_of_mem _ mF_X8_111) rfl dX8_remove_119 ?_
                    refine lv_icmp_ne (tgt := 128) hF.1 hF.2.1 dX8_remove_122 (by decide) (fun c_26 => ?_) (fun c_26 => ?_)
                    · refine lv_aload_n hF.1 hF.2.1 dX8_remove_128 rfl (lv_at hl 3 rfl) ?_
                      refine kGet (C := RX8) (T := TX8) (N := 29) (index := 7) hF hK hP (inT inBX8) 0 rfl rfl 0 (by decide) rfl (List.mem_cons_of_mem _ mF_X8_7) rfl dX8_remove_129 ?_
                      refine lv_iload_n hF.1 hF.2.1 dX8_remove_132 rfl (lv_at hl 0 rfl) ?_
                      refine kIald hF hK hP 1 rfl (hbr _ hJ) dX8_remove_133 ?_
                      refine lv_iconst (v := (nI 1)) hF.1 hF.2.1 dX8_remove_134 (by decide) ?_
                      refine lv_icmp_ne (tgt := 149) hF.1 hF.2.1 dX8_remove_135 (by decide) (fun c_27 => ?_) (fun c_27 => ?_)
                      · refine lv_aload_n hF.1 hF.2.1 dX8_remove_149 rfl (lv_at hl 3 rfl) ?_
                        refine lv_aload_n hF.1 hF.2.1 dX8_remove_150 rfl (lv_at hl 3 rfl) ?_
                        refine kGet (C := RX8) (T := TX8) (N := 29) (index := 82) hF hK hP (inT inBX8) 0 rfl rfl 7 (by decide) rfl (List.mem_cons_of_mem _ mF_X8_82) rfl dX8_remove_151 ?_
                        refine lv_iconst (v := (nI 1)) hF.1 hF.2.1 dX8_remove_154 (by decide) ?_
                        refine lv_isub hF.1 hF.2.1 dX8_remove_155 ?_
                        refine kTop (y := (nI (ec - 1))) (pk_sub (by omega)) ?_
                        refine kPut (C := RX8) (T := TX8) (N := 29) (index := 82) (v := .int (nI (ec - 1))) hF hK hP hD hS (inT inBX8) tyX8_ok nmX8 0 rfl rfl 7 (by decide) rfl (List.mem_cons_of_mem _ mF_X8_82) rfl rfl rfl (Nat.le_of_ble_eq_true rfl) dX8_remove_156 (fun H locs hP hD hS => ?_)
                        have hP : PG G [oC x 8 [.ref ak, .ref am, .ref ao, .ref av, .ref ap, .ref ax, .ref ay, .int (nI (ec - 1)), .ref ad, .ref an, .ref ab, .int (nI vn), .ref ar, .ref ac, .int us, .int ro, .int pr, .ref at_, .int (nI tn), .ref as_, .int (nI sn), .ref aq, .int (nI s2_5), .int a1_7, .int (nI h2_8), .long z2_9, .int (nI n2_10), .int (zI l2_11), .int (zI e2_12)], aI G ak 40 kF, aI G am 40 mF, aI G ao 40 oF, aI G ap 40 pF, aI G ax 1600 xF, aI G ay 40 (fun lv => nI (LN lv)), aI G ad 80 dF, aJ G an 80 nF, aI G ab 80 bF, aI G ar 4 rF, aI G ac 4 cF, aI G at_ 40 tF, aI G aq 100 q2_6] H := hP
                        have hD : va_D A [oC x 8 [.ref ak, .ref am, .ref ao, .ref av, .ref ap, .ref ax, .ref ay, .int (nI (ec - 1)), .ref ad, .ref an, .ref ab, .int (nI vn), .ref ar, .ref ac, .int us, .int ro, .int pr, .ref at_, .int (nI tn), .ref as_, .int (nI sn), .ref aq, .int (nI s2_5), .int a1_7, .int (nI h2_8), .long z2_9, .int (nI n2_10), .int (zI l2_11), .int (zI e2_12)], aI G ak 40 kF, aI G am 40 mF, aI G ao 40 oF, aI G ap 40 pF, aI G ax 1600 xF, aI G ay 40 (fun lv => nI (LN lv)), aI G ad 80 dF, aJ G an 80 nF, aI G ab 80 bF, aI G ar 4 rF, aI G ac 4 cF, aI G at_ 40 tF, aI G aq 100 q2_6] := hD
                        refine lv_iload_n hF.1 hF.2.1 dX8_remove_159 rfl (lv_at hl 1 rfl) ?_
                        refine lv_istore (lv' := [(4, .int (nI JJ)), (3, .int (bF JJ)), (2, .int (nI JJ)), (1, .int r0_4), (0, .ref x)]) hF.1 hF.2.1 dX8_remove_160 hl (by decide) rfl (fun ls hl => ?_)
                        have loop_162 : ∀ (n_162 : Nat) (k : Nat) (d1 : Nat → Int32) (n1 : Nat → Int64) (b1 : Nat → Int32), ec - k < n_162 → (JJ ≤ k ∧ k ≤ ec - 1) → (d1 = shf dF JJ k) → (n1 = shf nF JJ k) → (b1 = shf bF JJ k) → ∀ (H : Heap) (locs : List Loc) (ls : Array Slot), PG G [oC x 8 [.ref ak, .ref am, .ref ao, .ref av, .ref ap, .ref ax, .ref ay, .int (nI (ec - 1)), .ref ad, .ref an, .ref ab, .int (nI vn), .ref ar, .ref ac, .int us, .int ro, .int pr, .ref at_, .int (nI tn), .ref as_, .int (nI sn), .ref aq, .int (nI s2_5), .int a1_7, .int (nI h2_8), .long z2_9, .int (nI n2_10), .int (zI l2_11), .int (zI e2_12)], aI G ak 40 kF, aI G am 40 mF, aI G ao 40 oF, aI G ap 40 pF, aI G ax 1600 xF, aI G ay 40 (fun lv => nI (LN lv)), aI G ad 80 d1, aJ G an 80 n1, aI G ab 80 b1, aI G ar 4 rF, aI G ac 4 cF, aI G at_ 40 tF, aI G aq 100 q2_6] H → va_D A [oC x 8 [.ref ak, .ref am, .ref ao, .ref av, .ref ap, .ref ax, .ref ay, .int (nI (ec - 1)), .ref ad, .ref an, .ref ab, .int (nI vn), .ref ar, .ref ac, .int us, .int ro, .int pr, .ref at_, .int (nI tn), .ref as_, .int (nI sn), .ref aq, .int (nI s2_5), .int a1_7, .int (nI h2_8), .long z2_9, .int (nI n2_10), .int (zI l2_11), .int (zI e2_12)], aI G ak 40 kF, aI G am 40 mF, aI G ao 40 oF, aI G ap 40 pF, aI G ax 1600 xF, aI G ay 40 (fun lv => nI (LN lv)), aI G ad 80 d1, aJ G an 80 n1, aI G ab 80 b1, aI G ar 4 rF, aI G ac 4 cF, aI G at_ 40 tF, aI G aq 100 q2_6] → va_S A s.heap H locs → lv_has ls 5 [(4, .int (nI k)), (3, .int (bF JJ)), (2, .int (nI JJ)), (1, .int r0_4), (0, .ref x)] → W p l e (Rm 5 0 0 113) s m args below meth c H locs 0 0 Q (F0 m 162 ls []) := by
                          intro n_162
                          induction n_162 with
                          | zero => intro k d1 n1 b1 hm; exact absurd hm (Nat.not_lt_zero _)
                          | succ n_162 ih_162 =>
                            intro k d1 n1 b1 hm_162 hk hd1 hn1 hb1 H locs ls hP hD hS hl
                            refine lv_iload hF.1 hF.2.1 dX8_remove_162 (lv_at hl 0 rfl) ?_
                            refine lv_aload_n hF.1 hF.2.1 dX8_remove_164 rfl (lv_at hl 4 rfl) ?_
                            refine kGet (C := RX8) (T := TX8) (N := 29) (index := 82) hF hK hP (inT inBX8) 0 rfl rfl 7 (by decide) rfl (List.mem_cons_of_mem _ mF_X8_82) rfl dX8_remove_165 ?_
                            refine kGeN (tgt := 225) hF dX8_remove_168 (by decide) (by omega) (by omega) (fun c_28 => ?_) (fun c_28 => ?_)
                            · rw [hd1, hn1, hb1, show k = ec - 1 by omega] at hP hD
                              refine lv_aload_n hF.1 hF.2.1 dX8_remove_225 rfl (lv_at hl 4 rfl) ?_
                              refine kGet (C := RX8) (T := TX8) (N := 29) (index := 7) hF hK hP (inT inBX8) 0 rfl rfl 0 (by decide) rfl (List.mem_cons_of_mem _ mF_X8_7) rfl dX8_remove_226 ?_
                              refine lv_iload_n hF.1 hF.2.1 dX8_remove_229 rfl (lv_at hl 1 rfl) ?_
                              refine lv_aload_n hF.1 hF.2.1 dX8_remove_230 rfl (lv_at hl 4 rfl) ?_
                              refine lv_iload_n hF.1 hF.2.1 dX8_remove_231 rfl (lv_at hl 1 rfl) ?_
                              refine kCallI (wr := [aI G ak 40 kF, aI G am 40 mF, aI G ao 40 oF, aI G ap 40 pF, aI G ax 1600 xF, aI G ay 40 (fun lv => nI (LN lv)), aI G ad 80 (shf dF JJ (ec - 1)), aJ G an 80 (shf nF JJ (ec - 1)), aI G ar 4 rF, aI G ac 4 cF, aI G at_ 40 tF, aI G aq 100 q2_6]) (va_runV (As := [.int (bF JJ)]) (rest := [.int (bF JJ), .ref ak]) hF (c_X8_entriesFor l G H.size x ak am ao av ap ax ay ad an ab ar ac at_ as_ aq (ec - 1) vn tn sn s2_5 h2_8 n2_10 us ro pr a1_7 z2_9 l2_11 e2_12 (shf bF JJ (ec - 1)) (bF JJ) (by first | assumption | omega)) (cwVB 1 hF rfl mL_X8_183 mI_X8_entriesFor mS_X8_entriesFor mN_X8 mC_X8_entriesFor rfl hd_X8_entriesFor rfl rfl ⟨Nat.le_of_ble_eq_true rfl, Nat.le_of_ble_eq_true rfl⟩) (kPre hK hP hD [0, 9] (by decide) rfl (q0 := 0) (ci := 8) rfl rfl rfl) rfl rfl hl.1 rfl (lv_room (Nat.le_of_ble_eq_true rfl)) dX8_remove_232 ⟨Nat.le_of_ble_eq_true rfl, Nat.le_of_ble_eq_true rfl⟩) hP hD hS hA [0, 9] [1, 2, 3, 4, 5, 6, 7, 8, 10, 11, 12, 13] rfl rfl (by decide) (by decide) (fun r u H locs hw_29 hP hD hS => ?_)
                              have hw_29 := hw_29.symm
                              subst hw_29
                              have hP : PG G [oC x 8 [.ref ak, .ref am, .ref ao, .ref av, .ref ap, .ref ax, .ref ay, .int (nI (ec - 1)), .ref ad, .ref an, .ref ab, .int (nI vn), .ref ar, .ref ac, .int us, .int ro, .int pr, .ref at_, .int (nI tn), .ref as_, .int (nI sn), .ref aq, .int (nI s2_5), .int a1_7, .int (nI h2_8), .long z2_9, .int (nI n2_10), .int (zI l2_11), .int (zI e2_12)], aI G ak 40 kF, aI G am 40 mF, aI G ao 40 oF, aI G ap 40 pF, aI G ax 1600 xF, aI G ay 40 (fun lv => nI (LN lv)), aI G ad 80 (shf dF JJ (ec - 1)), aJ G an 80 (shf nF JJ (ec - 1)), aI G ab 80 (shf bF JJ (ec - 1)), aI G ar 4 rF, aI G ac 4 cF, aI G at_ 40 tF, aI G aq 100 q2_6] H := va_P.sub hP [12, 0, 1, 2, 3, 4, 5, 6, 7, 13, 8, 9, 10, 11] rfl
                              have hD : va_D A [oC x 8 [.ref ak, .ref am, .ref ao, .ref av, .ref ap, .ref ax, .ref ay, .int (nI (ec - 1)), .ref ad, .ref an, .ref ab, .int (nI vn), .ref ar, .ref ac, .int us, .int ro, .int pr, .ref at_, .int (nI tn), .ref as_, .int (nI sn), .ref aq, .int (nI s2_5), .int a1_7, .int (nI h2_8), .long z2_9, .int (nI n2_10), .int (zI l2_11), .int (zI e2_12)], aI G ak 40 kF, aI G am 40 mF, aI G ao 40 oF, aI G ap 40 pF, aI G ax 1600 xF, aI G ay 40 (fun lv => nI (LN lv)), aI G ad 80 (shf dF JJ (ec - 1)), aJ G an 80 (shf nF JJ (ec - 1)), aI G ab 80 (shf bF JJ (ec - 1)), aI G ar 4 rF, aI G ac 4 cF, aI G at_ 40 tF, aI G aq 100 q2_6] := va_D.sub hD [12, 0, 1, 2, 3, 4, 5, 6, 7, 13, 8, 9, 10, 11] (by decide) rfl
                              have hfc_30 := cntB_le (p := fun j => decide ((shf bF JJ (ec - 1)) j = (bF JJ))) (ec - 1)
                              refine kIfNeN (tgt := 242) hF dX8_remove_235 (by decide) (by omega) (fun c_31 => ?_) (fun c_31 => ?_)
                              · refine lv_aload_n hF.1 hF.2.1 dX8_remove_242 rfl (lv_at hl 4 rfl) ?_
                                refine kGet (C := RX8) (T := TX8) (N := 29) (index := 7) hF hK hP (inT inBX8) 0 rfl rfl 0 (by decide) rfl (List.mem_cons_of_mem _ mF_X8_7) rfl dX8_remove_243 ?_
                                refine lv_iload_n hF.1 hF.2.1 dX8_remove_246 rfl (lv_at hl 1 rfl) ?_
                                refine kIald hF hK hP 1 rfl (hbr _ hJ) dX8_remove_247 ?_
                                refine kIast hF hK hP hD hS 1 rfl (hbr _ hJ) dX8_remove_248 (fun H locs hP hD hS => ?_)
                                have hP : PG G [oC x 8 [.ref ak, .ref am, .ref ao, .ref av, .ref ap, .ref ax, .ref ay, .int (nI (ec - 1)), .ref ad, .ref an, .ref ab, .int (nI vn), .ref ar, .ref ac, .int us, .int ro, .int pr, .ref at_, .int (nI tn), .ref as_, .int (nI sn), .ref aq, .int (nI s2_5), .int a1_7, .int (nI h2_8), .long z2_9, .int (nI n2_10), .int (zI l2_11), .int (zI e2_12)], aI G ak 40 (upd kF (ix (bF JJ)) (kF (ix (bF JJ)))), aI G am 40 mF, aI G ao 40 oF, aI G ap 40 pF, aI G ax 1600 xF, aI G ay 40 (fun lv => nI (LN lv)), aI G ad 80 (shf dF JJ (ec - 1)), aJ G an 80 (shf nF JJ (ec - 1)), aI G ab 80 (shf bF JJ (ec - 1)), aI G ar 4 rF, aI G ac 4 cF, aI G at_ 40 tF, aI G aq 100 q2_6] H := hP
                                have hD : va_D A [oC x 8 [.ref ak, .ref am, .ref ao, .ref av, .ref ap, .ref ax, .ref ay, .int (nI (ec - 1)), .ref ad, .ref an, .ref ab, .int (nI vn), .ref ar, .ref ac, .int us, .int ro, .int pr, .ref at_, .int (nI tn), .ref as_, .int (nI sn), .ref aq, .int (nI s2_5), .int a1_7, .int (nI h2_8), .long z2_9, .int (nI n2_10), .int (zI l2_11), .int (zI e2_12)], aI G ak 40 (upd kF (ix (bF JJ)) (kF (ix (bF JJ)))), aI G am 40 mF, aI G ao 40 oF, aI G ap 40 pF, aI G ax 1600 xF, aI G ay 40 (fun lv => nI (LN lv)), aI G ad 80 (shf dF JJ (ec - 1)), aJ G an 80 (shf nF JJ (ec - 1)), aI G ab 80 (shf bF JJ (ec - 1)), aI G ar 4 rF, aI G ac 4 cF, aI G at_ 40 tF, aI G aq 100 q2_6] := hD
                                refine lv_iload_n hF.1 hF.2.1 dX8_remove_249 rfl (lv_at hl 1 rfl) ?_
                                refine kRetI (v := (bF JJ)) hF hr hlk hK hP hD hS hQ rfl ((bF JJ), (ec - 1), shf dF JJ (ec - 1), shf nF JJ (ec - 1), (shf bF JJ (ec - 1)), upd kF (ix (bF JJ)) (kF (ix (bF JJ))), s2_5, q2_6, a1_7, h2_8, z2_9, n2_10, l2_11, e2_12) [0, 1, 2, 3, 4, 5, 6, 7, 8, 9, 10, 11, 12, 13] (by decide) rfl (Nat.le_of_ble_eq_true rfl) (Nat.le_of_ble_eq_true rfl) dX8_remove_250 ?_
                                refine ⟨rfl, ?_⟩
                                rw [rmR, if_neg (by omega), pI_f (by assumption), hE, if_pos rfl]
                                dsimp only
                                rw [if_neg (by assumption)]
                                rw [hJJ, if_pos hJ]
                                rw [wnR, pI_f (fun h => c_19 h.1), pI_t c_21, if_neg (fun h => by rcases h with h | h | h; omega; exact c_25 h; exact c_26 h), if_neg (fun h => c_27 h.1), rmE, if_pos rfl]
                                rw [if_neg (by omega)]
                              · refine lv_iconst (v := (nI 0)) hF.1 hF.2.1 dX8_remove_238 (by decide) ?_
                                refine lv_goto (tgt := 248) hF.1 hF.2.1 dX8_remove_239 (by decide) ?_
                                refine kIast hF hK hP hD hS 1 rfl (hbr _ hJ) dX8_remove_248 (fun H locs hP hD hS => ?_)
                                have hP : PG G [oC x 8 [.ref ak, .ref am, .ref ao, .ref av, .ref ap, .ref ax, .ref ay, .int (nI (ec - 1)), .ref ad, .ref an, .ref ab, .int (nI vn), .ref ar, .ref ac, .int us, .int ro, .int pr, .ref at_, .int (nI tn), .ref as_, .int (nI sn), .ref aq, .int (nI s2_5), .int a1_7, .int (nI h2_8), .long z2_9, .int (nI n2_10), .int (zI l2_11), .int (zI e2_12)], aI G ak 40 (upd kF (ix (bF JJ)) (nI 0)), aI G am 40 mF, aI G ao 40 oF, aI G ap 40 pF, aI G ax 1600 xF, aI G ay 40 (fun lv => nI (LN lv)), aI G ad 80 (shf dF JJ (ec - 1)), aJ G an 80 (shf nF JJ (ec - 1)), aI G ab 80 (shf bF JJ (ec - 1)), aI G ar 4 rF, aI G ac 4 cF, aI G at_ 40 tF, aI G aq 100 q2_6] H := hP
                                have hD : va_D A [oC x 8 [.ref ak, .ref am, .ref ao, .ref av, .ref ap, .ref ax, .ref ay, .int (nI (ec - 1)), .ref ad, .ref an, .ref ab, .int (nI vn), .ref ar, .ref ac, .int us, .int ro, .int pr, .ref at_, .int (nI tn), .ref as_, .int (nI sn), .ref aq, .int (nI s2_5), .int a1_7, .int (nI h2_8), .long z2_9, .int (nI n2_10), .int (zI l2_11), .int (zI e2_12)], aI G ak 40 (upd kF (ix (bF JJ)) (nI 0)), aI G am 40 mF, aI G ao 40 oF, aI G ap 40 pF, aI G ax 1600 xF, aI G ay 40 (fun lv => nI (LN lv)), aI G ad 80 (shf dF JJ (ec - 1)), aJ G an 80 (shf nF JJ (ec - 1)), aI G ab 80 (shf bF JJ (ec - 1)), aI G ar 4 rF, aI G ac 4 cF, aI G at_ 40 tF, aI G aq 100 q2_6] := hD
                                refine lv_iload_n hF.1 hF.2.1 dX8_remove_249 rfl (lv_at hl 1 rfl) ?_
                                refine kRetI (v := (bF JJ)) hF hr hlk hK hP hD hS hQ rfl ((bF JJ), (ec - 1), shf dF JJ (ec - 1), shf nF JJ (ec - 1), (shf bF JJ (ec - 1)), upd kF (ix (bF JJ)) (nI 0), s2_5, q2_6, a1_7, h2_8, z2_9, n2_10, l2_11, e2_12) [0, 1, 2, 3, 4, 5, 6, 7, 8, 9, 10, 11, 12, 13] (by decide) rfl (Nat.le_of_ble_eq_true rfl) (Nat.le_of_ble_eq_true rfl) dX8_remove_250 ?_
                                refine ⟨rfl, ?_⟩
                                rw [rmR, if_neg (by omega), pI_f (by assumption), hE, if_pos rfl]
                                dsimp only
                                rw [if_neg (by assumption)]
                                rw [hJJ, if_pos hJ]
                                rw [wnR, pI_f (fun h => c_19 h.1), pI_t c_21, if_neg (fun h => by rcases h with h | h | h; omega; exact c_25 h; exact c_26 h), if_neg (fun h => c_27 h.1), rmE, if_pos rfl]
                                rw [if_pos c_31]
                            · refine lv_aload_n hF.1 hF.2.1 dX8_remove_171 rfl (lv_at hl 4 rfl) ?_
                              refine kGet (C := RX8) (T := TX8) (N := 29) (index := 31) hF hK hP (inT inBX8) 0 rfl rfl 8 (by decide) rfl (List.mem_cons_of_mem _ mF_X8_31) rfl dX8_remove_172 ?_
                              refine lv_iload hF.1 hF.2.1 dX8_remove_175 (lv_at hl 0 rfl) ?_
                              refine lv_aload_n hF.1 hF.2.1 dX8_remove_177 rfl (lv_at hl 4 rfl) ?_
                              refine kGet (C := RX8) (T := TX8) (N := 29) (index := 31) hF hK hP (inT inBX8) 0 rfl rfl 8 (by decide) rfl (List.mem_cons_of_mem _ mF_X8_31) rfl dX8_remove_178 ?_
                              refine lv_iload hF.1 hF.2.1 dX8_remove_181 (lv_at hl 0 rfl) ?_
                              refine lv_iconst (v := (nI 1)) hF.1 hF.2.1 dX8_remove_183 (by decide) ?_
                              refine lv_iadd hF.1 hF.2.1 dX8_remove_184 ?_
                              refine kTop (y := (nI (k + 1))) (nI_add _ _) ?_
                              refine kIaldN hF hK hP 7 rfl (by omega) (by decide) dX8_remove_185 ?_
                              refine kIastN hF hK hP hD hS 7 rfl (by omega) (by decide) dX8_remove_186 (fun H locs hP hD hS => ?_)
                              have hP : PG G [oC x 8 [.ref ak, .ref am, .ref ao, .ref av, .ref ap, .ref ax, .ref ay, .int (nI (ec - 1)), .ref ad, .ref an, .ref ab, .int (nI vn), .ref ar, .ref ac, .int us, .int ro, .int pr, .ref at_, .int (nI tn), .ref as_, .int (nI sn), .ref aq, .int (nI s2_5), .int a1_7, .int (nI h2_8), .long z2_9, .int (nI n2_10), .int (zI l2_11), .int (zI e2_12)], aI G ak 40 kF, aI G am 40 mF, aI G ao 40 oF, aI G ap 40 pF, aI G ax 1600 xF, aI G ay 40 (fun lv => nI (LN lv)), aI G ad 80 (upd d1 k (d1 (k + 1))), aJ G an 80 n1, aI G ab 80 b1, aI G ar 4 rF, aI G ac 4 cF, aI G at_ 40 tF, aI G aq 100 q2_6] H := hP
                              have hD : va_D A [oC x 8 [.ref ak, .ref am, .ref ao, .ref av, .ref ap, .ref ax, .ref ay, .int (nI (ec - 1)), .ref ad, .ref an, .ref ab, .int (nI vn), .ref ar, .ref ac, .int us, .int ro, .int pr, .ref at_, .int (nI tn), .ref as_, .int (nI sn), .ref aq, .int (nI s2_5), .int a1_7, .int (nI h2_8), .long z2_9, .int (nI n2_10), .int (zI l2_11), .int (zI e2_12)], aI G ak 40 kF, aI G am 40 mF, aI G ao 40 oF, aI G ap 40 pF, aI G ax 1600 xF, aI G ay 40 (fun lv => nI (LN lv)), aI G ad 80 (upd d1 k (d1 (k + 1))), aJ G an 80 n1, aI G ab 80 b1, aI G ar 4 rF, aI G ac 4 cF, aI G at_ 40 tF, aI G aq 100 q2_6] := hD
                              refine lv_aload_n hF.1 hF.2.1 dX8_remove_187 rfl (lv_at hl 4 rfl) ?_
                              refine kGet (C := RX8) (T := TX8) (N := 29) (index := 34) hF hK hP (inT inBX8) 0 rfl rfl 9 (by decide) rfl (List.mem_cons_of_mem _ mF_X8_34) rfl dX8_remove_188 ?_
                              refine lv_iload hF.1 hF.2.1 dX8_remove_191 (lv_at hl 0 rfl) ?_
                              refine lv_aload_n hF.1 hF.2.1 dX8_remove_193 rfl (lv_at hl 4 rfl) ?_
                              refine kGet (C := RX8) (T := TX8) (N := 29) (index := 34) hF hK hP (inT inBX8) 0 rfl rfl 9 (by decide) rfl (List.mem_cons_of_mem _ mF_X8_34) rfl dX8_remove_194 ?_
                              refine lv_iload hF.1 hF.2.1 dX8_remove_197 (lv_at hl 0 rfl) ?_
                              refine lv_iconst (v := (nI 1)) hF.1 hF.2.1 dX8_remove_199 (by decide) ?_
                              refine lv_iadd hF.1 hF.2.1 dX8_remove_200 ?_
                              refine kTop (y := (nI (k + 1))) (nI_add _ _) ?_
                              refine kLaldN hF hK hP 8 rfl (by omega) (by decide) dX8_remove_201 ?_
                              refine kLastN hF hK hP hD hS 8 rfl (by omega) (by decide) dX8_remove_202 (fun H locs hP hD hS => ?_)
                              have hP : PG G [oC x 8 [.ref ak, .ref am, .ref ao, .ref av, .ref ap, .ref ax, .ref ay, .int (nI (ec - 1)), .ref ad, .ref an, .ref ab, .int (nI vn), .ref ar, .ref ac, .int us, .int ro, .int pr, .ref at_, .int (nI tn), .ref as_, .int (nI sn), .ref aq, .int (nI s2_5), .int a1_7, .int (nI h2_8), .long z2_9, .int (nI n2_10), .int (zI l2_11), .int (zI e2_12)], aI G ak 40 kF, aI G am 40 mF, aI G ao 40 oF, aI G ap 40 pF, aI G ax 1600 xF, aI G ay 40 (fun lv => nI (LN lv)), aI G ad 80 (upd d1 k (d1 (k + 1))), aJ G an 80 (vp_updL n1 k (n1 (k + 1))), aI G ab 80 b1, aI G ar 4 rF, aI G ac 4 cF, aI G at_ 40 tF, aI G aq 100 q2_6] H := hP
                              have hD : va_D A [oC x 8 [.ref ak, .ref am, .ref ao, .ref av, .ref ap, .ref ax, .ref ay, .int (nI (ec - 1)), .ref ad, .ref an, .ref ab, .int (nI vn), .ref ar, .ref ac, .int us, .int ro, .int pr, .ref at_, .int (nI tn), .ref as_, .int (nI sn), .ref aq, .int (nI s2_5), .int a1_7, .int (nI h2_8), .long z2_9, .int (nI n2_10), .int (zI l2_11), .int (zI e2_12)], aI G ak 40 kF, aI G am 40 mF, aI G ao 40 oF, aI G ap 40 pF, aI G ax 1600 xF, aI G ay 40 (fun lv => nI (LN lv)), aI G ad 80 (upd d1 k (d1 (k + 1))), aJ G an 80 (vp_updL n1 k (n1 (k + 1))), aI G ab 80 b1, aI G ar 4 rF, aI G ac 4 cF, aI G at_ 40 tF, aI G aq 100 q2_6] := hD
                              refine lv_aload_n hF.1 hF.2.1 dX8_remove_203 rfl (lv_at hl 4 rfl) ?_
                              refine kGet (C := RX8) (T := TX8) (N := 29) (index := 38) hF hK hP (inT inBX8) 0 rfl rfl 10 (by decide) rfl (List.mem_cons_of_mem _ mF_X8_38) rfl dX8_remove_204 ?_
                              refine lv_iload hF.1 hF.2.1 dX8_remove_207 (lv_at hl 0 rfl) ?_
                              refine lv_aload_n hF.1 hF.2.1 dX8_remove_209 rfl (lv_at hl 4 rfl) ?_
                              refine kGet (C := RX8) (T := TX8) (N := 29) (index := 38) hF hK hP (inT inBX8) 0 rfl rfl 10 (by decide) rfl (List.mem_cons_of_mem _ mF_X8_38) rfl dX8_remove_210 ?_
                              refine lv_iload hF.1 hF.2.1 dX8_remove_213 (lv_at hl 0 rfl) ?_
                              refine lv_iconst (v := (nI 1)) hF.1 hF.2.1 dX8_remove_215 (by decide) ?_
                              refine lv_iadd hF.1 hF.2.1 dX8_remove_216 ?_
                              refine kTop (y := (nI (k + 1))) (nI_add _ _) ?_
                              refine kIaldN hF hK hP 9 rfl (by omega) (by decide) dX8_remove_217 ?_
                              refine kIastN hF hK hP hD hS 9 rfl (by omega) (by decide) dX8_remove_218 (fun H locs hP hD hS => ?_)
                              have hP : PG G [oC x 8 [.ref ak, .ref am, .ref ao, .ref av, .ref ap, .ref ax, .ref ay, .int (nI (ec - 1)), .ref ad, .ref an, .ref ab, .int (nI vn), .ref ar, .ref ac, .int us, .int ro, .int pr, .ref at_, .int (nI tn), .ref as_, .int (nI sn), .ref aq, .int (nI s2_5), .int a1_7, .int (nI h2_8), .long z2_9, .int (nI n2_10), .int (zI l2_11), .int (zI e2_12)], aI G ak 40 kF, aI G am 40 mF, aI G ao 40 oF, aI G ap 40 pF, aI G ax 1600 xF, aI G ay 40 (fun lv => nI (LN lv)), aI G ad 80 (upd d1 k (d1 (k + 1))), aJ G an 80 (vp_updL n1 k (n1 (k + 1))), aI G ab 80 (upd b1 k (b1 (k + 1))), aI G ar 4 rF, aI G ac 4 cF, aI G at_ 40 tF, aI G aq 100 q2_6] H := hP
                              have hD : va_D A [oC x 8 [.ref ak, .ref am, .ref ao, .ref av, .ref ap, .ref ax, .ref ay, .int (nI (ec - 1)), .ref ad, .ref an, .ref ab, .int (nI vn), .ref ar, .ref ac, .int us, .int ro, .int pr, .ref at_, .int (nI tn), .ref as_, .int (nI sn), .ref aq, .int (nI s2_5), .int a1_7, .int (nI h2_8), .long z2_9, .int (nI n2_10), .int (zI l2_11), .int (zI e2_12)], aI G ak 40 kF, aI G am 40 mF, aI G ao 40 oF, aI G ap 40 pF, aI G ax 1600 xF, aI G ay 40 (fun lv => nI (LN lv)), aI G ad 80 (upd d1 k (d1 (k + 1))), aJ G an 80 (vp_updL n1 k (n1 (k + 1))), aI G ab 80 (upd b1 k (b1 (k + 1))), aI G ar 4 rF, aI G ac 4 cF, aI G at_ 40 tF, aI G aq 100 q2_6] := hD
                              refine lv_iinc (v := (nI (k + 1))) (lv' := [(4, .int (nI (k + 1))), (3, .int (bF JJ)), (2, .int (nI JJ)), (1, .int r0_4), (0, .ref x)]) hF.1 hF.2.1 dX8_remove_219 hl (k := 0) rfl (nI_inc1 _) (by decide) rfl (fun ls hl => ?_)
                              refine lv_goto (tgt := 162) hF.1 hF.2.1 dX8_remove_222 (by decide) ?_
                              exact ih_162 (k + 1) (upd d1 k (d1 (k + 1))) (vp_updL n1 k (n1 (k + 1))) (upd b1 k (b1 (k + 1))) (by omega) (by omega) (by rw [hd1]; exact shf_s (by omega)) (by rw [hn1]; exact shf_sL (by omega)) (by rw [hb1]; exact shf_s (by omega)) H locs ls hP hD hS (lv_sub hl [0, 1, 2, 3, 4] rfl)
                        exact loop_162 _ JJ dF nF bF (Nat.lt_succ_self _) (by omega) ((shf_0 _ _).symm) ((shf_0 _ _).symm) ((shf_0 _ _).symm) _ _ _ hP hD hS (lv_sub hl [0, 1, 2, 3, 4] rfl)
                      · refine lv_aload_n hF.1 hF.2.1 dX8_remove_138 rfl (lv_at hl 3 rfl) ?_
                        refine lv_iload_n hF.1 hF.2.1 dX8_remove_139 rfl (lv_at hl 0 rfl) ?_
                        refine kCallI (wr := [aI G ak 40 kF, aI G am 40 mF, aI G ao 40 oF, aI G ap 40 pF, aI G ax 1600 xF, aI G ay 40 (fun lv => nI (LN lv)), aJ G an 80 nF, aI G ab 80 bF, aI G ar 4 rF, aI G ac 4 cF, aI G at_ 40 tF, aI G aq 100 q2_6]) (va_runV (As := [.int (bF JJ)]) (rest := []) hF (c_X8_entriesOf l G H.size x ak am ao av ap ax ay ad an ab ar ac at_ as_ aq ec vn tn sn s2_5 h2_8 n2_10 us ro pr a1_7 z2_9 l2_11 e2_12 dF (bF JJ) (by first | assumption | omega)) (cwVB 1 hF rfl mL_X8_180 mI_X8_entriesOf mS_X8_entriesOf mN_X8 mC_X8_entriesOf rfl hd_X8_entriesOf rfl rfl ⟨Nat.le_of_ble_eq_true rfl, Nat.le_of_ble_eq_true rfl⟩) (kPre hK hP hD [0, 7] (by decide) rfl (q0 := 0) (ci := 8) rfl rfl rfl) rfl rfl hl.1 rfl (lv_room (Nat.le_of_ble_eq_true rfl)) dX8_remove_140 ⟨Nat.le_of_ble_eq_true rfl, Nat.le_of_ble_eq_true rfl⟩) hP hD hS hA [0, 7] [1, 2, 3, 4, 5, 6, 8, 9, 10, 11, 12, 13] rfl rfl (by decide) (by decide) (fun r u H locs hw_32 hP hD hS => ?_)
                        have hw_32 := hw_32.symm
                        subst hw_32
                        have hP : PG G [oC x 8 [.ref ak, .ref am, .ref ao, .ref av, .ref ap, .ref ax, .ref ay, .int (nI ec), .ref ad, .ref an, .ref ab, .int (nI vn), .ref ar, .ref ac, .int us, .int ro, .int pr, .ref at_, .int (nI tn), .ref as_, .int (nI sn), .ref aq, .int (nI s2_5), .int a1_7, .int (nI h2_8), .long z2_9, .int (nI n2_10), .int (zI l2_11), .int (zI e2_12)], aI G ak 40 kF, aI G am 40 mF, aI G ao 40 oF, aI G ap 40 pF, aI G ax 1600 xF, aI G ay 40 (fun lv => nI (LN lv)), aI G ad 80 dF, aJ G an 80 nF, aI G ab 80 bF, aI G ar 4 rF, aI G ac 4 cF, aI G at_ 40 tF, aI G aq 100 q2_6] H := va_P.sub hP [12, 0, 1, 2, 3, 4, 5, 13, 6, 7, 8, 9, 10, 11] rfl
                        have hD : va_D A [oC x 8 [.ref ak, .ref am, .ref ao, .ref av, .ref ap, .ref ax, .ref ay, .int (nI ec), .ref ad, .ref an, .ref ab, .int (nI vn), .ref ar, .ref ac, .int us, .int ro, .int pr, .ref at_, .int (nI tn), .ref as_, .int (nI sn), .ref aq, .int (nI s2_5), .int a1_7, .int (nI h2_8), .long z2_9, .int (nI n2_10), .int (zI l2_11), .int (zI e2_12)], aI G ak 40 kF, aI G am 40 mF, aI G ao 40 oF, aI G ap 40 pF, aI G ax 1600 xF, aI G ay 40 (fun lv => nI (LN lv)), aI G ad 80 dF, aJ G an 80 nF, aI G ab 80 bF, aI G ar 4 rF, aI G ac 4 cF, aI G at_ 40 tF, aI G aq 100 q2_6] := va_D.sub hD [12, 0, 1, 2, 3, 4, 5, 13, 6, 7, 8, 9, 10, 11] (by decide) rfl
                        have hfc_33 := cntB_le (p := fun j => decide (dF j = (bF JJ))) ec
                        refine kIfLeN (tgt := 149) hF dX8_remove_143 (by decide) (by omega) (fun c_34 => ?_) (fun c_34 => ?_)
                        · refine lv_aload_n hF.1 hF.2.1 dX8_remove_149 rfl (lv_at hl 3 rfl) ?_
                          refine lv_aload_n hF.1 hF.2.1 dX8_remove_150 rfl (lv_at hl 3 rfl) ?_
                          refine kGet (C := RX8) (T := TX8) (N := 29) (index := 82) hF hK hP (inT inBX8) 0 rfl rfl 7 (by decide) rfl (List.mem_cons_of_mem _ mF_X8_82) rfl dX8_remove_151 ?_
                          refine lv_iconst (v := (nI 1)) hF.1 hF.2.1 dX8_remove_154 (by decide) ?_
                          refine lv_isub hF.1 hF.2.1 dX8_remove_155 ?_
                          refine kTop (y := (nI (ec - 1))) (pk_sub (by omega)) ?_
                          refine kPut (C := RX8) (T := TX8) (N := 29) (index := 82) (v := .int (nI (ec - 1))) hF hK hP hD hS (inT inBX8) tyX8_ok nmX8 0 rfl rfl 7 (by decide) rfl (List.mem_cons_of_mem _ mF_X8_82) rfl rfl rfl (Nat.le_of_ble_eq_true rfl) dX8_remove_156 (fun H locs hP hD hS => ?_)
                          have hP : PG G [oC x 8 [.ref ak, .ref am, .ref ao, .ref av, .ref ap, .ref ax, .ref ay, .int (nI (ec - 1)), .ref ad, .ref an, .ref ab, .int (nI vn), .ref ar, .ref ac, .int us, .int ro, .int pr, .ref at_, .int (nI tn), .ref as_, .int (nI sn), .ref aq, .int (nI s2_5), .int a1_7, .int (nI h2_8), .long z2_9, .int (nI n2_10), .int (zI l2_11), .int (zI e2_12)], aI G ak 40 kF, aI G am 40 mF, aI G ao 40 oF, aI G ap 40 pF, aI G ax 1600 xF, aI G ay 40 (fun lv => nI (LN lv)), aI G ad 80 dF, aJ G an 80 nF, aI G ab 80 bF, aI G ar 4 rF, aI G ac 4 cF, aI G at_ 40 tF, aI G aq 100 q2_6] H := hP
                          have hD : va_D A [oC x 8 [.ref ak, .ref am, .ref ao, .ref av, .ref ap, .ref ax, .ref ay, .int (nI (ec - 1)), .ref ad, .ref an, .ref ab, .int (nI vn), .ref ar, .ref ac, .int us, .int ro, .int pr, .ref at_, .int (nI tn), .ref as_, .int (nI sn), .ref aq, .int (nI s2_5), .int a1_7, .int (nI h2_8), .long z2_9, .int (nI n2_10), .int (zI l2_11), .int (zI e2_12)], aI G ak 40 kF, aI G am 40 mF, aI G ao 40 oF, aI G ap 40 pF, aI G ax 1600 xF, aI G ay 40 (fun lv => nI (LN lv)), aI G ad 80 dF, aJ G an 80 nF, aI G ab 80 bF, aI G ar 4 rF, aI G ac 4 cF, aI G at_ 40 tF, aI G aq 100 q2_6] := hD
                          refine lv_iload_n hF.1 hF.2.1 dX8_remove_159 rfl (lv_at hl 1 rfl) ?_
                          refine lv_istore (lv' := [(4, .int (nI JJ)), (3, .int (bF JJ)), (2, .int (nI JJ)), (1, .int r0_4), (0, .ref x)]) hF.1 hF.2.1 dX8_remove_160 hl (by decide) rfl (fun ls hl => ?_)
                          have loop_162 : ∀ (n_162 : Nat) (k : Nat) (d1 : Nat → Int32) (n1 : Nat → Int64) (b1 : Nat → Int32), ec - k < n_162 → (JJ ≤ k ∧ k ≤ ec - 1) → (d1 = shf dF JJ k) → (n1 = shf nF JJ k) → (b1 = shf bF JJ k) → ∀ (H : Heap) (locs : List Loc) (ls : Array Slot), PG G [oC x 8 [.ref ak, .ref am, .ref ao, .ref av, .ref ap, .ref ax, .ref ay, .int (nI (ec - 1)), .ref ad, .ref an, .ref ab, .int (nI vn), .ref ar, .ref ac, .int us, .int ro, .int pr, .ref at_, .int (nI tn), .ref as_, .int (nI sn), .ref aq, .int (nI s2_5), .int a1_7, .int (nI h2_8), .long z2_9, .int (nI n2_10), .int (zI l2_11), .int (zI e2_12)], aI G ak 40 kF, aI G am 40 mF, aI G ao 40 oF, aI G ap 40 pF, aI G ax 1600 xF, aI G ay 40 (fun lv => nI (LN lv)), aI G ad 80 d1, aJ G an 80 n1, aI G ab 80 b1, aI G ar 4 rF, aI G ac 4 cF, aI G at_ 40 tF, aI G aq 100 q2_6] H → va_D A [oC x 8 [.ref ak, .ref am, .ref ao, .ref av, .ref ap, .ref ax, .ref ay, .int (nI (ec - 1)), .ref ad, .ref an, .ref ab, .int (nI vn), .ref ar, .ref ac, .int us, .int ro, .int pr, .ref at_, .int (nI tn), .ref as_, .int (nI sn), .ref aq, .int (nI s2_5), .int a1_7, .int (nI h2_8), .long z2_9, .int (nI n2_10), .int (zI l2_11), .int (zI e2_12)], aI G ak 40 kF, aI G am 40 mF, aI G ao 40 oF, aI G ap 40 pF, aI G ax 1600 xF, aI G ay 40 (fun lv => nI (LN lv)), aI G ad 80 d1, aJ G an 80 n1, aI G ab 80 b1, aI G ar 4 rF, aI G ac 4 cF, aI G at_ 40 tF, aI G aq 100 q2_6] → va_S A s.heap H locs → lv_has ls 5 [(4, .int (nI k)), (3, .int (bF JJ)), (2, .int (nI JJ)), (1, .int r0_4), (0, .ref x)] → W p l e (Rm 5 0 0 113) s m args below meth c H locs 0 0 Q (F0 m 162 ls []) := by
                            intro n_162
                            induction n_162 with
                            | zero => intro k d1 n1 b1 hm; exact absurd hm (Nat.not_lt_zero _)
                            | succ n_162 ih_162 =>
                              intro k d1 n1 b1 hm_162 hk hd1 hn1 hb1 H locs ls hP hD hS hl
                              refine lv_iload hF.1 hF.2.1 dX8_remove_162 (lv_at hl 0 rfl) ?_
                              refine lv_aload_n hF.1 hF.2.1 dX8_remove_164 rfl (lv_at hl 4 rfl) ?_
                              refine kGet (C := RX8) (T := TX8) (N := 29) (index := 82) hF hK hP (inT inBX8) 0 rfl rfl 7 (by decide) rfl (List.mem_cons_of_mem _ mF_X8_82) rfl dX8_remove_165 ?_
                              refine kGeN (tgt := 225) hF dX8_remove_168 (by decide) (by omega) (by omega) (fun c_35 => ?_) (fun c_35 => ?_)
                              · rw [hd1, hn1, hb1, show k = ec - 1 by omega] at hP hD
                                refine lv_aload_n hF.1 hF.2.1 dX8_remove_225 rfl (lv_at hl 4 rfl) ?_
                                refine kGet (C := RX8) (T := TX8) (N := 29) (index := 7) hF hK hP (inT inBX8) 0 rfl rfl 0 (by decide) rfl (List.mem_cons_of_mem _ mF_X8_7) rfl dX8_remove_226 ?_
                                refine lv_iload_n hF.1 hF.2.1 dX8_remove_229 rfl (lv_at hl 1 rfl) ?_
                                refine lv_aload_n hF.1 hF.2.1 dX8_remove_230 rfl (lv_at hl 4 rfl) ?_
                                refine lv_iload_n hF.1 hF.2.1 dX8_remove_231 rfl (lv_at hl 1 rfl) ?_
                                refine kCallI (wr := [aI G ak 40 kF, aI G am 40 mF, aI G ao 40 oF, aI G ap 40 pF, aI G ax 1600 xF, aI G ay 40 (fun lv => nI (LN lv)), aI G ad 80 (shf dF JJ (ec - 1)), aJ G an 80 (shf nF JJ (ec - 1)), aI G ar 4 rF, aI G ac 4 cF, aI G at_ 40 tF, aI G aq 100 q2_6]) (va_runV (As := [.int (bF JJ)]) (rest := [.int (bF JJ), .ref ak]) hF (c_X8_entriesFor l G H.size x ak am ao av ap ax ay ad an ab ar ac at_ as_ aq (ec - 1) vn tn sn s2_5 h2_8 n2_10 us ro pr a1_7 z2_9 l2_11 e2_12 (shf bF JJ (ec - 1)) (bF JJ) (by first | assumption | omega)) (cwVB 1 hF rfl mL_X8_183 mI_X8_entriesFor mS_X8_entriesFor mN_X8 mC_X8_entriesFor rfl hd_X8_entriesFor rfl rfl ⟨Nat.le_of_ble_eq_true rfl, Nat.le_of_ble_eq_true rfl⟩) (kPre hK hP hD [0, 9] (by decide) rfl (q0 := 0) (ci := 8) rfl rfl rfl) rfl rfl hl.1 rfl (lv_room (Nat.le_of_ble_eq_true rfl)) dX8_remove_232 ⟨Nat.le_of_ble_eq_true rfl, Nat.le_of_ble_eq_true rfl⟩) hP hD hS hA [0, 9] [1, 2, 3, 4, 5, 6, 7, 8, 10, 11, 12, 13] rfl rfl (by decide) (by decide) (fun r u H locs hw_36 hP hD hS => ?_)
                                have hw_36 := hw_36.symm
                                subst hw_36
                                have hP : PG G [oC x 8 [.ref ak, .ref am, .ref ao, .ref av, .ref ap, .ref ax, .ref ay, .int (nI (ec - 1)), .ref ad, .ref an, .ref ab, .int (nI vn), .ref ar, .ref ac, .int us, .int ro, .int pr, .ref at_, .int (nI tn), .ref as_, .int (nI sn), .ref aq, .int (nI s2_5), .int a1_7, .int (nI h2_8), .long z2_9, .int (nI n2_10), .int (zI l2_11), .int (zI e2_12)], aI G ak 40 kF, aI G am 40 mF, aI G ao 40 oF, aI G ap 40 pF, aI G ax 1600 xF, aI G ay 40 (fun lv => nI (LN lv)), aI G ad 80 (shf dF JJ (ec - 1)), aJ G an 80 (shf nF JJ (ec - 1)), aI G ab 80 (shf bF JJ (ec - 1)), aI G ar 4 rF, aI G ac 4 cF, aI G at_ 40 tF, aI G aq 100 q2_6] H := va_P.sub hP [12, 0, 1, 2, 3, 4, 5, 6, 7, 13, 8, 9, 10, 11] rfl
                                have hD : va_D A [oC x 8 [.ref ak, .ref am, .ref ao, .ref av, .ref ap, .ref ax, .ref ay, .int (nI (ec - 1)), .ref ad, .ref an, .ref ab, .int (nI vn), .ref ar, .ref ac, .int us, .int ro, .int pr, .ref at_, .int (nI tn), .ref as_, .int (nI sn), .ref aq, .int (nI s2_5), .int a1_7, .int (nI h2_8), .long z2_9, .int (nI n2_10), .int (zI l2_11), .int (zI e2_12)], aI G ak 40 kF, aI G am 40 mF, aI G ao 40 oF, aI G ap 40 pF, aI G ax 1600 xF, aI G ay 40 (fun lv => nI (LN lv)), aI G ad 80 (shf dF JJ (ec - 1)), aJ G an 80 (shf nF JJ (ec - 1)), aI G ab 80 (shf bF JJ (ec - 1)), aI G ar 4 rF, aI G ac 4 cF, aI G at_ 40 tF, aI G aq 100 q2_6] := va_D.sub hD [12, 0, 1, 2, 3, 4, 5, 6, 7, 13, 8, 9, 10, 11] (by decide) rfl
                                have hfc_37 := cntB_le (p := fun j => decide ((shf bF JJ (ec - 1)) j = (bF JJ))) (ec - 1)
                                refine kIfNeN (tgt := 242) hF dX8_remove_235 (by decide) (by omega) (fun c_38 => ?_) (fun c_38 => ?_)
                                · refine lv_aload_n hF.1 hF.2.1 dX8_remove_242 rfl (lv_at hl 4 rfl) ?_
                                  refine kGet (C := RX8) (T := TX8) (N := 29) (index := 7) hF hK hP (inT inBX8) 0 rfl rfl 0 (by decide) rfl (List.mem_cons_of_mem _ mF_X8_7) rfl dX8_remove_243 ?_
                                  refine lv_iload_n hF.1 hF.2.1 dX8_remove_246 rfl (lv_at hl 1 rfl) ?_
                                  refine kIald hF hK hP 1 rfl (hbr _ hJ) dX8_remove_247 ?_
                                  refine kIast hF hK hP hD hS 1 rfl (hbr _ hJ) dX8_remove_248 (fun H locs hP hD hS => ?_)
                                  have hP : PG G [oC x 8 [.ref ak, .ref am, .ref ao, .ref av, .ref ap, .ref ax, .ref ay, .int (nI (ec - 1)), .ref ad, .ref an, .ref ab, .int (nI vn), .ref ar, .ref ac, .int us, .int ro, .int pr, .ref at_, .int (nI tn), .ref as_, .int (nI sn), .ref aq, .int (nI s2_5), .int a1_7, .int (nI h2_8), .long z2_9, .int (nI n2_10), .int (zI l2_11), .int (zI e2_12)], aI G ak 40 (upd kF (ix (bF JJ)) (kF (ix (bF JJ)))), aI G am 40 mF, aI G ao 40 oF, aI G ap 40 pF, aI G ax 1600 xF, aI G ay 40 (fun lv => nI (LN lv)), aI G ad 80 (shf dF JJ (ec - 1)), aJ G an 80 (shf nF JJ (ec - 1)), aI G ab 80 (shf bF JJ (ec - 1)), aI G ar 4 rF, aI G ac 4 cF, aI G at_ 40 tF, aI G aq 100 q2_6] H := hP
                                  have hD : va_D A [oC x 8 [.ref ak, .ref am, .ref ao, .ref av, .ref ap, .ref ax, .ref ay, .int (nI (ec - 1)), .ref ad, .ref an, .ref ab, .int (nI vn), .ref ar, .ref ac, .int us, .int ro, .int pr, .ref at_, .int (nI tn), .ref as_, .int (nI sn), .ref aq, .int (nI s2_5), .int a1_7, .int (nI h2_8), .long z2_9, .int (nI n2_10), .int (zI l2_11), .int (zI e2_12)], aI G ak 40 (upd kF (ix (bF JJ)) (kF (ix (bF JJ)))), aI G am 40 mF, aI G ao 40 oF, aI G ap 40 pF, aI G ax 1600 xF, aI G ay 40 (fun lv => nI (LN lv)), aI G ad 80 (shf dF JJ (ec - 1)), aJ G an 80 (shf nF JJ (ec - 1)), aI G ab 80 (shf bF JJ (ec - 1)), aI G ar 4 rF, aI G ac 4 cF, aI G at_ 40 tF, aI G aq 100 q2_6] := hD
                                  refine lv_iload_n hF.1 hF.2.1 dX8_remove_249 rfl (lv_at hl 1 rfl) ?_
                                  refine kRetI (v := (bF JJ)) hF hr hlk hK hP hD hS hQ rfl ((bF JJ), (ec - 1), shf dF JJ (ec - 1), shf nF JJ (ec - 1), (shf bF JJ (ec - 1)), upd kF (ix (bF JJ)) (kF (ix (bF JJ))), s2_5, q2_6, a1_7, h2_8, z2_9, n2_10, l2_11, e2_12) [0, 1, 2, 3, 4, 5, 6, 7, 8, 9, 10, 11, 12, 13] (by decide) rfl (Nat.le_of_ble_eq_true rfl) (Nat.le_of_ble_eq_true rfl) dX8_remove_250 ?_
                                  refine ⟨rfl, ?_⟩
                                  rw [rmR, if_neg (by omega), pI_f (by assumption), hE, if_pos rfl]
                                  dsimp only
                                  rw [if_neg (by assumption)]
                                  rw [hJJ, if_pos hJ]
                                  rw [wnR, pI_f (fun h => c_19 h.1), pI_t c_21, if_neg (fun h => by rcases h with h | h | h; omega; exact c_25 h; exact c_26 h), if_neg (fun h => by have := h.2; omega), rmE, if_pos rfl]
                                  rw [if_neg (by omega)]
                                · refine lv_iconst (v := (nI 0)) hF.1 hF.2.1 dX8_remove_238 (by decide) ?_
                                  refine lv_goto (tgt := 248) hF.1 hF.2.1 dX8_remove_239 (by decide) ?_
                                  refine kIast hF hK hP hD hS 1 rfl (hbr _ hJ) dX8_remove_248 (fun H locs hP hD hS => ?_)
                                  have hP : PG G [oC x 8 [.ref ak, .ref am, .ref ao, .ref av, .ref ap, .ref ax, .ref ay, .int (nI (ec - 1)), .ref ad, .ref an, .ref ab, .int (nI vn), .ref ar, .ref ac, .int us, .int ro, .int pr, .ref at_, .int (nI tn), .ref as_, .int (nI sn), .ref aq, .int (nI s2_5), .int a1_7, .int (nI h2_8), .long z2_9, .int (nI n2_10), .int (zI l2_11), .int (zI e2_12)], aI G ak 40 (upd kF (ix (bF JJ)) (nI 0)), aI G am 40 mF, aI G ao 40 oF, aI G ap 40 pF, aI G ax 1600 xF, aI G ay 40 (fun lv => nI (LN lv)), aI G ad 80 (shf dF JJ (ec - 1)), aJ G an 80 (shf nF JJ (ec - 1)), aI G ab 80 (shf bF JJ (ec - 1)), aI G ar 4 rF, aI G ac 4 cF, aI G at_ 40 tF, aI G aq 100 q2_6] H := hP
                                  have hD : va_D A [oC x 8 [.ref ak, .ref am, .ref ao, .ref av, .ref ap, .ref ax, .ref ay, .int (nI (ec - 1)), .ref ad, .ref an, .ref ab, .int (nI vn), .ref ar, .ref ac, .int us, .int ro, .int pr, .ref at_, .int (nI tn), .ref as_, .int (nI sn), .ref aq, .int (nI s2_5), .int a1_7, .int (nI h2_8), .long z2_9, .int (nI n2_10), .int (zI l2_11), .int (zI e2_12)], aI G ak 40 (upd kF (ix (bF JJ)) (nI 0)), aI G am 40 mF, aI G ao 40 oF, aI G ap 40 pF, aI G ax 1600 xF, aI G ay 40 (fun lv => nI (LN lv)), aI G ad 80 (shf dF JJ (ec - 1)), aJ G an 80 (shf nF JJ (ec - 1)), aI G ab 80 (shf bF JJ (ec - 1)), aI G ar 4 rF, aI G ac 4 cF, aI G at_ 40 tF, aI G aq 100 q2_6] := hD
                                  refine lv_iload_n hF.1 hF.2.1 dX8_remove_249 rfl (lv_at hl 1 rfl) ?_
                                  refine kRetI (v := (bF JJ)) hF hr hlk hK hP hD hS hQ rfl ((bF JJ), (ec - 1), shf dF JJ (ec - 1), shf nF JJ (ec - 1), (shf bF JJ (ec - 1)), upd kF (ix (bF JJ)) (nI 0), s2_5, q2_6, a1_7, h2_8, z2_9, n2_10, l2_11, e2_12) [0, 1, 2, 3, 4, 5, 6, 7, 8, 9, 10, 11, 12, 13] (by decide) rfl (Nat.le_of_ble_eq_true rfl) (Nat.le_of_ble_eq_true rfl) dX8_remove_250 ?_
                                  refine ⟨rfl, ?_⟩
                                  rw [rmR, if_neg (by omega), pI_f (by assumption), hE, if_pos rfl]
                                  dsimp only
                                  rw [if_neg (by assumption)]
                                  rw [hJJ, if_pos hJ]
                                  rw [wnR, pI_f (fun h => c_19 h.1), pI_t c_21, if_neg (fun h => by rcases h with h | h | h; omega; exact c_25 h; exact c_26 h), if_neg (fun h => by have := h.2; omega), rmE, if_pos rfl]
                                  rw [if_pos c_38]
                              · refine lv_aload_n hF.1 hF.2.1 dX8_remove_171 rfl (lv_at hl 4 rfl) ?_
                                refine kGet (C := RX8) (T := TX8) (N := 29) (index := 31) hF hK hP (inT inBX8) 0 rfl rfl 8 (by decide) rfl (List.mem_cons_of_mem _ mF_X8_31) rfl dX8_remove_172 ?_
                                refine lv_iload hF.1 hF.2.1 dX8_remove_175 (lv_at hl 0 rfl) ?_
                                refine lv_aload_n hF.1 hF.2.1 dX8_remove_177 rfl (lv_at hl 4 rfl) ?_
                                refine kGet (C := RX8) (T := TX8) (N := 29) (index := 31) hF hK hP (inT inBX8) 0 rfl rfl 8 (by decide) rfl (List.mem_cons_of_mem _ mF_X8_31) rfl dX8_remove_178 ?_
                                refine lv_iload hF.1 hF.2.1 dX8_remove_181 (lv_at hl 0 rfl) ?_
                                refine lv_iconst (v := (nI 1)) hF.1 hF.2.1 dX8_remove_183 (by decide) ?_
                                refine lv_iadd hF.1 hF.2.1 dX8_remove_184 ?_
                                refine kTop (y := (nI (k + 1))) (nI_add _ _) ?_
                                refine kIaldN hF hK hP 7 rfl (by omega) (by decide) dX8_remove_185 ?_
                                refine kIastN hF hK hP hD hS 7 rfl (by omega) (by decide) dX8_remove_186 (fun H locs hP hD hS => ?_)
                                have hP : PG G [oC x 8 [.ref ak, .ref am, .ref ao, .ref av, .ref ap, .ref ax, .ref ay, .int (nI (ec - 1)), .ref ad, .ref an, .ref ab, .int (nI vn), .ref ar, .ref ac, .int us, .int ro, .int pr, .ref at_, .int (nI tn), .ref as_, .int (nI sn), .ref aq, .int (nI s2_5), .int a1_7, .int (nI h2_8), .long z2_9, .int (nI n2_10), .int (zI l2_11), .int (zI e2_12)], aI G ak 40 kF, aI G am 40 mF, aI G ao 40 oF, aI G ap 40 pF, aI G ax 1600 xF, aI G ay 40 (fun lv => nI (LN lv)), aI G ad 80 (upd d1 k (d1 (k + 1))), aJ G an 80 n1, aI G ab 80 b1, aI G ar 4 rF, aI G ac 4 cF, aI G at_ 40 tF, aI G aq 100 q2_6] H := hP
                                have hD : va_D A [oC x 8 [.ref ak, .ref am, .ref ao, .ref av, .ref ap, .ref ax, .ref ay, .int (nI (ec - 1)), .ref ad, .ref an, .ref ab, .int (nI vn), .ref ar, .ref ac, .int us, .int ro, .int pr, .ref at_, .int (nI tn), .ref as_, .int (nI sn), .ref aq, .int (nI s2_5), .int a1_7, .int (nI h2_8), .long z2_9, .int (nI n2_10), .int (zI l2_11), .int (zI e2_12)], aI G ak 40 kF, aI G am 40 mF, aI G ao 40 oF, aI G ap 40 pF, aI G ax 1600 xF, aI G ay 40 (fun lv => nI (LN lv)), aI G ad 80 (upd d1 k (d1 (k + 1))), aJ G an 80 n1, aI G ab 80 b1, aI G ar 4 rF, aI G ac 4 cF, aI G at_ 40 tF, aI G aq 100 q2_6] := hD
                                refine lv_aload_n hF.1 hF.2.1 dX8_remove_187 rfl (lv_at hl 4 rfl) ?_
                                refine kGet (C := RX8) (T := TX8) (N := 29) (index := 34) hF hK hP (inT inBX8) 0 rfl rfl 9 (by decide) rfl (List.mem_cons_of_mem _ mF_X8_34) rfl dX8_remove_188 ?_
                                refine lv_iload hF.1 hF.2.1 dX8_remove_191 (lv_at hl 0 rfl) ?_
                                refine lv_aload_n hF.1 hF.2.1 dX8_remove_193 rfl (lv_at hl 4 rfl) ?_
                                refine kGet (C := RX8) (T := TX8) (N := 29) (index := 34) hF hK hP (inT inBX8) 0 rfl rfl 9 (by decide) rfl (List.mem_cons_of_mem _ mF_X8_34) rfl dX8_remove_194 ?_
                                refine lv_iload hF.1 hF.2.1 dX8_remove_197 (lv_at hl 0 rfl) ?_
                                refine lv_iconst (v := (nI 1)) hF.1 hF.2.1 dX8_remove_199 (by decide) ?_
                                refine lv_iadd hF.1 hF.2.1 dX8_remove_200 ?_
                                refine kTop (y := (nI (k + 1))) (nI_add _ _) ?_
                                refine kLaldN hF hK hP 8 rfl (by omega) (by decide) dX8_remove_201 ?_
                                refine kLastN hF hK hP hD hS 8 rfl (by omega) (by decide) dX8_remove_202 (fun H locs hP hD hS => ?_)
                                have hP : PG G [oC x 8 [.ref ak, .ref am, .ref ao, .ref av, .ref ap, .ref ax, .ref ay, .int (nI (ec - 1)), .ref ad, .ref an, .ref ab, .int (nI vn), .ref ar, .ref ac, .int us, .int ro, .int pr, .ref at_, .int (nI tn), .ref as_, .int (nI sn), .ref aq, .int (nI s2_5), .int a1_7, .int (nI h2_8), .long z2_9, .int (nI n2_10), .int (zI l2_11), .int (zI e2_12)], aI G ak 40 kF, aI G am 40 mF, aI G ao 40 oF, aI G ap 40 pF, aI G ax 1600 xF, aI G ay 40 (fun lv => nI (LN lv)), aI G ad 80 (upd d1 k (d1 (k + 1))), aJ G an 80 (vp_updL n1 k (n1 (k + 1))), aI G ab 80 b1, aI G ar 4 rF, aI G ac 4 cF, aI G at_ 40 tF, aI G aq 100 q2_6] H := hP
                                have hD : va_D A [oC x 8 [.ref ak, .ref am, .ref ao, .ref av, .ref ap, .ref ax, .ref ay, .int (nI (ec - 1)), .ref ad, .ref an, .ref ab, .int (nI vn), .ref ar, .ref ac, .int us, .int ro, .int pr, .ref at_, .int (nI tn), .ref as_, .int (nI sn), .ref aq, .int (nI s2_5), .int a1_7, .int (nI h2_8), .long z2_9, .int (nI n2_10), .int (zI l2_11), .int (zI e2_12)], aI G ak 40 kF, aI G am 40 mF, aI G ao 40 oF, aI G ap 40 pF, aI G ax 1600 xF, aI G ay 40 (fun lv => nI (LN lv)), aI G ad 80 (upd d1 k (d1 (k + 1))), aJ G an 80 (vp_updL n1 k (n1 (k + 1))), aI G ab 80 b1, aI G ar 4 rF, aI G ac 4 cF, aI G at_ 40 tF, aI G aq 100 q2_6] := hD
                                refine lv_aload_n hF.1 hF.2.1 dX8_remove_203 rfl (lv_at hl 4 rfl) ?_
                                refine kGet (C := RX8) (T := TX8) (N := 29) (index := 38) hF hK hP (inT inBX8) 0 rfl rfl 10 (by decide) rfl (List.mem_cons_of_mem _ mF_X8_38) rfl dX8_remove_204 ?_
                                refine lv_iload hF.1 hF.2.1 dX8_remove_207 (lv_at hl 0 rfl) ?_
                                refine lv_aload_n hF.1 hF.2.1 dX8_remove_209 rfl (lv_at hl 4 rfl) ?_
                                refine kGet (C := RX8) (T := TX8) (N := 29) (index := 38) hF hK hP (inT inBX8) 0 rfl rfl 10 (by decide) rfl (List.mem_cons_of_mem _ mF_X8_38) rfl dX8_remove_210 ?_
                                refine lv_iload hF.1 hF.2.1 dX8_remove_213 (lv_at hl 0 rfl) ?_
                                refine lv_iconst (v := (nI 1)) hF.1 hF.2.1 dX8_remove_215 (by decide) ?_
                                refine lv_iadd hF.1 hF.2.1 dX8_remove_216 ?_
                                refine kTop (y := (nI (k + 1))) (nI_add _ _) ?_
                                refine kIaldN hF hK hP 9 rfl (by omega) (by decide) dX8_remove_217 ?_
                                refine kIastN hF hK hP hD hS 9 rfl (by omega) (by decide) dX8_remove_218 (fun H locs hP hD hS => ?_)
                                have hP : PG G [oC x 8 [.ref ak, .ref am, .ref ao, .ref av, .ref ap, .ref ax, .ref ay, .int (nI (ec - 1)), .ref ad, .ref an, .ref ab, .int (nI vn), .ref ar, .ref ac, .int us, .int ro, .int pr, .ref at_, .int (nI tn), .ref as_, .int (nI sn), .ref aq, .int (nI s2_5), .int a1_7, .int (nI h2_8), .long z2_9, .int (nI n2_10), .int (zI l2_11), .int (zI e2_12)], aI G ak 40 kF, aI G am 40 mF, aI G ao 40 oF, aI G ap 40 pF, aI G ax 1600 xF, aI G ay 40 (fun lv => nI (LN lv)), aI G ad 80 (upd d1 k (d1 (k + 1))), aJ G an 80 (vp_updL n1 k (n1 (k + 1))), aI G ab 80 (upd b1 k (b1 (k + 1))), aI G ar 4 rF, aI G ac 4 cF, aI G at_ 40 tF, aI G aq 100 q2_6] H := hP
                                have hD : va_D A [oC x 8 [.ref ak, .ref am, .ref ao, .ref av, .ref ap, .ref ax, .ref ay, .int (nI (ec - 1)), .ref ad, .ref an, .ref ab, .int (nI vn), .ref ar, .ref ac, .int us, .int ro, .int pr, .ref at_, .int (nI tn), .ref as_, .int (nI sn), .ref aq, .int (nI s2_5), .int a1_7, .int (nI h2_8), .long z2_9, .int (nI n2_10), .int (zI l2_11), .int (zI e2_12)], aI G ak 40 kF, aI G am 40 mF, aI G ao 40 oF, aI G ap 40 pF, aI G ax 1600 xF, aI G ay 40 (fun lv => nI (LN lv)), aI G ad 80 (upd d1 k (d1 (k + 1))), aJ G an 80 (vp_updL n1 k (n1 (k + 1))), aI G ab 80 (upd b1 k (b1 (k + 1))), aI G ar 4 rF, aI G ac 4 cF, aI G at_ 40 tF, aI G aq 100 q2_6] := hD
                                refine lv_iinc (v := (nI (k + 1))) (lv' := [(4, .int (nI (k + 1))), (3, .int (bF JJ)), (2, .int (nI JJ)), (1, .int r0_4), (0, .ref x)]) hF.1 hF.2.1 dX8_remove_219 hl (k := 0) rfl (nI_inc1 _) (by decide) rfl (fun ls hl => ?_)
                                refine lv_goto (tgt := 162) hF.1 hF.2.1 dX8_remove_222 (by decide) ?_
                                exact ih_162 (k + 1) (upd d1 k (d1 (k + 1))) (vp_updL n1 k (n1 (k + 1))) (upd b1 k (b1 (k + 1))) (by omega) (by omega) (by rw [hd1]; exact shf_s (by omega)) (by rw [hn1]; exact shf_sL (by omega)) (by rw [hb1]; exact shf_s (by omega)) H locs ls hP hD hS (lv_sub hl [0, 1, 2, 3, 4] rfl)
                          exact loop_162 _ JJ dF nF bF (Nat.lt_succ_self _) (by omega) ((shf_0 _ _).symm) ((shf_0 _ _).symm) ((shf_0 _ _).symm) _ _ _ hP hD hS (lv_sub hl [0, 1, 2, 3, 4] rfl)
                        · refine lv_bipush (v := (-8)) hF.1 hF.2.1 dX8_remove_146 (by decide) ?_
                          refine kRetI (v := (-8)) hF hr hlk hK hP hD hS hQ rfl ((-8), ec, dF, nF, bF, kF, s2_5, q2_6, a1_7, h2_8, z2_9, n2_10, l2_11, e2_12) [0, 1, 2, 3, 4, 5, 6, 7, 8, 9, 10, 11, 12, 13] (by decide) rfl (Nat.le_of_ble_eq_true rfl) (Nat.le_of_ble_eq_true rfl) dX8_remove_148 ?_
                          refine ⟨rfl, ?_⟩
                          rw [rmR, if_neg (by omega), pI_f (by assumption), hE, if_pos rfl]
                          dsimp only
                          rw [if_neg (by assumption)]
                          rw [hJJ, if_pos hJ]
                          rw [wnR, pI_f (fun h => c_19 h.1), pI_t c_21, if_neg (fun h => by rcases h with h | h | h; omega; exact c_25 h; exact c_26 h), if_pos ⟨c_27, c_34⟩, rmE, if_neg (by decide)]
                    · refine lv_bipush (v := (-7)) hF.1 hF.2.1 dX8_remove_125 (by decide) ?_
                      refine kRetI (v := (-7)) hF hr hlk hK hP hD hS hQ rfl ((-7), ec, dF, nF, bF, kF, s2_5, q2_6, a1_7, h2_8, z2_9, n2_10, l2_11, e2_12) [0, 1, 2, 3, 4, 5, 6, 7, 8, 9, 10, 11, 12, 13] (by decide) rfl (Nat.le_of_ble_eq_true rfl) (Nat.le_of_ble_eq_true rfl) dX8_remove_127 ?_
                      refine ⟨rfl, ?_⟩
                      rw [rmR, if_neg (by omega), pI_f (by assumption), hE, if_pos rfl]
                      dsimp only
                      rw [if_neg (by assumption)]
                      rw [hJJ, if_pos hJ]
                      rw [wnR, pI_f (fun h => c_19 h.1), pI_t c_21, if_pos (Or.inr (Or.inr c_26)), rmE, if_neg (by decide)]
              · refine lv_bipush (v := (-3)) hF.1 hF.2.1 dX8_remove_98 (by decide) ?_
                refine kRetI (v := (-3)) hF hr hlk hK hP hD hS hQ rfl ((-3), ec, dF, nF, bF, kF, s2_5, q2_6, a1_7, h2_8, z2_9, n2_10, l2_11, e2_12) [0, 1, 2, 3, 4, 5, 6, 7, 8, 9, 10, 11, 12, 13] (by decide) rfl (Nat.le_of_ble_eq_true rfl) (Nat.le_of_ble_eq_true rfl) dX8_remove_100 ?_
                refine ⟨rfl, ?_⟩
                rw [rmR, if_neg (by omega), pI_f (by assumption), hE, if_pos rfl]
                dsimp only
                rw [if_neg (by assumption)]
                rw [hJJ, if_pos hJ]
                rw [wnR, pI_f (fun h => c_19 h.1), pI_f c_21, rmE, if_neg (by decide)]
            · refine lv_aload_n hF.1 hF.2.1 dX8_remove_73 rfl (lv_at hl 3 rfl) ?_
              refine kGet (C := RX8) (T := TX8) (N := 29) (index := 7) hF hK hP (inT inBX8) 0 rfl rfl 0 (by decide) rfl (List.mem_cons_of_mem _ mF_X8_7) rfl dX8_remove_74 ?_
              refine lv_iload_n hF.1 hF.2.1 dX8_remove_77 rfl (lv_at hl 0 rfl) ?_
              refine kIald hF hK hP 1 rfl (hbr _ hJ) dX8_remove_78 ?_
              refine lv_iconst (v := (nI 1)) hF.1 hF.2.1 dX8_remove_79 (by decide) ?_
              refine lv_icmp_eq (tgt := 86) hF.1 hF.2.1 dX8_remove_80 (by decide) (fun c_39 => ?_) (fun c_39 => ?_)
              · refine lv_aload_n hF.1 hF.2.1 dX8_remove_86 rfl (lv_at hl 3 rfl) ?_
                refine lv_aload_n hF.1 hF.2.1 dX8_remove_87 rfl (lv_at hl 3 rfl) ?_
                refine kGet (C := RX8) (T := TX8) (N := 29) (index := 114) hF hK hP (inT inBX8) 0 rfl rfl 23 (by decide) rfl (List.mem_cons_of_mem _ mF_X8_114) rfl dX8_remove_88 ?_
                refine lv_iconst (v := (nI 1)) hF.1 hF.2.1 dX8_remove_91 (by decide) ?_
                refine kCallI (wr := [aI G ak 40 kF, aI G ap 40 pF, aI G ax 1600 xF, aI G ay 40 (fun lv => nI (LN lv)), aI G ad 80 dF, aJ G an 80 nF, aI G ab 80 bF, aI G ar 4 rF, aI G ac 4 cF, aI G at_ 40 tF, aI G aq 100 q2_6]) (va_runV (As := [.int a1_7, .int (nI 1)]) (rest := []) hF (c_X8_may l G H.size x ak am ao av ap ax ay ad an ab ar ac at_ as_ aq ec vn tn sn s2_5 h2_8 n2_10 us ro pr a1_7 z2_9 l2_11 e2_12 mF oF a1_7 (nI 1) (hV)) (cwVB 2 hF rfl mL_X8_120 mI_X8_may mS_X8_may mN_X8 mC_X8_may rfl hd_X8_may rfl rfl ⟨Nat.le_of_ble_eq_true rfl, Nat.le_of_ble_eq_true rfl⟩) (kPre hK hP hD [0, 2, 3] (by decide) rfl (q0 := 0) (ci := 8) rfl rfl rfl) rfl rfl hl.1 rfl (lv_room (Nat.le_of_ble_eq_true rfl)) dX8_remove_92 ⟨Nat.le_of_ble_eq_true rfl, Nat.le_of_ble_eq_true rfl⟩) hP hD hS hA [0, 2, 3] [1, 4, 5, 6, 7, 8, 9, 10, 11, 12, 13] rfl rfl (by decide) (by decide) (fun r u H locs hw_40 hP hD hS => ?_)
                have hw_40 := hw_40.symm
                subst hw_40
                have hP : PG G [oC x 8 [.ref ak, .ref am, .ref ao, .ref av, .ref ap, .ref ax, .ref ay, .int (nI ec), .ref ad, .ref an, .ref ab, .int (nI vn), .ref ar, .ref ac, .int us, .int ro, .int pr, .ref at_, .int (nI tn), .ref as_, .int (nI sn), .ref aq, .int (nI s2_5), .int a1_7, .int (nI h2_8), .long z2_9, .int (nI n2_10), .int (zI l2_11), .int (zI e2_12)], aI G ak 40 kF, aI G am 40 mF, aI G ao 40 oF, aI G ap 40 pF, aI G ax 1600 xF, aI G ay 40 (fun lv => nI (LN lv)), aI G ad 80 dF, aJ G an 80 nF, aI G ab 80 bF, aI G ar 4 rF, aI G ac 4 cF, aI G at_ 40 tF, aI G aq 100 q2_6] H := va_P.sub hP [11, 0, 12, 13, 1, 2, 3, 4, 5, 6, 7, 8, 9, 10] rfl
                have hD : va_D A [oC x 8 [.ref ak, .ref am, .ref ao, .ref av, .ref ap, .ref ax, .ref ay, .int (nI ec), .ref ad, .ref an, .ref ab, .int (nI vn), .ref ar, .ref ac, .int us, .int ro, .int pr, .ref at_, .int (nI tn), .ref as_, .int (nI sn), .ref aq, .int (nI s2_5), .int a1_7, .int (nI h2_8), .long z2_9, .int (nI n2_10), .int (zI l2_11), .int (zI e2_12)], aI G ak 40 kF, aI G am 40 mF, aI G ao 40 oF, aI G ap 40 pF, aI G ax 1600 xF, aI G ay 40 (fun lv => nI (LN lv)), aI G ad 80 dF, aJ G an 80 nF, aI G ab 80 bF, aI G ar 4 rF, aI G ac 4 cF, aI G at_ 40 tF, aI G aq 100 q2_6] := va_D.sub hD [11, 0, 12, 13, 1, 2, 3, 4, 5, 6, 7, 8, 9, 10] (by decide) rfl
                refine kIfNeZ (tgt := 101) hF dX8_remove_95 (by decide) (fun c_41 => ?_) (fun c_41 => ?_)
                · refine lv_aload_n hF.1 hF.2.1 dX8_remove_101 rfl (lv_at hl 3 rfl) ?_
                  refine lv_iload_n hF.1 hF.2.1 dX8_remove_102 rfl (lv_at hl 0 rfl) ?_
                  refine kCallI (wr := [aI G ak 40 kF, aI G am 40 mF, aI G ao 40 oF, aI G ap 40 pF, aI G ax 1600 xF, aI G ay 40 (fun lv => nI (LN lv)), aI G ad 80 dF, aJ G an 80 nF, aI G ab 80 bF, aI G ar 4 rF, aI G at_ 40 tF, aI G aq 100 q2_6]) (va_runV (As := [.int (bF JJ)]) (rest := []) hF (c_X8_coverOf l G H.size x ak am ao av ap ax ay ad an ab ar ac at_ as_ aq ec vn tn sn s2_5 h2_8 n2_10 us ro pr a1_7 z2_9 l2_11 e2_12 cF (bF JJ) (by first | assumption | omega)) (cwVB 1 hF rfl mL_X8_69 mI_X8_coverOf mS_X8_coverOf mN_X8 mC_X8_coverOf rfl hd_X8_coverOf rfl rfl ⟨Nat.le_of_ble_eq_true rfl, Nat.le_of_ble_eq_true rfl⟩) (kPre hK hP hD [0, 11] (by decide) rfl (q0 := 0) (ci := 8) rfl rfl rfl) rfl rfl hl.1 rfl (lv_room (Nat.le_of_ble_eq_true rfl)) dX8_remove_103 ⟨Nat.le_of_ble_eq_true rfl, Nat.le_of_ble_eq_true rfl⟩) hP hD hS hA [0, 11] [1, 2, 3, 4, 5, 6, 7, 8, 9, 10, 12, 13] rfl rfl (by decide) (by decide) (fun r u H locs hw_42 hP hD hS => ?_)
                  have hw_42 := hw_42.symm
                  subst hw_42
                  have hP : PG G [oC x 8 [.ref ak, .ref am, .ref ao, .ref av, .ref ap, .ref ax, .ref ay, .int (nI ec), .ref ad, .ref an, .ref ab, .int (nI vn), .ref ar, .ref ac, .int us, .int ro, .int pr, .ref at_, .int (nI tn), .ref as_, .int (nI sn), .ref aq, .int (nI s2_5), .int a1_7, .int (nI h2_8), .long z2_9, .int (nI n2_10), .int (zI l2_11), .int (zI e2_12)], aI G ak 40 kF, aI G am 40 mF, aI G ao 40 oF, aI G ap 40 pF, aI G ax 1600 xF, aI G ay 40 (fun lv => nI (LN lv)), aI G ad 80 dF, aJ G an 80 nF, aI G ab 80 bF, aI G ar 4 rF, aI G ac 4 cF, aI G at_ 40 tF, aI G aq 100 q2_6] H := va_P.sub hP [12, 0, 1, 2, 3, 4, 5, 6, 7, 8, 9, 13, 10, 11] rfl
                  have hD : va_D A [oC x 8 [.ref ak, .ref am, .ref ao, .ref av, .ref ap, .ref ax, .ref ay, .int (nI ec), .ref ad, .ref an, .ref ab, .int (nI vn), .ref ar, .ref ac, .int us, .int ro, .int pr, .ref at_, .int (nI tn), .ref as_, .int (nI sn), .ref aq, .int (nI s2_5), .int a1_7, .int (nI h2_8), .long z2_9, .int (nI n2_10), .int (zI l2_11), .int (zI e2_12)], aI G ak 40 kF, aI G am 40 mF, aI G ao 40 oF, aI G ap 40 pF, aI G ax 1600 xF, aI G ay 40 (fun lv => nI (LN lv)), aI G ad 80 dF, aJ G an 80 nF, aI G ab 80 bF, aI G ar 4 rF, aI G ac 4 cF, aI G at_ 40 tF, aI G aq 100 q2_6] := va_D.sub hD [12, 0, 1, 2, 3, 4, 5, 6, 7, 8, 9, 13, 10, 11] (by decide) rfl
                  have hfc_43 := cvR_lt2 cF (bF JJ) vn (by omega)
                  refine kIfGtN (tgt := 125) hF dX8_remove_106 (by decide) (by omega) (fun c_44 => ?_) (fun c_44 => ?_)
                  · refine lv_bipush (v := (-7)) hF.1 hF.2.1 dX8_remove_125 (by decide) ?_
                    refine kRetI (v := (-7)) hF hr hlk hK hP hD hS hQ rfl ((-7), ec, dF, nF, bF, kF, s2_5, q2_6, a1_7, h2_8, z2_9, n2_10, l2_11, e2_12) [0, 1, 2, 3, 4, 5, 6, 7, 8, 9, 10, 11, 12, 13] (by decide) rfl (Nat.le_of_ble_eq_true rfl) (Nat.le_of_ble_eq_true rfl) dX8_remove_127 ?_
                    refine ⟨rfl, ?_⟩
                    rw [rmR, if_neg (by omega), pI_f (by assumption), hE, if_pos rfl]
                    dsimp only
                    rw [if_neg (by assumption)]
                    rw [hJJ, if_pos hJ]
                    rw [wnR, pI_f (fun h => h.2 c_39), pI_t c_41, if_pos (Or.inl c_44), rmE, if_neg (by decide)]
                  · refine lv_iload_n hF.1 hF.2.1 dX8_remove_109 rfl (lv_at hl 0 rfl) ?_
                    refine lv_aload_n hF.1 hF.2.1 dX8_remove_110 rfl (lv_at hl 3 rfl) ?_
                    refine kGet (C := RX8) (T := TX8) (N := 29) (index := 108) hF hK hP (inT inBX8) 0 rfl rfl 15 (by decide) rfl (List.mem_cons_of_mem _ mF_X8_108) rfl dX8_remove_111 ?_
                    refine lv_icmp_eq (tgt := 125) hF.1 hF.2.1 dX8_remove_114 (by decide) (fun c_45 => ?_) (fun c_45 => ?_)
                    · refine lv_bipush (v := (-7)) hF.1 hF.2.1 dX8_remove_125 (by decide) ?_
                      refine kRetI (v := (-7)) hF hr hlk hK hP hD hS hQ rfl ((-7), ec, dF, nF, bF, kF, s2_5, q2_6, a1_7, h2_8, z2_9, n2_10, l2_11, e2_12) [0, 1, 2, 3, 4, 5, 6, 7, 8, 9, 10, 11, 12, 13] (by decide) rfl (Nat.le_of_ble_eq_true rfl) (Nat.le_of_ble_eq_true rfl) dX8_remove_127 ?_
                      refine ⟨rfl, ?_⟩
                      rw [rmR, if_neg (by omega), pI_f (by assumption), hE, if_pos rfl]
                      dsimp only
                      rw [if_neg (by assumption)]
                      rw [hJJ, if_pos hJ]
                      rw [wnR, pI_f (fun h => h.2 c_39), pI_t c_41, if_pos (Or.inr (Or.inl c_45)), rmE, if_neg (by decide)]
                    · refine lv_iload_n hF.1 hF.2.1 dX8_remove_117 rfl (lv_at hl 0 rfl) ?_
                      refine lv_aload_n hF.1 hF.2.1 dX8_remove_118 rfl (lv_at hl 3 rfl) ?_
                      refine kGet (C := RX8) (T := TX8) (N := 29) (index := 111) hF hK hP (inT inBX8) 0 rfl rfl 16 (by decide) rfl (List.mem_cons_of_mem _ mF_X8_111) rfl dX8_remove_119 ?_
                      refine lv_icmp_ne (tgt := 128) hF.1 hF.2.1 dX8_remove_122 (by decide) (fun c_46 => ?_) (fun c_46 => ?_)
                      · refine lv_aload_n hF.1 hF.2.1 dX8_remove_128 rfl (lv_at hl 3 rfl) ?_
                        refine kGet (C := RX8) (T := TX8) (N := 29) (index := 7) hF hK hP (inT inBX8) 0 rfl rfl 0 (by decide) rfl (List.mem_cons_of_mem _ mF_X8_7) rfl dX8_remove_129 ?_
                        refine lv_iload_n hF.1 hF.2.1 dX8_remove_132 rfl (lv_at hl 0 rfl) ?_
                        refine kIald hF hK hP 1 rfl (hbr _ hJ) dX8_remove_133 ?_
                        refine lv_iconst (v := (nI 1)) hF.1 hF.2.1 dX8_remove_134 (by decide) ?_
                        refine lv_icmp_ne (tgt := 149) hF.1 hF.2.1 dX8_remove_135 (by decide) (fun c_47 => ?_) (fun c_47 => ?_)
                        · refine lv_aload_n hF.1 hF.2.1 dX8_remove_149 rfl (lv_at hl 3 rfl) ?_
                          refine lv_aload_n hF.1 hF.2.1 dX8_remove_150 rfl (lv_at hl 3 rfl) ?_
                          refine kGet (C := RX8) (T := TX8) (N := 29) (index := 82) hF hK hP (inT inBX8) 0 rfl rfl 7 (by decide) rfl (List.mem_cons_of_mem _ mF_X8_82) rfl dX8_remove_151 ?_
                          refine lv_iconst (v := (nI 1)) hF.1 hF.2.1 dX8_remove_154 (by decide) ?_
                          refine lv_isub hF.1 hF.2.1 dX8_remove_155 ?_
                          refine kTop (y := (nI (ec - 1))) (pk_sub (by omega)) ?_
                          refine kPut (C := RX8) (T := TX8) (N := 29) (index := 82) (v := .int (nI (ec - 1))) hF hK hP hD hS (inT inBX8) tyX8_ok nmX8 0 rfl rfl 7 (by decide) rfl (List.mem_cons_of_mem _ mF_X8_82) rfl rfl rfl (Nat.le_of_ble_eq_true rfl) dX8_remove_156 (fun H locs hP hD hS => ?_)
                          have hP : PG G [oC x 8 [.ref ak, .ref am, .ref ao, .ref av, .ref ap, .ref ax, .ref ay, .int (nI (ec - 1)), .ref ad, .ref an, .ref ab, .int (nI vn), .ref ar, .ref ac, .int us, .int ro, .int pr, .ref at_, .int (nI tn), .ref as_, .int (nI sn), .ref aq, .int (nI s2_5), .int a1_7, .int (nI h2_8), .long z2_9, .int (nI n2_10), .int (zI l2_11), .int (zI e2_12)], aI G ak 40 kF, aI G am 40 mF, aI G ao 40 oF, aI G ap 40 pF, aI G ax 1600 xF, aI G ay 40 (fun lv => nI (LN lv)), aI G ad 80 dF, aJ G an 80 nF, aI G ab 80 bF, aI G ar 4 rF, aI G ac 4 cF, aI G at_ 40 tF, aI G aq 100 q2_6] H := hP
                          have hD : va_D A [oC x 8 [.ref ak, .ref am, .ref ao, .ref av, .ref ap, .ref ax, .ref ay, .int (nI (ec - 1)), .ref ad, .ref an, .ref ab, .int (nI vn), .ref ar, .ref ac, .int us, .int ro, .int pr, .ref at_, .int (nI tn), .ref as_, .int (nI sn), .ref aq, .int (nI s2_5), .int a1_7, .int (nI h2_8), .long z2_9, .int (nI n2_10), .int (zI l2_11), .int (zI e2_12)], aI G ak 40 kF, aI G am 40 mF, aI G ao 40 oF, aI G ap 40 pF, aI G ax 1600 xF, aI G ay 40 (fun lv => nI (LN lv)), aI G ad 80 dF, aJ G an 80 nF, aI G ab 80 bF, aI G ar 4 rF, aI G ac 4 cF, aI G at_ 40 tF, aI G aq 100 q2_6] := hD
                          refine lv_iload_n hF.1 hF.2.1 dX8_remove_159 rfl (lv_at hl 1 rfl) ?_
                          refine lv_istore (lv' := [(4, .int (nI JJ)), (3, .int (bF JJ)), (2, .int (nI JJ)), (1, .int r0_4), (0, .ref x)]) hF.1 hF.2.1 dX8_remove_160 hl (by decide) rfl (fun ls hl => ?_)
                          have loop_162 : ∀ (n_162 : Nat) (k : Nat) (d1 : Nat → Int32) (n1 : Nat → Int64) (b1 : Nat → Int32), ec - k < n_162 → (JJ ≤ k ∧ k ≤ ec - 1) → (d1 = shf dF JJ k) → (n1 = shf nF JJ k) → (b1 = shf bF JJ k) → ∀ (H : Heap) (locs : List Loc) (ls : Array Slot), PG G [oC x 8 [.ref ak, .ref am, .ref ao, .ref av, .ref ap, .ref ax, .ref ay, .int (nI (ec - 1)), .ref ad, .ref an, .ref ab, .int (nI vn), .ref ar, .ref ac, .int us, .int ro, .int pr, .ref at_, .int (nI tn), .ref as_, .int (nI sn), .ref aq, .int (nI s2_5), .int a1_7, .int (nI h2_8), .long z2_9, .int (nI n2_10), .int (zI l2_11), .int (zI e2_12)], aI G ak 40 kF, aI G am 40 mF, aI G ao 40 oF, aI G ap 40 pF, aI G ax 1600 xF, aI G ay 40 (fun lv => nI (LN lv)), aI G ad 80 d1, aJ G an 80 n1, aI G ab 80 b1, aI G ar 4 rF, aI G ac 4 cF, aI G at_ 40 tF, aI G aq 100 q2_6] H → va_D A [oC x 8 [.ref ak, .ref am, .ref ao, .ref av, .ref ap, .ref ax, .ref ay, .int (nI (ec - 1)), .ref ad, .ref an, .ref ab, .int (nI vn), .ref ar, .ref ac, .int us, .int ro, .int pr, .ref at_, .int (nI tn), .ref as_, .int (nI sn), .ref aq, .int (nI s2_5), .int a1_7, .int (nI h2_8), .long z2_9, .int (nI n2_10), .int (zI l2_11), .int (zI e2_12)], aI G ak 40 kF, aI G am 40 mF, aI G ao 40 oF, aI G ap 40 pF, aI G ax 1600 xF, aI G ay 40 (fun lv => nI (LN lv)), aI G ad 80 d1, aJ G an 80 n1, aI G ab 80 b1, aI G ar 4 rF, aI G ac 4 cF, aI G at_ 40 tF, aI G aq 100 q2_6] → va_S A s.heap H locs → lv_has ls 5 [(4, .int (nI k)), (3, .int (bF JJ)), (2, .int (nI JJ)), (1, .int r0_4), (0, .ref x)] → W p l e (Rm 5 0 0 113) s m args below meth c H locs 0 0 Q (F0 m 162 ls []) := by
                            intro n_162
                            induction n_162 with
                            | zero => intro k d1 n1 b1 hm; exact absurd hm (Nat.not_lt_zero _)
                            | succ n_162 ih_162 =>
                              intro k d1 n1 b1 hm_162 hk hd1 hn1 hb1 H locs ls hP hD hS hl
                              refine lv_iload hF.1 hF.2.1 dX8_remove_162 (lv_at hl 0 rfl) ?_
                              refine lv_aload_n hF.1 hF.2.1 dX8_remove_164 rfl (lv_at hl 4 rfl) ?_
                              refine kGet (C := RX8) (T := TX8) (N := 29) (index := 82) hF hK hP (inT inBX8) 0 rfl rfl 7 (by decide) rfl (List.mem_cons_of_mem _ mF_X8_82) rfl dX8_remove_165 ?_
                              refine kGeN (tgt := 225) hF dX8_remove_168 (by decide) (by omega) (by omega) (fun c_48 => ?_) (fun c_48 => ?_)
                              · rw [hd1, hn1, hb1, show k = ec - 1 by omega] at hP hD
                                refine lv_aload_n hF.1 hF.2.1 dX8_remove_225 rfl (lv_at hl 4 rfl) ?_
                                refine kGet (C := RX8) (T := TX8) (N := 29) (index := 7) hF hK hP (inT inBX8) 0 rfl rfl 0 (by decide) rfl (List.mem_cons_of_mem _ mF_X8_7) rfl dX8_remove_226 ?_
                                refine lv_iload_n hF.1 hF.2.1 dX8_remove_229 rfl (lv_at hl 1 rfl) ?_
                                refine lv_aload_n hF.1 hF.2.1 dX8_remove_230 rfl (lv_at hl 4 rfl) ?_
                                refine lv_iload_n hF.1 hF.2.1 dX8_remove_231 rfl (lv_at hl 1 rfl) ?_
                                refine kCallI (wr := [aI G ak 40 kF, aI G am 40 mF, aI G ao 40 oF, aI G ap 40 pF, aI G ax 1600 xF, aI G ay 40 (fun lv => nI (LN lv)), aI G ad 80 (shf dF JJ (ec - 1)), aJ G an 80 (shf nF JJ (ec - 1)), aI G ar 4 rF, aI G ac 4 cF, aI G at_ 40 tF, aI G aq 100 q2_6]) (va_runV (As := [.int (bF JJ)]) (rest := [.int (bF JJ), .ref ak]) hF (c_X8_entriesFor l G H.size x ak am ao av ap ax ay ad an ab ar ac at_ as_ aq (ec - 1) vn tn sn s2_5 h2_8 n2_10 us ro pr a1_7 z2_9 l2_11 e2_12 (shf bF JJ (ec - 1)) (bF JJ) (by first | assumption | omega)) (cwVB 1 hF rfl mL_X8_183 mI_X8_entriesFor mS_X8_entriesFor mN_X8 mC_X8_entriesFor rfl hd_X8_entriesFor rfl rfl ⟨Nat.le_of_ble_eq_true rfl, Nat.le_of_ble_eq_true rfl⟩) (kPre hK hP hD [0, 9] (by decide) rfl (q0 := 0) (ci := 8) rfl rfl rfl) rfl rfl hl.1 rfl (lv_room (Nat.le_of_ble_eq_true rfl)) dX8_remove_232 ⟨Nat.le_of_ble_eq_true rfl, Nat.le_of_ble_eq_true rfl⟩) hP hD hS hA [0, 9] [1, 2, 3, 4, 5, 6, 7, 8, 10, 11, 12, 13] rfl rfl (by decide) (by decide) (fun r u H locs hw_49 hP hD hS => ?_)
                                have hw_49 := hw_49.symm
                                subst hw_49
                                have hP : PG G [oC x 8 [.ref ak, .ref am, .ref ao, .ref av, .ref ap, .ref ax, .ref ay, .int (nI (ec - 1)), .ref ad, .ref an, .ref ab, .int (nI vn), .ref ar, .ref ac, .int us, .int ro, .int pr, .ref at_, .int (nI tn), .ref as_, .int (nI sn), .ref aq, .int (nI s2_5), .int a1_7, .int (nI h2_8), .long z2_9, .int (nI n2_10), .int (zI l2_11), .int (zI e2_12)], aI G ak 40 kF, aI G am 40 mF, aI G ao 40 oF, aI G ap 40 pF, aI G ax 1600 xF, aI G ay 40 (fun lv => nI (LN lv)), aI G ad 80 (shf dF JJ (ec - 1)), aJ G an 80 (shf nF JJ (ec - 1)), aI G ab 80 (shf bF JJ (ec - 1)), aI G ar 4 rF, aI G ac 4 cF, aI G at_ 40 tF, aI G aq 100 q2_6] H := va_P.sub hP [12, 0, 1, 2, 3, 4, 5, 6, 7, 13, 8, 9, 10, 11] rfl
                                have hD : va_D A [oC x 8 [.ref ak, .ref am, .ref ao, .ref av, .ref ap, .ref ax, .ref ay, .int (nI (ec - 1)), .ref ad, .ref an, .ref ab, .int (nI vn), .ref ar, .ref ac, .int us, .int ro, .int pr, .ref at_, .int (nI tn), .ref as_, .int (nI sn), .ref aq, .int (nI s2_5), .int a1_7, .int (nI h2_8), .long z2_9, .int (nI n2_10), .int (zI l2_11), .int (zI e2_12)], aI G ak 40 kF, aI G am 40 mF, aI G ao 40 oF, aI G ap 40 pF, aI G ax 1600 xF, aI G ay 40 (fun lv => nI (LN lv)), aI G ad 80 (shf dF JJ (ec - 1)), aJ G an 80 (shf nF JJ (ec - 1)), aI G ab 80 (shf bF JJ (ec - 1)), aI G ar 4 rF, aI G ac 4 cF, aI G at_ 40 tF, aI G aq 100 q2_6] := va_D.sub hD [12, 0, 1, 2, 3, 4, 5, 6, 7, 13, 8, 9, 10, 11] (by decide) rfl
                                have hfc_50 := cntB_le (p := fun j => decide ((shf bF JJ (ec - 1)) j = (bF JJ))) (ec - 1)
                                refine kIfNeN (tgt := 242) hF dX8_remove_235 (by decide) (by omega) (fun c_51 => ?_) (fun c_51 => ?_)
                                · refine lv_aload_n hF.1 hF.2.1 dX8_remove_242 rfl (lv_at hl 4 rfl) ?_
                                  refine kGet (C := RX8) (T := TX8) (N := 29) (index := 7) hF hK hP (inT inBX8) 0 rfl rfl 0 (by decide) rfl (List.mem_cons_of_mem _ mF_X8_7) rfl dX8_remove_243 ?_
                                  refine lv_iload_n hF.1 hF.2.1 dX8_remove_246 rfl (lv_at hl 1 rfl) ?_
                                  refine kIald hF hK hP 1 rfl (hbr _ hJ) dX8_remove_247 ?_
                                  refine kIast hF hK hP hD hS 1 rfl (hbr _ hJ) dX8_remove_248 (fun H locs hP hD hS => ?_)
                                  have hP : PG G [oC x 8 [.ref ak, .ref am, .ref ao, .ref av, .ref ap, .ref ax, .ref ay, .int (nI (ec - 1)), .ref ad, .ref an, .ref ab, .int (nI vn), .ref ar, .ref ac, .int us, .int ro, .int pr, .ref at_, .int (nI tn), .ref as_, .int (nI sn), .ref aq, .int (nI s2_5), .int a1_7, .int (nI h2_8), .long z2_9, .int (nI n2_10), .int (zI l2_11), .int (zI e2_12)], aI G ak 40 (upd kF (ix (bF JJ)) (kF (ix (bF JJ)))), aI G am 40 mF, aI G ao 40 oF, aI G ap 40 pF, aI G ax 1600 xF, aI G ay 40 (fun lv => nI (LN lv)), aI G ad 80 (shf dF JJ (ec - 1)), aJ G an 80 (shf nF JJ (ec - 1)), aI G ab 80 (shf bF JJ (ec - 1)), aI G ar 4 rF, aI G ac 4 cF, aI G at_ 40 tF, aI G aq 100 q2_6] H := hP
                                  have hD : va_D A [oC x 8 [.ref ak, .ref am, .ref ao, .ref av, .ref ap, .ref ax, .ref ay, .int (nI (ec - 1)), .ref ad, .ref an, .ref ab, .int (nI vn), .ref ar, .ref ac, .int us, .int ro, .int pr, .ref at_, .int (nI tn), .ref as_, .int (nI sn), .ref aq, .int (nI s2_5), .int a1_7, .int (nI h2_8), .long z2_9, .int (nI n2_10), .int (zI l2_11), .int (zI e2_12)], aI G ak 40 (upd kF (ix (bF JJ)) (kF (ix (bF JJ)))), aI G am 40 mF, aI G ao 40 oF, aI G ap 40 pF, aI G ax 1600 xF, aI G ay 40 (fun lv => nI (LN lv)), aI G ad 80 (shf dF JJ (ec - 1)), aJ G an 80 (shf nF JJ (ec - 1)), aI G ab 80 (shf bF JJ (ec - 1)), aI G ar 4 rF, aI G ac 4 cF, aI G at_ 40 tF, aI G aq 100 q2_6] := hD
                                  refine lv_iload_n hF.1 hF.2.1 dX8_remove_249 rfl (lv_at hl 1 rfl) ?_
                                  refine kRetI (v := (bF JJ)) hF hr hlk hK hP hD hS hQ rfl ((bF JJ), (ec - 1), shf dF JJ (ec - 1), shf nF JJ (ec - 1), (shf bF JJ (ec - 1)), upd kF (ix (bF JJ)) (kF (ix (bF JJ))), s2_5, q2_6, a1_7, h2_8, z2_9, n2_10, l2_11, e2_12) [0, 1, 2, 3, 4, 5, 6, 7, 8, 9, 10, 11, 12, 13] (by decide) rfl (Nat.le_of_ble_eq_true rfl) (Nat.le_of_ble_eq_true rfl) dX8_remove_250 ?_
                                  refine ⟨rfl, ?_⟩
                                  rw [rmR, if_neg (by omega), pI_f (by assumption), hE, if_pos rfl]
                                  dsimp only
                                  rw [if_neg (by assumption)]
                                  rw [hJJ, if_pos hJ]
                                  rw [wnR, pI_f (fun h => h.2 c_39), pI_t c_41, if_neg (fun h => by rcases h with h | h | h; omega; exact c_45 h; exact c_46 h), if_neg (fun h => c_47 h.1), rmE, if_pos rfl]
                                  rw [if_neg (by omega)]
                                · refine lv_iconst (v := (nI 0)) hF.1 hF.2.1 dX8_remove_238 (by decide) ?_
                                  refine lv_goto (tgt := 248) hF.1 hF.2.1 dX8_remove_239 (by decide) ?_
                                  refine kIast hF hK hP hD hS 1 rfl (hbr _ hJ) dX8_remove_248 (fun H locs hP hD hS => ?_)
                                  have hP : PG G [oC x 8 [.ref ak, .ref am, .ref ao, .ref av, .ref ap, .ref ax, .ref ay, .int (nI (ec - 1)), .ref ad, .ref an, .ref ab, .int (nI vn), .ref ar, .ref ac, .int us, .int ro, .int pr, .ref at_, .int (nI tn), .ref as_, .int (nI sn), .ref aq, .int (nI s2_5), .int a1_7, .int (nI h2_8), .long z2_9, .int (nI n2_10), .int (zI l2_11), .int (zI e2_12)], aI G ak 40 (upd kF (ix (bF JJ)) (nI 0)), aI G am 40 mF, aI G ao 40 oF, aI G ap 40 pF, aI G ax 1600 xF, aI G ay 40 (fun lv => nI (LN lv)), aI G ad 80 (shf dF JJ (ec - 1)), aJ G an 80 (shf nF JJ (ec - 1)), aI G ab 80 (shf bF JJ (ec - 1)), aI G ar 4 rF, aI G ac 4 cF, aI G at_ 40 tF, aI G aq 100 q2_6] H := hP
                                  have hD : va_D A [oC x 8 [.ref ak, .ref am, .ref ao, .ref av, .ref ap, .ref ax, .ref ay, .int (nI (ec - 1)), .ref ad, .ref an, .ref ab, .int (nI vn), .ref ar, .ref ac, .int us, .int ro, .int pr, .ref at_, .int (nI tn), .ref as_, .int (nI sn), .ref aq, .int (nI s2_5), .int a1_7, .int (nI h2_8), .long z2_9, .int (nI n2_10), .int (zI l2_11), .int (zI e2_12)], aI G ak 40 (upd kF (ix (bF JJ)) (nI 0)), aI G am 40 mF, aI G ao 40 oF, aI G ap 40 pF, aI G ax 1600 xF, aI G ay 40 (fun lv => nI (LN lv)), aI G ad 80 (shf dF JJ (ec - 1)), aJ G an 80 (shf nF JJ (ec - 1)), aI G ab 80 (shf bF JJ (ec - 1)), aI G ar 4 rF, aI G ac 4 cF, aI G at_ 40 tF, aI G aq 100 q2_6] := hD
                                  refine lv_iload_n hF.1 hF.2.1 dX8_remove_249 rfl (lv_at hl 1 rfl) ?_
                                  refine kRetI (v := (bF JJ)) hF hr hlk hK hP hD hS hQ rfl ((bF JJ), (ec - 1), shf dF JJ (ec - 1), shf nF JJ (ec - 1), (shf bF JJ (ec - 1)), upd kF (ix (bF JJ)) (nI 0), s2_5, q2_6, a1_7, h2_8, z2_9, n2_10, l2_11, e2_12) [0, 1, 2, 3, 4, 5, 6, 7, 8, 9, 10, 11, 12, 13] (by decide) rfl (Nat.le_of_ble_eq_true rfl) (Nat.le_of_ble_eq_true rfl) dX8_remove_250 ?_
                                  refine ⟨rfl, ?_⟩
                                  rw [rmR, if_neg (by omega), pI_f (by assumption), hE, if_pos rfl]
                                  dsimp only
                                  rw [if_neg (by assumption)]
                                  rw [hJJ, if_pos hJ]
                                  rw [wnR, pI_f (fun h => h.2 c_39), pI_t c_41, if_neg (fun h => by rcases h with h | h | h; omega; exact c_45 h; exact c_46 h), if_neg (fun h => c_47 h.1), rmE, if_pos rfl]
                                  rw [if_pos c_51]
                              · refine lv_aload_n hF.1 hF.2.1 dX8_remove_171 rfl (lv_at hl 4 rfl) ?_
                                refine kGet (C := RX8) (T := TX8) (N := 29) (index := 31) hF hK hP (inT inBX8) 0 rfl rfl 8 (by decide) rfl (List.mem_cons_of_mem _ mF_X8_31) rfl dX8_remove_172 ?_
                                refine lv_iload hF.1 hF.2.1 dX8_remove_175 (lv_at hl 0 rfl) ?_
                                refine lv_aload_n hF.1 hF.2.1 dX8_remove_177 rfl (lv_at hl 4 rfl) ?_
                                refine kGet (C := RX8) (T := TX8) (N := 29) (index := 31) hF hK hP (inT inBX8) 0 rfl rfl 8 (by decide) rfl (List.mem_cons_of_mem _ mF_X8_31) rfl dX8_remove_178 ?_
                                refine lv_iload hF.1 hF.2.1 dX8_remove_181 (lv_at hl 0 rfl) ?_
                                refine lv_iconst (v := (nI 1)) hF.1 hF.2.1 dX8_remove_183 (by decide) ?_
                                refine lv_iadd hF.1 hF.2.1 dX8_remove_184 ?_
                                refine kTop (y := (nI (k + 1))) (nI_add _ _) ?_
                                refine kIaldN hF hK hP 7 rfl (by omega) (by decide) dX8_remove_185 ?_
                                refine kIastN hF hK hP hD hS 7 rfl (by omega) (by decide) dX8_remove_186 (fun H locs hP hD hS => ?_)
                                have hP : PG G [oC x 8 [.ref ak, .ref am, .ref ao, .ref av, .ref ap, .ref ax, .ref ay, .int (nI (ec - 1)), .ref ad, .ref an, .ref ab, .int (nI vn), .ref ar, .ref ac, .int us, .int ro, .int pr, .ref at_, .int (nI tn), .ref as_, .int (nI sn), .ref aq, .int (nI s2_5), .int a1_7, .int (nI h2_8), .long z2_9, .int (nI n2_10), .int (zI l2_11), .int (zI e2_12)], aI G ak 40 kF, aI G am 40 mF, aI G ao 40 oF, aI G ap 40 pF, aI G ax 1600 xF, aI G ay 40 (fun lv => nI (LN lv)), aI G ad 80 (upd d1 k (d1 (k + 1))), aJ G an 80 n1, aI G ab 80 b1, aI G ar 4 rF, aI G ac 4 cF, aI G at_ 40 tF, aI G aq 100 q2_6] H := hP
                                have hD : va_D A [oC x 8 [.ref ak, .ref am, .ref ao, .ref av, .ref ap, .ref ax, .ref ay, .int (nI (ec - 1)), .ref ad, .ref an, .ref ab, .int (nI vn), .ref ar, .ref ac, .int us, .int ro, .int pr, .ref at_, .int (nI tn), .ref as_, .int (nI sn), .ref aq, .int (nI s2_5), .int a1_7, .int (nI h2_8), .long z2_9, .int (nI n2_10), .int (zI l2_11), .int (zI e2_12)], aI G ak 40 kF, aI G am 40 mF, aI G ao 40 oF, aI G ap 40 pF, aI G ax 1600 xF, aI G ay 40 (fun lv => nI (LN lv)), aI G ad 80 (upd d1 k (d1 (k + 1))), aJ G an 80 n1, aI G ab 80 b1, aI G ar 4 rF, aI G ac 4 cF, aI G at_ 40 tF, aI G aq 100 q2_6] := hD
                                refine lv_aload_n hF.1 hF.2.1 dX8_remove_187 rfl (lv_at hl 4 rfl) ?_
                                refine kGet (C := RX8) (T := TX8) (N := 29) (index := 34) hF hK hP (inT inBX8) 0 rfl rfl 9 (by decide) rfl (List.mem_cons_of_mem _ mF_X8_34) rfl dX8_remove_188 ?_
                                refine lv_iload hF.1 hF.2.1 dX8_remove_191 (lv_at hl 0 rfl) ?_
                                refine lv_aload_n hF.1 hF.2.1 dX8_remove_193 rfl (lv_at hl 4 rfl) ?_
                                refine kGet (C := RX8) (T := TX8) (N := 29) (index := 34) hF hK hP (inT inBX8) 0 rfl rfl 9 (by decide) rfl (List.mem_cons_of_mem _ mF_X8_34) rfl dX8_remove_194 ?_
                                refine lv_iload hF.1 hF.2.1 dX8_remove_197 (lv_at hl 0 rfl) ?_
                                refine lv_iconst (v := (nI 1)) hF.1 hF.2.1 dX8_remove_199 (by decide) ?_
                                refine lv_iadd hF.1 hF.2.1 dX8_remove_200 ?_
                                refine kTop (y := (nI (k + 1))) (nI_add _ _) ?_
                                refine kLaldN hF hK hP 8 rfl (by omega) (by decide) dX8_remove_201 ?_
                                refine kLastN hF hK hP hD hS 8 rfl (by omega) (by decide) dX8_remove_202 (fun H locs hP hD hS => ?_)
                                have hP : PG G [oC x 8 [.ref ak, .ref am, .ref ao, .ref av, .ref ap, .ref ax, .ref ay, .int (nI (ec - 1)), .ref ad, .ref an, .ref ab, .int (nI vn), .ref ar, .ref ac, .int us, .int ro, .int pr, .ref at_, .int (nI tn), .ref as_, .int (nI sn), .ref aq, .int (nI s2_5), .int a1_7, .int (nI h2_8), .long z2_9, .int (nI n2_10), .int (zI l2_11), .int (zI e2_12)], aI G ak 40 kF, aI G am 40 mF, aI G ao 40 oF, aI G ap 40 pF, aI G ax 1600 xF, aI G ay 40 (fun lv => nI (LN lv)), aI G ad 80 (upd d1 k (d1 (k + 1))), aJ G an 80 (vp_updL n1 k (n1 (k + 1))), aI G ab 80 b1, aI G ar 4 rF, aI G ac 4 cF, aI G at_ 40 tF, aI G aq 100 q2_6] H := hP
                                have hD : va_D A [oC x 8 [.ref ak, .ref am, .ref ao, .ref av, .ref ap, .ref ax, .ref ay, .int (nI (ec - 1)), .ref ad, .ref an, .ref ab, .int (nI vn), .ref ar, .ref ac, .int us, .int ro, .int pr, .ref at_, .int (nI tn), .ref as_, .int (nI sn), .ref aq, .int (nI s2_5), .int a1_7, .int (nI h2_8), .long z2_9, .int (nI n2_10), .int (zI l2_11), .int (zI e2_12)], aI G ak 40 kF, aI G am 40 mF, aI G ao 40 oF, aI G ap 40 pF, aI G ax 1600 xF, aI G ay 40 (fun lv => nI (LN lv)), aI G ad 80 (upd d1 k (d1 (k + 1))), aJ G an 80 (vp_updL n1 k (n1 (k + 1))), aI G ab 80 b1, aI G ar 4 rF, aI G ac 4 cF, aI G at_ 40 tF, aI G aq 100 q2_6] := hD
                                refine lv_aload_n hF.1 hF.2.1 dX8_remove_203 rfl (lv_at hl 4 rfl) ?_
                                refine kGet (C := RX8) (T := TX8) (N := 29) (index := 38) hF hK hP (inT inBX8) 0 rfl rfl 10 (by decide) rfl (List.mem_cons_of_mem _ mF_X8_38) rfl dX8_remove_204 ?_
                                refine lv_iload hF.1 hF.2.1 dX8_remove_207 (lv_at hl 0 rfl) ?_
                                refine lv_aload_n hF.1 hF.2.1 dX8_remove_209 rfl (lv_at hl 4 rfl) ?_
                                refine kGet (C := RX8) (T := TX8) (N := 29) (index := 38) hF hK hP (inT inBX8) 0 rfl rfl 10 (by decide) rfl (List.mem_cons_of_mem _ mF_X8_38) rfl dX8_remove_210 ?_
                                refine lv_iload hF.1 hF.2.1 dX8_remove_213 (lv_at hl 0 rfl) ?_
                                refine lv_iconst (v := (nI 1)) hF.1 hF.2.1 dX8_remove_215 (by decide) ?_
                                refine lv_iadd hF.1 hF.2.1 dX8_remove_216 ?_
                                refine kTop (y := (nI (k + 1))) (nI_add _ _) ?_
                                refine kIaldN hF hK hP 9 rfl (by omega) (by decide) dX8_remove_217 ?_
                                refine kIastN hF hK hP hD hS 9 rfl (by omega) (by decide) dX8_remove_218 (fun H locs hP hD hS => ?_)
                                have hP : PG G [oC x 8 [.ref ak, .ref am, .ref ao, .ref av, .ref ap, .ref ax, .ref ay, .int (nI (ec - 1)), .ref ad, .ref an, .ref ab, .int (nI vn), .ref ar, .ref ac, .int us, .int ro, .int pr, .ref at_, .int (nI tn), .ref as_, .int (nI sn), .ref aq, .int (nI s2_5), .int a1_7, .int (nI h2_8), .long z2_9, .int (nI n2_10), .int (zI l2_11), .int (zI e2_12)], aI G ak 40 kF, aI G am 40 mF, aI G ao 40 oF, aI G ap 40 pF, aI G ax 1600 xF, aI G ay 40 (fun lv => nI (LN lv)), aI G ad 80 (upd d1 k (d1 (k + 1))), aJ G an 80 (vp_updL n1 k (n1 (k + 1))), aI G ab 80 (upd b1 k (b1 (k + 1))), aI G ar 4 rF, aI G ac 4 cF, aI G at_ 40 tF, aI G aq 100 q2_6] H := hP
                                have hD : va_D A [oC x 8 [.ref ak, .ref am, .ref ao, .ref av, .ref ap, .ref ax, .ref ay, .int (nI (ec - 1)), .ref ad, .ref an, .ref ab, .int (nI vn), .ref ar, .ref ac, .int us, .int ro, .int pr, .ref at_, .int (nI tn), .ref as_, .int (nI sn), .ref aq, .int (nI s2_5), .int a1_7, .int (nI h2_8), .long z2_9, .int (nI n2_10), .int (zI l2_11), .int (zI e2_12)], aI G ak 40 kF, aI G am 40 mF, aI G ao 40 oF, aI G ap 40 pF, aI G ax 1600 xF, aI G ay 40 (fun lv => nI (LN lv)), aI G ad 80 (upd d1 k (d1 (k + 1))), aJ G an 80 (vp_updL n1 k (n1 (k + 1))), aI G ab 80 (upd b1 k (b1 (k + 1))), aI G ar 4 rF, aI G ac 4 cF, aI G at_ 40 tF, aI G aq 100 q2_6] := hD
                                refine lv_iinc (v := (nI (k + 1))) (lv' := [(4, .int (nI (k + 1))), (3, .int (bF JJ)), (2, .int (nI JJ)), (1, .int r0_4), (0, .ref x)]) hF.1 hF.2.1 dX8_remove_219 hl (k := 0) rfl (nI_inc1 _) (by decide) rfl (fun ls hl => ?_)
                                refine lv_goto (tgt := 162) hF.1 hF.2.1 dX8_remove_222 (by decide) ?_
                                exact ih_162 (k + 1) (upd d1 k (d1 (k + 1))) (vp_updL n1 k (n1 (k + 1))) (upd b1 k (b1 (k + 1))) (by omega) (by omega) (by rw [hd1]; exact shf_s (by omega)) (by rw [hn1]; exact shf_sL (by omega)) (by rw [hb1]; exact shf_s (by omega)) H locs ls hP hD hS (lv_sub hl [0, 1, 2, 3, 4] rfl)
                          exact loop_162 _ JJ dF nF bF (Nat.lt_succ_self _) (by omega) ((shf_0 _ _).symm) ((shf_0 _ _).symm) ((shf_0 _ _).symm) _ _ _ hP hD hS (lv_sub hl [0, 1, 2, 3, 4] rfl)
                        · refine lv_aload_n hF.1 hF.2.1 dX8_remove_138 rfl (lv_at hl 3 rfl) ?_
                          refine lv_iload_n hF.1 hF.2.1 dX8_remove_139 rfl (lv_at hl 0 rfl) ?_
                          refine kCallI (wr := [aI G ak 40 kF, aI G am 40 mF, aI G ao 40 oF, aI G ap 40 pF, aI G ax 1600 xF, aI G ay 40 (fun lv => nI (LN lv)), aJ G an 80 nF, aI G ab 80 bF, aI G ar 4 rF, aI G ac 4 cF, aI G at_ 40 tF, aI G aq 100 q2_6]) (va_runV (As := [.int (bF JJ)]) (rest := []) hF (c_X8_entriesOf l G H.size x ak am ao av ap ax ay ad an ab ar ac at_ as_ aq ec vn tn sn s2_5 h2_8 n2_10 us ro pr a1_7 z2_9 l2_11 e2_12 dF (bF JJ) (by first | assumption | omega)) (cwVB 1 hF rfl mL_X8_180 mI_X8_entriesOf mS_X8_entriesOf mN_X8 mC_X8_entriesOf rfl hd_X8_entriesOf rfl rfl ⟨Nat.le_of_ble_eq_true rfl, Nat.le_of_ble_eq_true rfl⟩) (kPre hK hP hD [0, 7] (by decide) rfl (q0 := 0) (ci := 8) rfl rfl rfl) rfl rfl hl.1 rfl (lv_room (Nat.le_of_ble_eq_true rfl)) dX8_remove_140 ⟨Nat.le_of_ble_eq_true rfl, Nat.le_of_ble_eq_true rfl⟩) hP hD hS hA [0, 7] [1, 2, 3, 4, 5, 6, 8, 9, 10, 11, 12, 13] rfl rfl (by decide) (by decide) (fun r u H locs hw_52 hP hD hS => ?_)
                          have hw_52 := hw_52.symm
                          subst hw_52
                          have hP : PG G [oC x 8 [.ref ak, .ref am, .ref ao, .ref av, .ref ap, .ref ax, .ref ay, .int (nI ec), .ref ad, .ref an, .ref ab, .int (nI vn), .ref ar, .ref ac, .int us, .int ro, .int pr, .ref at_, .int (nI tn), .ref as_, .int (nI sn), .ref aq, .int (nI s2_5), .int a1_7, .int (nI h2_8), .long z2_9, .int (nI n2_10), .int (zI l2_11), .int (zI e2_12)], aI G ak 40 kF, aI G am 40 mF, aI G ao 40 oF, aI G ap 40 pF, aI G ax 1600 xF, aI G ay 40 (fun lv => nI (LN lv)), aI G ad 80 dF, aJ G an 80 nF, aI G ab 80 bF, aI G ar 4 rF, aI G ac 4 cF, aI G at_ 40 tF, aI G aq 100 q2_6] H := va_P.sub hP [12, 0, 1, 2, 3, 4, 5, 13, 6, 7, 8, 9, 10, 11] rfl
                          have hD : va_D A [oC x 8 [.ref ak, .ref am, .ref ao, .ref av, .ref ap, .ref ax, .ref ay, .int (nI ec), .ref ad, .ref an, .ref ab, .int (nI vn), .ref ar, .ref ac, .int us, .int ro, .int pr, .ref at_, .int (nI tn), .ref as_, .int (nI sn), .ref aq, .int (nI s2_5), .int a1_7, .int (nI h2_8), .long z2_9, .int (nI n2_10), .int (zI l2_11), .int (zI e2_12)], aI G ak 40 kF, aI G am 40 mF, aI G ao 40 oF, aI G ap 40 pF, aI G ax 1600 xF, aI G ay 40 (fun lv => nI (LN lv)), aI G ad 80 dF, aJ G an 80 nF, aI G ab 80 bF, aI G ar 4 rF, aI G ac 4 cF, aI G at_ 40 tF, aI G aq 100 q2_6] := va_D.sub hD [12, 0, 1, 2, 3, 4, 5, 13, 6, 7, 8, 9, 10, 11] (by decide) rfl
                          have hfc_53 := cntB_le (p := fun j => decide (dF j = (bF JJ))) ec
                          refine kIfLeN (tgt := 149) hF dX8_remove_143 (by decide) (by omega) (fun c_54 => ?_) (fun c_54 => ?_)
                          · refine lv_aload_n hF.1 hF.2.1 dX8_remove_149 rfl (lv_at hl 3 rfl) ?_
                            refine lv_aload_n hF.1 hF.2.1 dX8_remove_150 rfl (lv_at hl 3 rfl) ?_
                            refine kGet (C := RX8) (T := TX8) (N := 29) (index := 82) hF hK hP (inT inBX8) 0 rfl rfl 7 (by decide) rfl (List.mem_cons_of_mem _ mF_X8_82) rfl dX8_remove_151 ?_
                            refine lv_iconst (v := (nI 1)) hF.1 hF.2.1 dX8_remove_154 (by decide) ?_
                            refine lv_isub hF.1 hF.2.1 dX8_remove_155 ?_
                            refine kTop (y := (nI (ec - 1))) (pk_sub (by omega)) ?_
                            refine kPut (C := RX8) (T := TX8) (N := 29) (index := 82) (v := .int (nI (ec - 1))) hF hK hP hD hS (inT inBX8) tyX8_ok nmX8 0 rfl rfl 7 (by decide) rfl (List.mem_cons_of_mem _ mF_X8_82) rfl rfl rfl (Nat.le_of_ble_eq_true rfl) dX8_remove_156 (fun H locs hP hD hS => ?_)
                            have hP : PG G [oC x 8 [.ref ak, .ref am, .ref ao, .ref av, .ref ap, .ref ax, .ref ay, .int (nI (ec - 1)), .ref ad, .ref an, .ref ab, .int (nI vn), .ref ar, .ref ac, .int us, .int ro, .int pr, .ref at_, .int (nI tn), .ref as_, .int (nI sn), .ref aq, .int (nI s2_5), .int a1_7, .int (nI h2_8), .long z2_9, .int (nI n2_10), .int (zI l2_11), .int (zI e2_12)], aI G ak 40 kF, aI G am 40 mF, aI G ao 40 oF, aI G ap 40 pF, aI G ax 1600 xF, aI G ay 40 (fun lv => nI (LN lv)), aI G ad 80 dF, aJ G an 80 nF, aI G ab 80 bF, aI G ar 4 rF, aI G ac 4 cF, aI G at_ 40 tF, aI G aq 100 q2_6] H := hP
                            have hD : va_D A [oC x 8 [.ref ak, .ref am, .ref ao, .ref av, .ref ap, .ref ax, .ref ay, .int (nI (ec - 1)), .ref ad, .ref an, .ref ab, .int (nI vn), .ref ar, .ref ac, .int us, .int ro, .int pr, .ref at_, .int (nI tn), .ref as_, .int (nI sn), .ref aq, .int (nI s2_5), .int a1_7, .int (nI h2_8), .long z2_9, .int (nI n2_10), .int (zI l2_11), .int (zI e2_12)], aI G ak 40 kF, aI G am 40 mF, aI G ao 40 oF, aI G ap 40 pF, aI G ax 1600 xF, aI G ay 40 (fun lv => nI (LN lv)), aI G ad 80 dF, aJ G an 80 nF, aI G ab 80 bF, aI G ar 4 rF, aI G ac 4 cF, aI G at_ 40 tF, aI G aq 100 q2_6] := hD
                            refine lv_iload_n hF.1 hF.2.1 dX8_remove_159 rfl (lv_at hl 1 rfl) ?_
                            refine lv_istore (lv' := [(4, .int (nI JJ)), (3, .int (bF JJ)), (2, .int (nI JJ)), (1, .int r0_4), (0, .ref x)]) hF.1 hF.2.1 dX8_remove_160 hl (by decide) rfl (fun ls hl => ?_)
                            have loop_162 : ∀ (n_162 : Nat) (k : Nat) (d1 : Nat → Int32) (n1 : Nat → Int64) (b1 : Nat → Int32), ec - k < n_162 → (JJ ≤ k ∧ k ≤ ec - 1) → (d1 = shf dF JJ k) → (n1 = shf nF JJ k) → (b1 = shf bF JJ k) → ∀ (H : Heap) (locs : List Loc) (ls : Array Slot), PG G [oC x 8 [.ref ak, .ref am, .ref ao, .ref av, .ref ap, .ref ax, .ref ay, .int (nI (ec - 1)), .ref ad, .ref an, .ref ab, .int (nI vn), .ref ar, .ref ac, .int us, .int ro, .int pr, .ref at_, .int (nI tn), .ref as_, .int (nI sn), .ref aq, .int (nI s2_5), .int a1_7, .int (nI h2_8), .long z2_9, .int (nI n2_10), .int (zI l2_11), .int (zI e2_12)], aI G ak 40 kF, aI G am 40 mF, aI G ao 40 oF, aI G ap 40 pF, aI G ax 1600 xF, aI G ay 40 (fun lv => nI (LN lv)), aI G ad 80 d1, aJ G an 80 n1, aI G ab 80 b1, aI G ar 4 rF, aI G ac 4 cF, aI G at_ 40 tF, aI G aq 100 q2_6] H → va_D A [oC x 8 [.ref ak, .ref am, .ref ao, .ref av, .ref ap, .ref ax, .ref ay, .int (nI (ec - 1)), .ref ad, .ref an, .ref ab, .int (nI vn), .ref ar, .ref ac, .int us, .int ro, .int pr, .ref at_, .int (nI tn), .ref as_, .int (nI sn), .ref aq, .int (nI s2_5), .int a1_7, .int (nI h2_8), .long z2_9, .int (nI n2_10), .int (zI l2_11), .int (zI e2_12)], aI G ak 40 kF, aI G am 40 mF, aI G ao 40 oF, aI G ap 40 pF, aI G ax 1600 xF, aI G ay 40 (fun lv => nI (LN lv)), aI G ad 80 d1, aJ G an 80 n1, aI G ab 80 b1, aI G ar 4 rF, aI G ac 4 cF, aI G at_ 40 tF, aI G aq 100 q2_6] → va_S A s.heap H locs → lv_has ls 5 [(4, .int (nI k)), (3, .int (bF JJ)), (2, .int (nI JJ)), (1, .int r0_4), (0, .ref x)] → W p l e (Rm 5 0 0 113) s m args below meth c H locs 0 0 Q (F0 m 162 ls []) := by
                              intro n_162
                              induction n_162 with
                              | zero => intro k d1 n1 b1 hm; exact absurd hm (Nat.not_lt_zero _)
                              | succ n_162 ih_162 =>
                                intro k d1 n1 b1 hm_162 hk hd1 hn1 hb1 H locs ls hP hD hS hl
                                refine lv_iload hF.1 hF.2.1 dX8_remove_162 (lv_at hl 0 rfl) ?_
                                refine lv_aload_n hF.1 hF.2.1 dX8_remove_164 rfl (lv_at hl 4 rfl) ?_
                                refine kGet (C := RX8) (T := TX8) (N := 29) (index := 82) hF hK hP (inT inBX8) 0 rfl rfl 7 (by decide) rfl (List.mem_cons_of_mem _ mF_X8_82) rfl dX8_remove_165 ?_
                                refine kGeN (tgt := 225) hF dX8_remove_168 (by decide) (by omega) (by omega) (fun c_55 => ?_) (fun c_55 => ?_)
                                · rw [hd1, hn1, hb1, show k = ec - 1 by omega] at hP hD
                                  refine lv_aload_n hF.1 hF.2.1 dX8_remove_225 rfl (lv_at hl 4 rfl) ?_
                                  refine kGet (C := RX8) (T := TX8) (N := 29) (index := 7) hF hK hP (inT inBX8) 0 rfl rfl 0 (by decide) rfl (List.mem_cons_of_mem _ mF_X8_7) rfl dX8_remove_226 ?_
                                  refine lv_iload_n hF.1 hF.2.1 dX8_remove_229 rfl (lv_at hl 1 rfl) ?_
                                  refine lv_aload_n hF.1 hF.2.1 dX8_remove_230 rfl (lv_at hl 4 rfl) ?_
                                  refine lv_iload_n hF.1 hF.2.1 dX8_remove_231 rfl (lv_at hl 1 rfl) ?_
                                  refine kCallI (wr := [aI G ak 40 kF, aI G am 40 mF, aI G ao 40 oF, aI G ap 40 pF, aI G ax 1600 xF, aI G ay 40 (fun lv => nI (LN lv)), aI G ad 80 (shf dF JJ (ec - 1)), aJ G an 80 (shf nF JJ (ec - 1)), aI G ar 4 rF, aI G ac 4 cF, aI G at_ 40 tF, aI G aq 100 q2_6]) (va_runV (As := [.int (bF JJ)]) (rest := [.int (bF JJ), .ref ak]) hF (c_X8_entriesFor l G H.size x ak am ao av ap ax ay ad an ab ar ac at_ as_ aq (ec - 1) vn tn sn s2_5 h2_8 n2_10 us ro pr a1_7 z2_9 l2_11 e2_12 (shf bF JJ (ec - 1)) (bF JJ) (by first | assumption | omega)) (cwVB 1 hF rfl mL_X8_183 mI_X8_entriesFor mS_X8_entriesFor mN_X8 mC_X8_entriesFor rfl hd_X8_entriesFor rfl rfl ⟨Nat.le_of_ble_eq_true rfl, Nat.le_of_ble_eq_true rfl⟩) (kPre hK hP hD [0, 9] (by decide) rfl (q0 := 0) (ci := 8) rfl rfl rfl) rfl rfl hl.1 rfl (lv_room (Nat.le_of_ble_eq_true rfl)) dX8_remove_232 ⟨Nat.le_of_ble_eq_true rfl, Nat.le_of_ble_eq_true rfl⟩) hP hD hS hA [0, 9] [1, 2, 3, 4, 5, 6, 7, 8, 10, 11, 12, 13] rfl rfl (by decide) (by decide) (fun r u H locs hw_56 hP hD hS => ?_)
                                  have hw_56 := hw_56.symm
                                  subst hw_56
                                  have hP : PG G [oC x 8 [.ref ak, .ref am, .ref ao, .ref av, .ref ap, .ref ax, .ref ay, .int (nI (ec - 1)), .ref ad, .ref an, .ref ab, .int (nI vn), .ref ar, .ref ac, .int us, .int ro, .int pr, .ref at_, .int (nI tn), .ref as_, .int (nI sn), .ref aq, .int (nI s2_5), .int a1_7, .int (nI h2_8), .long z2_9, .int (nI n2_10), .int (zI l2_11), .int (zI e2_12)], aI G ak 40 kF, aI G am 40 mF, aI G ao 40 oF, aI G ap 40 pF, aI G ax 1600 xF, aI G ay 40 (fun lv => nI (LN lv)), aI G ad 80 (shf dF JJ (ec - 1)), aJ G an 80 (shf nF JJ (ec - 1)), aI G ab 80 (shf bF JJ (ec - 1)), aI G ar 4 rF, aI G ac 4 cF, aI G at_ 40 tF, aI G aq 100 q2_6] H := va_P.sub hP [12, 0, 1, 2, 3, 4, 5, 6, 7, 13, 8, 9, 10, 11] rfl
                                  have hD : va_D A [oC x 8 [.ref ak, .ref am, .ref ao, .ref av, .ref ap, .ref ax, .ref ay, .int (nI (ec - 1)), .ref ad, .ref an, .ref ab, .int (nI vn), .ref ar, .ref ac, .int us, .int ro, .int pr, .ref at_, .int (nI tn), .ref as_, .int (nI sn), .ref aq, .int (nI s2_5), .int a1_7, .int (nI h2_8), .long z2_9, .int (nI n2_10), .int (zI l2_11), .int (zI e2_12)], aI G ak 40 kF, aI G am 40 mF, aI G ao 40 oF, aI G ap 40 pF, aI G ax 1600 xF, aI G ay 40 (fun lv => nI (LN lv)), aI G ad 80 (shf dF JJ (ec - 1)), aJ G an 80 (shf nF JJ (ec - 1)), aI G ab 80 (shf bF JJ (ec - 1)), aI G ar 4 rF, aI G ac 4 cF, aI G at_ 40 tF, aI G aq 100 q2_6] := va_D.sub hD [12, 0, 1, 2, 3, 4, 5, 6, 7, 13, 8, 9, 10, 11] (by decide) rfl
                                  have hfc_57 := cntB_le (p := fun j => decide ((shf bF JJ (ec - 1)) j = (bF JJ))) (ec - 1)
                                  refine kIfNeN (tgt := 242) hF dX8_remove_235 (by decide) (by omega) (fun c_58 => ?_) (fun c_58 => ?_)
                                  · refine lv_aload_n hF.1 hF.2.1 dX8_remove_242 rfl (lv_at hl 4 rfl) ?_
                                    refine kGet (C := RX8) (T := TX8) (N := 29) (index := 7) hF hK hP (inT inBX8) 0 rfl rfl 0 (by decide) rfl (List.mem_cons_of_mem _ mF_X8_7) rfl dX8_remove_243 ?_
                                    refine lv_iload_n hF.1 hF.2.1 dX8_remove_246 rfl (lv_at hl 1 rfl) ?_
                                    refine kIald hF hK hP 1 rfl (hbr _ hJ) dX8_remove_247 ?_
                                    refine kIast hF hK hP hD hS 1 rfl (hbr _ hJ) dX8_remove_248 (fun H locs hP hD hS => ?_)
                                    have hP : PG G [oC x 8 [.ref ak, .ref am, .ref ao, .ref av, .ref ap, .ref ax, .ref ay, .int (nI (ec - 1)), .ref ad, .ref an, .ref ab, .int (nI vn), .ref ar, .ref ac, .int us, .int ro, .int pr, .ref at_, .int (nI tn), .ref as_, .int (nI sn), .ref aq, .int (nI s2_5), .int a1_7, .int (nI h2_8), .long z2_9, .int (nI n2_10), .int (zI l2_11), .int (zI e2_12)], aI G ak 40 (upd kF (ix (bF JJ)) (kF (ix (bF JJ)))), aI G am 40 mF, aI G ao 40 oF, aI G ap 40 pF, aI G ax 1600 xF, aI G ay 40 (fun lv => nI (LN lv)), aI G ad 80 (shf dF JJ (ec - 1)), aJ G an 80 (shf nF JJ (ec - 1)), aI G ab 80 (shf bF JJ (ec - 1)), aI G ar 4 rF, aI G ac 4 cF, aI G at_ 40 tF, aI G aq 100 q2_6] H := hP
                                    have hD : va_D A [oC x 8 [.ref ak, .ref am, .ref ao, .ref av, .ref ap, .ref ax, .ref ay, .int (nI (ec - 1)), .ref ad, .ref an, .ref ab, .int (nI vn), .ref ar, .ref ac, .int us, .int ro, .int pr, .ref at_, .int (nI tn), .ref as_, .int (nI sn), .ref aq, .int (nI s2_5), .int a1_7, .int (nI h2_8), .long z2_9, .int (nI n2_10), .int (zI l2_11), .int (zI e2_12)], aI G ak 40 (upd kF (ix (bF JJ)) (kF (ix (bF JJ)))), aI G am 40 mF, aI G ao 40 oF, aI G ap 40 pF, aI G ax 1600 xF, aI G ay 40 (fun lv => nI (LN lv)), aI G ad 80 (shf dF JJ (ec - 1)), aJ G an 80 (shf nF JJ (ec - 1)), aI G ab 80 (shf bF JJ (ec - 1)), aI G ar 4 rF, aI G ac 4 cF, aI G at_ 40 tF, aI G aq 100 q2_6] := hD
                                    refine lv_iload_n hF.1 hF.2.1 dX8_remove_249 rfl (lv_at hl 1 rfl) ?_
                                    refine kRetI (v := (bF JJ)) hF hr hlk hK hP hD hS hQ rfl ((bF JJ), (ec - 1), shf dF JJ (ec - 1), shf nF JJ (ec - 1), (shf bF JJ (ec - 1)), upd kF (ix (bF JJ)) (kF (ix (bF JJ))), s2_5, q2_6, a1_7, h2_8, z2_9, n2_10, l2_11, e2_12) [0, 1, 2, 3, 4, 5, 6, 7, 8, 9, 10, 11, 12, 13] (by decide) rfl (Nat.le_of_ble_eq_true rfl) (Nat.le_of_ble_eq_true rfl) dX8_remove_250 ?_
                                    refine ⟨rfl, ?_⟩
                                    rw [rmR, if_neg (by omega), pI_f (by assumption), hE, if_pos rfl]
                                    dsimp only
                                    rw [if_neg (by assumption)]
                                    rw [hJJ, if_pos hJ]
                                    rw [wnR, pI_f (fun h => h.2 c_39), pI_t c_41, if_neg (fun h => by rcases h with h | h | h; omega; exact c_45 h; exact c_46 h), if_neg (fun h => by have := h.2; omega), rmE, if_pos rfl]
                                    rw [if_neg (by omega)]
                                  · refine lv_iconst (v := (nI 0)) hF.1 hF.2.1 dX8_remove_238 (by decide) ?_
                                    refine lv_goto (tgt := 248) hF.1 hF.2.1 dX8_remove_239 (by decide) ?_
                                    refine kIast hF hK hP hD hS 1 rfl (hbr _ hJ) dX8_remove_248 (fun H locs hP hD hS => ?_)
                                    have hP : PG G [oC x 8 [.ref ak, .ref am, .ref ao, .ref av, .ref ap, .ref ax, .ref ay, .int (nI (ec - 1)), .ref ad, .ref an, .ref ab, .int (nI vn), .ref ar, .ref ac, .int us, .int ro, .int pr, .ref at_, .int (nI tn), .ref as_, .int (nI sn), .ref aq, .int (nI s2_5), .int a1_7, .int (nI h2_8), .long z2_9, .int (nI n2_10), .int (zI l2_11), .int (zI e2_12)], aI G ak 40 (upd kF (ix (bF JJ)) (nI 0)), aI G am 40 mF, aI G ao 40 oF, aI G ap 40 pF, aI G ax 1600 xF, aI G ay 40 (fun lv => nI (LN lv)), aI G ad 80 (shf dF JJ (ec - 1)), aJ G an 80 (shf nF JJ (ec - 1)), aI G ab 80 (shf bF JJ (ec - 1)), aI G ar 4 rF, aI G ac 4 cF, aI G at_ 40 tF, aI G aq 100 q2_6] H := hP
                                    have hD : va_D A [oC x 8 [.ref ak, .ref am, .ref ao, .ref av, .ref ap, .ref ax, .ref ay, .int (nI (ec - 1)), .ref ad, .ref an, .ref ab, .int (nI vn), .ref ar, .ref ac, .int us, .int ro, .int pr, .ref at_, .int (nI tn), .ref as_, .int (nI sn), .ref aq, .int (nI s2_5), .int a1_7, .int (nI h2_8), .long z2_9, .int (nI n2_10), .int (zI l2_11), .int (zI e2_12)], aI G ak 40 (upd kF (ix (bF JJ)) (nI 0)), aI G am 40 mF, aI G ao 40 oF, aI G ap 40 pF, aI G ax 1600 xF, aI G ay 40 (fun lv => nI (LN lv)), aI G ad 80 (shf dF JJ (ec - 1)), aJ G an 80 (shf nF JJ (ec - 1)), aI G ab 80 (shf bF JJ (ec - 1)), aI G ar 4 rF, aI G ac 4 cF, aI G at_ 40 tF, aI G aq 100 q2_6] := hD
                                    refine lv_iload_n hF.1 hF.2.1 dX8_remove_249 rfl (lv_at hl 1 rfl) ?_
                                    refine kRetI (v := (bF JJ)) hF hr hlk hK hP hD hS hQ rfl ((bF JJ), (ec - 1), shf dF JJ (ec - 1), shf nF JJ (ec - 1), (shf bF JJ (ec - 1)), upd kF (ix (bF JJ)) (nI 0), s2_5, q2_6, a1_7, h2_8, z2_9, n2_10, l2_11, e2_12) [0, 1, 2, 3, 4, 5, 6, 7, 8, 9, 10, 11, 12, 13] (by decide) rfl (Nat.le_of_ble_eq_true rfl) (Nat.le_of_ble_eq_true rfl) dX8_remove_250 ?_
                                    refine ⟨rfl, ?_⟩
                                    rw [rmR, if_neg (by omega), pI_f (by assumption), hE, if_pos rfl]
                                    dsimp only
                                    rw [if_neg (by assumption)]
                                    rw [hJJ, if_pos hJ]
                                    rw [wnR, pI_f (fun h => h.2 c_39), pI_t c_41, if_neg (fun h => by rcases h with h | h | h; omega; exact c_45 h; exact c_46 h), if_neg (fun h => by have := h.2; omega), rmE, if_pos rfl]
                                    rw [if_pos c_58]
                                · refine lv_aload_n hF.1 hF.2.1 dX8_remove_171 rfl (lv_at hl 4 rfl) ?_
                                  refine kGet (C := RX8) (T := TX8) (N := 29) (index := 31) hF hK hP (inT inBX8) 0 rfl rfl 8 (by decide) rfl (List.mem_cons_of_mem _ mF_X8_31) rfl dX8_remove_172 ?_
                                  refine lv_iload hF.1 hF.2.1 dX8_remove_175 (lv_at hl 0 rfl) ?_
                                  refine lv_aload_n hF.1 hF.2.1 dX8_remove_177 rfl (lv_at hl 4 rfl) ?_
                                  refine kGet (C := RX8) (T := TX8) (N := 29) (index := 31) hF hK hP (inT inBX8) 0 rfl rfl 8 (by decide) rfl (List.mem_cons_of_mem _ mF_X8_31) rfl dX8_remove_178 ?_
                                  refine lv_iload hF.1 hF.2.1 dX8_remove_181 (lv_at hl 0 rfl) ?_
                                  refine lv_iconst (v := (nI 1)) hF.1 hF.2.1 dX8_remove_183 (by decide) ?_
                                  refine lv_iadd hF.1 hF.2.1 dX8_remove_184 ?_
                                  refine kTop (y := (nI (k + 1))) (nI_add _ _) ?_
                                  refine kIaldN hF hK hP 7 rfl (by omega) (by decide) dX8_remove_185 ?_
                                  refine kIastN hF hK hP hD hS 7 rfl (by omega) (by decide) dX8_remove_186 (fun H locs hP hD hS => ?_)
                                  have hP : PG G [oC x 8 [.ref ak, .ref am, .ref ao, .ref av, .ref ap, .ref ax, .ref ay, .int (nI (ec - 1)), .ref ad, .ref an, .ref ab, .int (nI vn), .ref ar, .ref ac, .int us, .int ro, .int pr, .ref at_, .int (nI tn), .ref as_, .int (nI sn), .ref aq, .int (nI s2_5), .int a1_7, .int (nI h2_8), .long z2_9, .int (nI n2_10), .int (zI l2_11), .int (zI e2_12)], aI G ak 40 kF, aI G am 40 mF, aI G ao 40 oF, aI G ap 40 pF, aI G ax 1600 xF, aI G ay 40 (fun lv => nI (LN lv)), aI G ad 80 (upd d1 k (d1 (k + 1))), aJ G an 80 n1, aI G ab 80 b1, aI G ar 4 rF, aI G ac 4 cF, aI G at_ 40 tF, aI G aq 100 q2_6] H := hP
                                  have hD : va_D A [oC x 8 [.ref ak, .ref am, .ref ao, .ref av, .ref ap, .ref ax, .ref ay, .int (nI (ec - 1)), .ref ad, .ref an, .ref ab, .int (nI vn), .ref ar, .ref ac, .int us, .int ro, .int pr, .ref at_, .int (nI tn), .ref as_, .int (nI sn), .ref aq, .int (nI s2_5), .int a1_7, .int (nI h2_8), .long z2_9, .int (nI n2_10), .int (zI l2_11), .int (zI e2_12)], aI G ak 40 kF, aI G am 40 mF, aI G ao 40 oF, aI G ap 40 pF, aI G ax 1600 xF, aI G ay 40 (fun lv => nI (LN lv)), aI G ad 80 (upd d1 k (d1 (k + 1))), aJ G an 80 n1, aI G ab 80 b1, aI G ar 4 rF, aI G ac 4 cF, aI G at_ 40 tF, aI G aq 100 q2_6] := hD
                                  refine lv_aload_n hF.1 hF.2.1 dX8_remove_187 rfl (lv_at hl 4 rfl) ?_
                                  refine kGet (C := RX8) (T := TX8) (N := 29) (index := 34) hF hK hP (inT inBX8) 0 rfl rfl 9 (by decide) rfl (List.mem_cons_of_mem _ mF_X8_34) rfl dX8_remove_188 ?_
                                  refine lv_iload hF.1 hF.2.1 dX8_remove_191 (lv_at hl 0 rfl) ?_
                                  refine lv_aload_n hF.1 hF.2.1 dX8_remove_193 rfl (lv_at hl 4 rfl) ?_
                                  refine kGet (C := RX8) (T := TX8) (N := 29) (index := 34) hF hK hP (inT inBX8) 0 rfl rfl 9 (by decide) rfl (List.mem_cons_of_mem _ mF_X8_34) rfl dX8_remove_194 ?_
                                  refine lv_iload hF.1 hF.2.1 dX8_remove_197 (lv_at hl 0 rfl) ?_
                                  refine lv_iconst (v := (nI 1)) hF.1 hF.2.1 dX8_remove_199 (by decide) ?_
                                  refine lv_iadd hF.1 hF.2.1 dX8_remove_200 ?_
                                  refine kTop (y := (nI (k + 1))) (nI_add _ _) ?_
                                  refine kLaldN hF hK hP 8 rfl (by omega) (by decide) dX8_remove_201 ?_
                                  refine kLastN hF hK hP hD hS 8 rfl (by omega) (by decide) dX8_remove_202 (fun H locs hP hD hS => ?_)
                                  have hP : PG G [oC x 8 [.ref ak, .ref am, .ref ao, .ref av, .ref ap, .ref ax, .ref ay, .int (nI (ec - 1)), .ref ad, .ref an, .ref ab, .int (nI vn), .ref ar, .ref ac, .int us, .int ro, .int pr, .ref at_, .int (nI tn), .ref as_, .int (nI sn), .ref aq, .int (nI s2_5), .int a1_7, .int (nI h2_8), .long z2_9, .int (nI n2_10), .int (zI l2_11), .int (zI e2_12)], aI G ak 40 kF, aI G am 40 mF, aI G ao 40 oF, aI G ap 40 pF, aI G ax 1600 xF, aI G ay 40 (fun lv => nI (LN lv)), aI G ad 80 (upd d1 k (d1 (k + 1))), aJ G an 80 (vp_updL n1 k (n1 (k + 1))), aI G ab 80 b1, aI G ar 4 rF, aI G ac 4 cF, aI G at_ 40 tF, aI G aq 100 q2_6] H := hP
                                  have hD : va_D A [oC x 8 [.ref ak, .ref am, .ref ao, .ref av, .ref ap, .ref ax, .ref ay, .int (nI (ec - 1)), .ref ad, .ref an, .ref ab, .int (nI vn), .ref ar, .ref ac, .int us, .int ro, .int pr, .ref at_, .int (nI tn), .ref as_, .int (nI sn), .ref aq, .int (nI s2_5), .int a1_7, .int (nI h2_8), .long z2_9, .int (nI n2_10), .int (zI l2_11), .int (zI e2_12)], aI G ak 40 kF, aI G am 40 mF, aI G ao 40 oF, aI G ap 40 pF, aI G ax 1600 xF, aI G ay 40 (fun lv => nI (LN lv)), aI G ad 80 (upd d1 k (d1 (k + 1))), aJ G an 80 (vp_updL n1 k (n1 (k + 1))), aI G ab 80 b1, aI G ar 4 rF, aI G ac 4 cF, aI G at_ 40 tF, aI G aq 100 q2_6] := hD
                                  refine lv_aload_n hF.1 hF.2.1 dX8_remove_203 rfl (lv_at hl 4 rfl) ?_
                                  refine kGet (C := RX8) (T := TX8) (N := 29) (index := 38) hF hK hP (inT inBX8) 0 rfl rfl 10 (by decide) rfl (List.mem_cons_of_mem _ mF_X8_38) rfl dX8_remove_204 ?_
                                  refine lv_iload hF.1 hF.2.1 dX8_remove_207 (lv_at hl 0 rfl) ?_
                                  refine lv_aload_n hF.1 hF.2.1 dX8_remove_209 rfl (lv_at hl 4 rfl) ?_
                                  refine kGet (C := RX8) (T := TX8) (N := 29) (index := 38) hF hK hP (inT inBX8) 0 rfl rfl 10 (by decide) rfl (List.mem_cons_of_mem _ mF_X8_38) rfl dX8_remove_210 ?_
                                  refine lv_iload hF.1 hF.2.1 dX8_remove_213 (lv_at hl 0 rfl) ?_
                                  refine lv_iconst (v := (nI 1)) hF.1 hF.2.1 dX8_remove_215 (by decide) ?_
                                  refine lv_iadd hF.1 hF.2.1 dX8_remove_216 ?_
                                  refine kTop (y := (nI (k + 1))) (nI_add _ _) ?_
                                  refine kIaldN hF hK hP 9 rfl (by omega) (by decide) dX8_remove_217 ?_
                                  refine kIastN hF hK hP hD hS 9 rfl (by omega) (by decide) dX8_remove_218 (fun H locs hP hD hS => ?_)
                                  have hP : PG G [oC x 8 [.ref ak, .ref am, .ref ao, .ref av, .ref ap, .ref ax, .ref ay, .int (nI (ec - 1)), .ref ad, .ref an, .ref ab, .int (nI vn), .ref ar, .ref ac, .int us, .int ro, .int pr, .ref at_, .int (nI tn), .ref as_, .int (nI sn), .ref aq, .int (nI s2_5), .int a1_7, .int (nI h2_8), .long z2_9, .int (nI n2_10), .int (zI l2_11), .int (zI e2_12)], aI G ak 40 kF, aI G am 40 mF, aI G ao 40 oF, aI G ap 40 pF, aI G ax 1600 xF, aI G ay 40 (fun lv => nI (LN lv)), aI G ad 80 (upd d1 k (d1 (k + 1))), aJ G an 80 (vp_updL n1 k (n1 (k + 1))), aI G ab 80 (upd b1 k (b1 (k + 1))), aI G ar 4 rF, aI G ac 4 cF, aI G at_ 40 tF, aI G aq 100 q2_6] H := hP
                                  have hD : va_D A [oC x 8 [.ref ak, .ref am, .ref ao, .ref av, .ref ap, .ref ax, .ref ay, .int (nI (ec - 1)), .ref ad, .ref an, .ref ab, .int (nI vn), .ref ar, .ref ac, .int us, .int ro, .int pr, .ref at_, .int (nI tn), .ref as_, .int (nI sn), .ref aq, .int (nI s2_5), .int a1_7, .int (nI h2_8), .long z2_9, .int (nI n2_10), .int (zI l2_11), .int (zI e2_12)], aI G ak 40 kF, aI G am 40 mF, aI G ao 40 oF, aI G ap 40 pF, aI G ax 1600 xF, aI G ay 40 (fun lv => nI (LN lv)), aI G ad 80 (upd d1 k (d1 (k + 1))), aJ G an 80 (vp_updL n1 k (n1 (k + 1))), aI G ab 80 (upd b1 k (b1 (k + 1))), aI G ar 4 rF, aI G ac 4 cF, aI G at_ 40 tF, aI G aq 100 q2_6] := hD
                                  refine lv_iinc (v := (nI (k + 1))) (lv' := [(4, .int (nI (k + 1))), (3, .int (bF JJ)), (2, .int (nI JJ)), (1, .int r0_4), (0, .ref x)]) hF.1 hF.2.1 dX8_remove_219 hl (k := 0) rfl (nI_inc1 _) (by decide) rfl (fun ls hl => ?_)
                                  refine lv_goto (tgt := 162) hF.1 hF.2.1 dX8_remove_222 (by decide) ?_
                                  exact ih_162 (k + 1) (upd d1 k (d1 (k + 1))) (vp_updL n1 k (n1 (k + 1))) (upd b1 k (b1 (k + 1))) (by omega) (by omega) (by rw [hd1]; exact shf_s (by omega)) (by rw [hn1]; exact shf_sL (by omega)) (by rw [hb1]; exact shf_s (by omega)) H locs ls hP hD hS (lv_sub hl [0, 1, 2, 3, 4] rfl)
                            exact loop_162 _ JJ dF nF bF (Nat.lt_succ_self _) (by omega) ((shf_0 _ _).symm) ((shf_0 _ _).symm) ((shf_0 _ _).symm) _ _ _ hP hD hS (lv_sub hl [0, 1, 2, 3, 4] rfl)
                          · refine lv_bipush (v := (-8)) hF.1 hF.2.1 dX8_remove_146 (by decide) ?_
                            refine kRetI (v := (-8)) hF hr hlk hK hP hD hS hQ rfl ((-8), ec, dF, nF, bF, kF, s2_5, q2_6, a1_7, h2_8, z2_9, n2_10, l2_11, e2_12) [0, 1, 2, 3, 4, 5, 6, 7, 8, 9, 10, 11, 12, 13] (by decide) rfl (Nat.le_of_ble_eq_true rfl) (Nat.le_of_ble_eq_true rfl) dX8_remove_148 ?_
                            refine ⟨rfl, ?_⟩
                            rw [rmR, if_neg (by omega), pI_f (by assumption), hE, if_pos rfl]
                            dsimp only
                            rw [if_neg (by assumption)]
                            rw [hJJ, if_pos hJ]
                            rw [wnR, pI_f (fun h => h.2 c_39), pI_t c_41, if_neg (fun h => by rcases h with h | h | h; omega; exact c_45 h; exact c_46 h), if_pos ⟨c_47, c_54⟩, rmE, if_neg (by decide)]
                      · refine lv_bipush (v := (-7)) hF.1 hF.2.1 dX8_remove_125 (by decide) ?_
                        refine kRetI (v := (-7)) hF hr hlk hK hP hD hS hQ rfl ((-7), ec, dF, nF, bF, kF, s2_5, q2_6, a1_7, h2_8, z2_9, n2_10, l2_11, e2_12) [0, 1, 2, 3, 4, 5, 6, 7, 8, 9, 10, 11, 12, 13] (by decide) rfl (Nat.le_of_ble_eq_true rfl) (Nat.le_of_ble_eq_true rfl) dX8_remove_127 ?_
                        refine ⟨rfl, ?_⟩
                        rw [rmR, if_neg (by omega), pI_f (by assumption), hE, if_pos rfl]
                        dsimp only
                        rw [if_neg (by assumption)]
                        rw [hJJ, if_pos hJ]
                        rw [wnR, pI_f (fun h => h.2 c_39), pI_t c_41, if_pos (Or.inr (Or.inr c_46)), rmE, if_neg (by decide)]
                · refine lv_bipush (v := (-3)) hF.1 hF.2.1 dX8_remove_98 (by decide) ?_
                  refine kRetI (v := (-3)) hF hr hlk hK hP hD hS hQ rfl ((-3), ec, dF, nF, bF, kF, s2_5, q2_6, a1_7, h2_8, z2_9, n2_10, l2_11, e2_12) [0, 1, 2, 3, 4, 5, 6, 7, 8, 9, 10, 11, 12, 13] (by decide) rfl (Nat.le_of_ble_eq_true rfl) (Nat.le_of_ble_eq_true rfl) dX8_remove_100 ?_
                  refine ⟨rfl, ?_⟩
                  rw [rmR, if_neg (by omega), pI_f (by assumption), hE, if_pos rfl]
                  dsimp only
                  rw [if_neg (by assumption)]
                  rw [hJJ, if_pos hJ]
                  rw [wnR, pI_f (fun h => h.2 c_39), pI_f c_41, rmE, if_neg (by decide)]
              · refine lv_bipush (v := (-2)) hF.1 hF.2.1 dX8_remove_83 (by decide) ?_
                refine kRetI (v := (-2)) hF hr hlk hK hP hD hS hQ rfl ((-2), ec, dF, nF, bF, kF, s2_5, q2_6, a1_7, h2_8, z2_9, n2_10, l2_11, e2_12) [0, 1, 2, 3, 4, 5, 6, 7, 8, 9, 10, 11, 12, 13] (by decide) rfl (Nat.le_of_ble_eq_true rfl) (Nat.le_of_ble_eq_true rfl) dX8_remove_85 ?_
                refine ⟨rfl, ?_⟩
                rw [rmR, if_neg (by omega), pI_f (by assumption), hE, if_pos rfl]
                dsimp only
                rw [if_neg (by assumption)]
                rw [hJJ, if_pos hJ]
                rw [wnR, pI_t ⟨c_19, c_39⟩, rmE, if_neg (by decide)]
          · have hJ := rI_ng c_18 (by omega)
            refine lv_iconst (v := (-1)) hF.1 hF.2.1 dX8_remove_57 (by decide) ?_
            refine kRetI (v := (-1)) hF hr hlk hK hP hD hS hQ rfl ((-1), ec, dF, nF, bF, kF, s2_5, q2_6, a1_7, h2_8, z2_9, n2_10, l2_11, e2_12) [0, 1, 2, 3, 4, 5, 6, 7, 8, 9, 10, 11, 12, 13] (by decide) rfl (Nat.le_of_ble_eq_true rfl) (Nat.le_of_ble_eq_true rfl) dX8_remove_58 ?_
            refine ⟨rfl, ?_⟩
            rw [rmR, if_neg (by omega), pI_f (by assumption), hE, if_pos rfl]
            dsimp only
            rw [if_neg (by assumption)]
            rw [if_neg (by omega)]
        · refine lv_bipush (v := (-11)) hF.1 hF.2.1 dX8_remove_37 (by decide) ?_
          refine kRetI (v := (-11)) hF hr hlk hK hP hD hS hQ rfl ((-11), ec, dF, nF, bF, kF, s2_5, q2_6, a1_7, h2_8, z2_9, n2_10, l2_11, e2_12) [0, 1, 2, 3, 4, 5, 6, 7, 8, 9, 10, 11, 12, 13] (by decide) rfl (Nat.le_of_ble_eq_true rfl) (Nat.le_of_ble_eq_true rfl) dX8_remove_39 ?_
          refine ⟨rfl, ?_⟩
          rw [rmR, if_neg (by omega), pI_f (by assumption), hE, if_pos rfl]
          dsimp only
          rw [if_pos (by assumption)]
      · refine lv_iload_n hF.1 hF.2.1 dX8_remove_28 rfl (lv_at hl 0 rfl) ?_
        refine kRetI (v := r0_4) hF hr hlk hK hP hD hS hQ rfl (r0_4, ec, dF, nF, bF, kF, s2_5, q2_6, a1_7, h2_8, z2_9, n2_10, l2_11, e2_12) [0, 1, 2, 3, 4, 5, 6, 7, 8, 9, 10, 11, 12, 13] (by decide) rfl (Nat.le_of_ble_eq_true rfl) (Nat.le_of_ble_eq_true rfl) dX8_remove_29 ?_
        exact ⟨rfl, by rw [rmR, if_neg (by omega), pI_f (by assumption), if_neg (by rw [← hT.1]; assumption), ← hT.1]⟩
    · refine lv_bipush (v := (-7)) hF.1 hF.2.1 dX8_remove_16 (by decide) ?_
      refine kRetI (v := (-7)) hF hr hlk hK hP hD hS hQ rfl ((-7), ec, dF, nF, bF, kF, qn, qF, wa, hp, nm, ns, la, sl) [0, 1, 2, 3, 4, 5, 6, 7, 8, 9, 10, 11, 12, 13] (by decide) rfl (Nat.le_of_ble_eq_true rfl) (Nat.le_of_ble_eq_true rfl) dX8_remove_18 ?_
      exact ⟨rfl, by rw [rmR, if_neg (by omega), pI_t (by assumption)]⟩
  · refine lv_iconst (v := (-1)) hF.1 hF.2.1 dX8_remove_7 (by decide) ?_
    refine kRetI (v := (-1)) hF hr hlk hK hP hD hS hQ rfl ((-1), ec, dF, nF, bF, kF, qn, qF, wa, hp, nm, ns, la, sl) [0, 1, 2, 3, 4, 5, 6, 7, 8, 9, 10, 11, 12, 13] (by decide) rfl (Nat.le_of_ble_eq_true rfl) (Nat.le_of_ble_eq_true rfl) dX8_remove_8 ?_
    exact ⟨rfl, (if_pos (by assumption)).symm⟩
