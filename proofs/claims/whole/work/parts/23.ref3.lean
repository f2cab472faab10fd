set_option maxHeartbeats 4000000 in
set_option maxRecDepth 100000 in
theorem c_X8_step (l : Launch) (G : GG) (sz : Nat) (x : Nat) (ak : Nat) (am : Nat) (ao : Nat) (av : Nat) (ap : Nat) (ax : Nat) (ay : Nat) (ad : Nat) (an : Nat) (ab : Nat) (ar : Nat) (ac : Nat) (at_ : Nat) (as_ : Nat) (aq : Nat) (ec : Nat) (vn : Nat) (tn : Nat) (sn : Nat) (qn : Nat) (hp : Nat) (ns : Nat) (us : Int32) (ro : Int32) (pr : Int32) (wa : Int32) (nm : Int64) (la : Prop) (sl : Prop) (kF : Nat → Int32) (pF : Nat → Int32) (xF : Nat → Int32) (LN : Nat → Nat) (dF : Nat → Int32) (nF : Nat → Int64) (bF : Nat → Int32) (rF : Nat → Int32) (cF : Nat → Int32) (qF : Nat → Int32) (fo : Int32) (hvn : 1 ≤ vn ∧ vn ≤ 4) (hcr : ∀ v, v < 4 → cF v = -1 ∨ vp_in (cF v) 40) (hrr : ∀ v, v < 4 → vp_in (rF v) 40) (hpr : ∀ i, i < 40 → vp_in (pF i) 40) (hbr : ∀ k, k < ec → vp_in (bF k) 40) (hro : vp_in ro 40) (hec : ec ≤ 80) (hLN : ∀ i, i < 40 → LN i ≤ 40) (hqn : qn ≤ 60) (hp8 : hp ≤ 8) (hwa : vp_in wa 40) : CtI l G yX8_step wsX8_step 3 68 0 0 sz [.ref x, .int fo] [oC x 8 [.ref ak, .ref am, .ref ao, .ref av, .ref ap, .ref ax, .ref ay, .int (nI ec), .ref ad, .ref an, .ref ab, .int (nI vn), .ref ar, .ref ac, .int us, .int ro, .int pr, .ref at_, .int (nI tn), .ref as_, .int (nI sn), .ref aq, .int (nI qn), .int wa, .int (nI hp), .long nm, .int (nI ns), .int (zI la), .int (zI sl)], aI G ak 40 kF, aI G ap 40 pF, aI G ax 1600 xF, aI G ay 40 (fun lv => nI (LN lv)), aI G ad 80 dF, aJ G an 80 nF, aI G ab 80 bF, aI G ar 4 rF, aI G ac 4 cF, aI G aq 100 qF] (fun r (u : Int32 × Nat × (Nat → Int32) × Int32 × Nat) => match u with | (r0, s2, q2, a1, h2) => r = r0 ∧ (r0, s2, q2, a1, h2) = stR kF xF LN (nxR rF cF pF vn dF nF bF ec wa ro nm) qn qF wa ro hp la sl fo) (fun (u : Int32 × Nat × (Nat → Int32) × Int32 × Nat) => match u with | (r0, s2, q2, a1, h2) => [oC x 8 [.ref ak, .ref am, .ref ao, .ref av, .ref ap, .ref ax, .ref ay, .int (nI ec), .ref ad, .ref an, .ref ab, .int (nI vn), .ref ar, .ref ac, .int us, .int ro, .int pr, .ref at_, .int (nI tn), .ref as_, .int (nI sn), .ref aq, .int (nI s2), .int a1, .int (nI h2), .long nm, .int (nI ns), .int (zI la), .int (zI sl)], aI G ak 40 kF, aI G ap 40 pF, aI G ax 1600 xF, aI G ay 40 (fun lv => nI (LN lv)), aI G ad 80 dF, aJ G an 80 nF, aI G ab 80 bF, aI G ar 4 rF, aI G ac 4 cF, aI G aq 100 q2]) := by
  refine kMet (Qc := fun A => va_Qi _ (Bw G A _) A) (cc := cX8_step) (nL := 4) (ret := some (.int)) (by decide) rfl (Nat.le_of_ble_eq_true rfl) ?_
  intro p e s m args below meth c A Q hF hr hlk hnme hK hP hD hA hS hQ hsz ls hl
  have hl : lv_has ls 4 [(0, .ref x), (1, .int fo)] := hl
  have cut_73 : ∀ (nx : Int32), (nx = nxR rF cF pF vn dF nF bF ec wa ro nm) → (vp_in nx 40) → ∀ (H : Heap) (locs : List Loc) (ls : Array Slot), PG G [oC x 8 [.ref ak, .ref am, .ref ao, .ref av, .ref ap, .ref ax, .ref ay, .int (nI ec), .ref ad, .ref an, .ref ab, .int (nI vn), .ref ar, .ref ac, .int us, .int ro, .int pr, .ref at_, .int (nI tn), .ref as_, .int (nI sn), .ref aq, .int (nI qn), .int wa, .int (nI hp), .long nm, .int (nI ns), .int (zI la), .int (zI sl)], aI G ak 40 kF, aI G ap 40 pF, aI G ax 1600 xF, aI G ay 40 (fun lv => nI (LN lv)), aI G ad 80 dF, aJ G an 80 nF, aI G ab 80 bF, aI G ar 4 rF, aI G ac 4 cF, aI G aq 100 qF] H → va_D A [oC x 8 [.ref ak, .ref am, .ref ao, .ref av, .ref ap, .ref ax, .ref ay, .int (nI ec), .ref ad, .ref an, .ref ab, .int (nI vn), .ref ar, .ref ac, .int us, .int ro, .int pr, .ref at_, .int (nI tn), .ref as_, .int (nI sn), .ref aq, .int (nI qn), .int wa, .int (nI hp), .long nm, .int (nI ns), .int (zI la), .int (zI sl)], aI G ak 40 kF, aI G ap 40 pF, aI G ax 1600 xF, aI G ay 40 (fun lv => nI (LN lv)), aI G ad 80 dF, aJ G an 80 nF, aI G ab 80 bF, aI G ar 4 rF, aI G ac 4 cF, aI G aq 100 qF] → va_S A s.heap H locs → lv_has ls 4 [(0, .ref x), (1, .int fo), (2, .int nx)] → W p l e (Rm 3 0 0 68) s m args below meth c H locs 0 0 Q (F0 m 73 ls []) := by
    intro nx hnx hvx H locs ls hP hD hS hl
    have hll := hLN _ (vp_ix hvx)
    refine lv_aload_n hF.1 hF.2.1 dX8_step_73 rfl (lv_at hl 0 rfl) ?_
    refine kGet (C := RX8) (T := TX8) (N := 29) (index := 7) hF hK hP (inT inBX8) 0 rfl rfl 0 (by decide) rfl (List.mem_cons_of_mem _ mF_X8_7) rfl dX8_step_74 ?_
    refine lv_iload_n hF.1 hF.2.1 dX8_step_77 rfl (lv_at hl 2 rfl) ?_
    refine kIald hF hK hP 1 rfl (hvx) dX8_step_78 ?_
    refine lv_iconst (v := (nI 3)) hF.1 hF.2.1 dX8_step_79 (by decide) ?_
    refine lv_icmp_ne (tgt := 171) hF.1 hF.2.1 dX8_step_80 (by decide) (fun c_1 => ?_) (fun c_1 => ?_)
    · refine lv_aload_n hF.1 hF.2.1 dX8_step_171 rfl (lv_at hl 0 rfl) ?_
      refine lv_iload_n hF.1 hF.2.1 dX8_step_172 rfl (lv_at hl 2 rfl) ?_
      refine kPut (C := RX8) (T := TX8) (N := 29) (index := 114) (v := .int nx) hF hK hP hD hS (inT inBX8) tyX8_ok nmX8 0 rfl rfl 23 (by decide) rfl (List.mem_cons_of_mem _ mF_X8_114) rfl rfl rfl (Nat.le_of_ble_eq_true rfl) dX8_step_173 (fun H locs hP hD hS => ?_)
      have hP : PG G [oC x 8 [.ref ak, .ref am, .ref ao, .ref av, .ref ap, .ref ax, .ref ay, .int (nI ec), .ref ad, .ref an, .ref ab, .int (nI vn), .ref ar, .ref ac, .int us, .int ro, .int pr, .ref at_, .int (nI tn), .ref as_, .int (nI sn), .ref aq, .int (nI qn), .int nx, .int (nI hp), .long nm, .int (nI ns), .int (zI la), .int (zI sl)], aI G ak 40 kF, aI G ap 40 pF, aI G ax 1600 xF, aI G ay 40 (fun lv => nI (LN lv)), aI G ad 80 dF, aJ G an 80 nF, aI G ab 80 bF, aI G ar 4 rF, aI G ac 4 cF, aI G aq 100 qF] H := hP
      have hD : va_D A [oC x 8 [.ref ak, .ref am, .ref ao, .ref av, .ref ap, .ref ax, .ref ay, .int (nI ec), .ref ad, .ref an, .ref ab, .int (nI vn), .ref ar, .ref ac, .int us, .int ro, .int pr, .ref at_, .int (nI tn), .ref as_, .int (nI sn), .ref aq, .int (nI qn), .int nx, .int (nI hp), .long nm, .int (nI ns), .int (zI la), .int (zI sl)], aI G ak 40 kF, aI G ap 40 pF, aI G ax 1600 xF, aI G ay 40 (fun lv => nI (LN lv)), aI G ad 80 dF, aJ G an 80 nF, aI G ab 80 bF, aI G ar 4 rF, aI G ac 4 cF, aI G aq 100 qF] := hD
      refine lv_aload_n hF.1 hF.2.1 dX8_step_176 rfl (lv_at hl 0 rfl) ?_
      refine kGet (C := RX8) (T := TX8) (N := 29) (index := 101) hF hK hP (inT inBX8) 0 rfl rfl 28 (by decide) rfl (List.mem_cons_of_mem _ mF_X8_101) rfl dX8_step_177 ?_
      refine kIfEqZ (tgt := 198) hF dX8_step_180 (by decide) (fun c_2 => ?_) (fun c_2 => ?_)
      · refine lv_iconst (v := (nI 0)) hF.1 hF.2.1 dX8_step_198 (by decide) ?_
        refine kRetI (v := (nI 0)) hF hr hlk hK hP hD hS hQ rfl ((nI 0), qn, qF, nx, hp) [0, 1, 2, 3, 4, 5, 6, 7, 8, 9, 10] (by decide) rfl (Nat.le_of_ble_eq_true rfl) (Nat.le_of_ble_eq_true rfl) dX8_step_199 ?_
        refine ⟨rfl, ?_⟩
        rw [← hnx]; unfold stR
        rw [if_neg (ne_m1 hvx)]
        rw [pI_f (fun h => absurd h.1 c_1)]
        rw [pI_f (fun h => c_2 h.1)]
      · refine lv_aload_n hF.1 hF.2.1 dX8_step_183 rfl (lv_at hl 0 rfl) ?_
        refine kGet (C := RX8) (T := TX8) (N := 29) (index := 7) hF hK hP (inT inBX8) 0 rfl rfl 0 (by decide) rfl (List.mem_cons_of_mem _ mF_X8_7) rfl dX8_step_184 ?_
        refine lv_iload_n hF.1 hF.2.1 dX8_step_187 rfl (lv_at hl 2 rfl) ?_
        refine kIald hF hK hP 1 rfl (hvx) dX8_step_188 ?_
        refine lv_iconst (v := (nI 1)) hF.1 hF.2.1 dX8_step_189 (by decide) ?_
        refine lv_icmp_eq (tgt := 198) hF.1 hF.2.1 dX8_step_190 (by decide) (fun c_3 => ?_) (fun c_3 => ?_)
        · refine lv_iconst (v := (nI 0)) hF.1 hF.2.1 dX8_step_198 (by decide) ?_
          refine kRetI (v := (nI 0)) hF hr hlk hK hP hD hS hQ rfl ((nI 0), qn, qF, nx, hp) [0, 1, 2, 3, 4, 5, 6, 7, 8, 9, 10] (by decide) rfl (Nat.le_of_ble_eq_true rfl) (Nat.le_of_ble_eq_true rfl) dX8_step_199 ?_
          refine ⟨rfl, ?_⟩
          rw [← hnx]; unfold stR
          rw [if_neg (ne_m1 hvx)]
          rw [pI_f (fun h => absurd h.1 c_1)]
          rw [pI_f (fun h => h.2 c_3)]
        · refine lv_bipush (v := (-2)) hF.1 hF.2.1 dX8_step_193 (by decide) ?_
          refine lv_goto (tgt := 199) hF.1 hF.2.1 dX8_step_195 (by decide) ?_
          refine kRetI (v := (-2)) hF hr hlk hK hP hD hS hQ rfl ((-2), qn, qF, nx, hp) [0, 1, 2, 3, 4, 5, 6, 7, 8, 9, 10] (by decide) rfl (Nat.le_of_ble_eq_true rfl) (Nat.le_of_ble_eq_true rfl) dX8_step_199 ?_
          refine ⟨rfl, ?_⟩
          rw [← hnx]; unfold stR
          rw [if_neg (ne_m1 hvx)]
          rw [pI_f (fun h => absurd h.1 c_1)]
          rw [pI_t ⟨c_2, c_3⟩]
    · have hlk3 := c_1
      refine lv_aload_n hF.1 hF.2.1 dX8_step_83 rfl (lv_at hl 0 rfl) ?_
      refine kGet (C := RX8) (T := TX8) (N := 29) (index := 105) hF hK hP (inT inBX8) 0 rfl rfl 27 (by decide) rfl (List.mem_cons_of_mem _ mF_X8_105) rfl dX8_step_84 ?_
      refine kIfEqZ (tgt := 101) hF dX8_step_87 (by decide) (fun c_4 => ?_) (fun c_4 => ?_)
      · refine lv_aload_n hF.1 hF.2.1 dX8_step_101 rfl (lv_at hl 0 rfl) ?_
        refine lv_aload_n hF.1 hF.2.1 dX8_step_102 rfl (lv_at hl 0 rfl) ?_
        refine kGet (C := RX8) (T := TX8) (N := 29) (index := 117) hF hK hP (inT inBX8) 0 rfl rfl 24 (by decide) rfl (List.mem_cons_of_mem _ mF_X8_117) rfl dX8_step_103 ?_
        refine lv_iconst (v := (nI 1)) hF.1 hF.2.1 dX8_step_106 (by decide) ?_
        refine lv_iadd hF.1 hF.2.1 dX8_step_107 ?_
        refine kTop (y := (nI (hp + 1))) (nI_add _ _) ?_
        refine kPut (C := RX8) (T := TX8) (N := 29) (index := 117) (v := .int (nI (hp + 1))) hF hK hP hD hS (inT inBX8) tyX8_ok nmX8 0 rfl rfl 24 (by decide) rfl (List.mem_cons_of_mem _ mF_X8_117) rfl rfl rfl (Nat.le_of_ble_eq_true rfl) dX8_step_108 (fun H locs hP hD hS => ?_)
        have hP : PG G [oC x 8 [.ref ak, .ref am, .ref ao, .ref av, .ref ap, .ref ax, .ref ay, .int (nI ec), .ref ad, .ref an, .ref ab, .int (nI vn), .ref ar, .ref ac, .int us, .int ro, .int pr, .ref at_, .int (nI tn), .ref as_, .int (nI sn), .ref aq, .int (nI qn), .int wa, .int (nI (hp + 1)), .long nm, .int (nI ns), .int (zI la), .int (zI sl)], aI G ak 40 kF, aI G ap 40 pF, aI G ax 1600 xF, aI G ay 40 (fun lv => nI (LN lv)), aI G ad 80 dF, aJ G an 80 nF, aI G ab 80 bF, aI G ar 4 rF, aI G ac 4 cF, aI G aq 100 qF] H := hP
        have hD : va_D A [oC x 8 [.ref ak, .ref am, .ref ao, .ref av, .ref ap, .ref ax, .ref ay, .int (nI ec), .ref ad, .ref an, .ref ab, .int (nI vn), .ref ar, .ref ac, .int us, .int ro, .int pr, .ref at_, .int (nI tn), .ref as_, .int (nI sn), .ref aq, .int (nI qn), .int wa, .int (nI (hp + 1)), .long nm, .int (nI ns), .int (zI la), .int (zI sl)], aI G ak 40 kF, aI G ap 40 pF, aI G ax 1600 xF, aI G ay 40 (fun lv => nI (LN lv)), aI G ad 80 dF, aJ G an 80 nF, aI G ab 80 bF, aI G ar 4 rF, aI G ac 4 cF, aI G aq 100 qF] := hD
        refine lv_aload_n hF.1 hF.2.1 dX8_step_111 rfl (lv_at hl 0 rfl) ?_
        refine kGet (C := RX8) (T := TX8) (N := 29) (index := 117) hF hK hP (inT inBX8) 0 rfl rfl 24 (by decide) rfl (List.mem_cons_of_mem _ mF_X8_117) rfl dX8_step_112 ?_
        refine lv_bipush (v := (nI 8)) hF.1 hF.2.1 dX8_step_115 (by decide) ?_
        refine kLeN (tgt := 123) hF dX8_step_117 (by decide) (by omega) (by omega) (fun c_5 => ?_) (fun c_5 => ?_)
        · refine lv_aload_n hF.1 hF.2.1 dX8_step_123 rfl (lv_at hl 0 rfl) ?_
          refine lv_iload_n hF.1 hF.2.1 dX8_step_124 rfl (lv_at hl 2 rfl) ?_
          refine kCallV (wr := [aI G ak 40 kF, aI G ap 40 pF, aI G ad 80 dF, aJ G an 80 nF, aI G ab 80 bF, aI G ar 4 rF, aI G ac 4 cF]) (va_runV (As := [.int nx]) (rest := []) hF (c_X8_putBefore l G H.size x ak am ao av ap ax ay ad an ab ar ac at_ as_ aq ec vn tn sn qn (hp + 1) ns us ro pr wa nm la sl xF LN qF nx (by first | assumption | omega) (hvx) (hLN _ (vp_ix hvx))) (cwVB 1 hF rfl mL_X8_136 mI_X8_putBefore mS_X8_putBefore mN_X8 mC_X8_putBefore rfl hd_X8_putBefore rfl rfl ⟨Nat.le_of_ble_eq_true rfl, Nat.le_of_ble_eq_true rfl⟩) (kPre hK hP hD [0, 3, 4, 10] (by decide) rfl (q0 := 0) (ci := 8) rfl rfl rfl) rfl rfl hl.1 rfl (lv_room (Nat.le_of_ble_eq_true rfl)) dX8_step_125 ⟨Nat.le_of_ble_eq_true rfl, Nat.le_of_ble_eq_true rfl⟩) hP hD hS hA [0, 3, 4, 10] [1, 2, 5, 6, 7, 8, 9] rfl rfl (by decide) (by decide) (fun u H locs hw_6 hP hD hS => ?_)
          have hP : PG G [oC x 8 [.ref ak, .ref am, .ref ao, .ref av, .ref ap, .ref ax, .ref ay, .int (nI ec), .ref ad, .ref an, .ref ab, .int (nI vn), .ref ar, .ref ac, .int us, .int ro, .int pr, .ref at_, .int (nI tn), .ref as_, .int (nI sn), .ref aq, .int (nI (qn + LN (ix nx))), .int wa, .int (nI (hp + 1)), .long nm, .int (nI ns), .int (zI la), .int (zI sl)], aI G ak 40 kF, aI G ap 40 pF, aI G ax 1600 xF, aI G ay 40 (fun lv => nI (LN lv)), aI G ad 80 dF, aJ G an 80 nF, aI G ab 80 bF, aI G ar 4 rF, aI G ac 4 cF, aI G aq 100 (va_cpy xF (shu qF (LN (ix nx)) 0 qn) (40 * ix nx) 0 (LN (ix nx)))] H := va_P.sub hP [7, 0, 1, 8, 9, 2, 3, 4, 5, 6, 10] rfl
          have hD : va_D A [oC x 8 [.ref ak, .ref am, .ref ao, .ref av, .ref ap, .ref ax, .ref ay, .int (nI ec), .ref ad, .ref an, .ref ab, .int (nI vn), .ref ar, .ref ac, .int us, .int ro, .int pr, .ref at_, .int (nI tn), .ref as_, .int (nI sn), .ref aq, .int (nI (qn + LN (ix nx))), .int wa, .int (nI (hp + 1)), .long nm, .int (nI ns), .int (zI la), .int (zI sl)], aI G ak 40 kF, aI G ap 40 pF, aI G ax 1600 xF, aI G ay 40 (fun lv => nI (LN lv)), aI G ad 80 dF, aJ G an 80 nF, aI G ab 80 bF, aI G ar 4 rF, aI G ac 4 cF, aI G aq 100 (va_cpy xF (shu qF (LN (ix nx)) 0 qn) (40 * ix nx) 0 (LN (ix nx)))] := va_D.sub hD [7, 0, 1, 8, 9, 2, 3, 4, 5, 6, 10] (by decide) rfl
          refine lv_aload_n hF.1 hF.2.1 dX8_step_128 rfl (lv_at hl 0 rfl) ?_
          refine kGet (C := RX8) (T := TX8) (N := 29) (index := 85) hF hK hP (inT inBX8) 0 rfl rfl 22 (by decide) rfl (List.mem_cons_of_mem _ mF_X8_85) rfl dX8_step_129 ?_
          refine lv_bipush (v := (nI 60)) hF.1 hF.2.1 dX8_step_132 (by decide) ?_
          refine kLeN (tgt := 140) hF dX8_step_134 (by decide) (by omega) (by omega) (fun c_7 => ?_) (fun c_7 => ?_)
          · refine lv_aload_n hF.1 hF.2.1 dX8_step_140 rfl (lv_at hl 0 rfl) ?_
            refine lv_aload_n hF.1 hF.2.1 dX8_step_141 rfl (lv_at hl 0 rfl) ?_
            refine kGet (C := RX8) (T := TX8) (N := 29) (index := 25) hF hK hP (inT inBX8) 0 rfl rfl 5 (by decide) rfl (List.mem_cons_of_mem _ mF_X8_25) rfl dX8_step_142 ?_
            refine lv_bipush (v := (nI 40)) hF.1 hF.2.1 dX8_step_145 (by decide) ?_
            refine lv_iload_n hF.1 hF.2.1 dX8_step_147 rfl (lv_at hl 2 rfl) ?_
            refine lv_imul hF.1 hF.2.1 dX8_step_148 ?_
            refine kTop (y := nI (40 * ix nx)) (mul40 hvx) ?_
            refine kIaldN hF hK hP 3 rfl (by have := vp_ix hvx; omega) (by decide) dX8_step_149 ?_
            refine lv_bipush (v := (nI 47)) hF.1 hF.2.1 dX8_step_150 (by decide) ?_
            refine lv_icmp_ne (tgt := 162) hF.1 hF.2.1 dX8_step_152 (by decide) (fun c_8 => ?_) (fun c_8 => ?_)
            · refine lv_aload_n hF.1 hF.2.1 dX8_step_162 rfl (lv_at hl 0 rfl) ?_
              refine kGet (C := RX8) (T := TX8) (N := 29) (index := 114) hF hK hP (inT inBX8) 0 rfl rfl 23 (by decide) rfl (List.mem_cons_of_mem _ mF_X8_114) rfl dX8_step_163 ?_
              refine kTop (y := if xF (40 * ix nx) = nI 47 then ro else wa) (by first | rw [if_pos (by assumption)] | rw [if_neg (by assumption)]) ?_
              refine kPut (C := RX8) (T := TX8) (N := 29) (index := 114) (v := .int (if xF (40 * ix nx) = nI 47 then ro else wa)) hF hK hP hD hS (inT inBX8) tyX8_ok nmX8 0 rfl rfl 23 (by decide) rfl (List.mem_cons_of_mem _ mF_X8_114) rfl rfl rfl (Nat.le_of_ble_eq_true rfl) dX8_step_166 (fun H locs hP hD hS => ?_)
              have hP : PG G [oC x 8 [.ref ak, .ref am, .ref ao, .ref av, .ref ap, .ref ax, .ref ay, .int (nI ec), .ref ad, .ref an, .ref ab, .int (nI vn), .ref ar, .ref ac, .int us, .int ro, .int pr, .ref at_, .int (nI tn), .ref as_, .int (nI sn), .ref aq, .int (nI (qn + LN (ix nx))), .int (if xF (40 * ix nx) = nI 47 then ro else wa), .int (nI (hp + 1)), .long nm, .int (nI ns), .int (zI la), .int (zI sl)], aI G ak 40 kF, aI G ap 40 pF, aI G ax 1600 xF, aI G ay 40 (fun lv => nI (LN lv)), aI G ad 80 dF, aJ G an 80 nF, aI G ab 80 bF, aI G ar 4 rF, aI G ac 4 cF, aI G aq 100 (va_cpy xF (shu qF (LN (ix nx)) 0 qn) (40 * ix nx) 0 (LN (ix nx)))] H := hP
              have hD : va_D A [oC x 8 [.ref ak, .ref am, .ref ao, .ref av, .ref ap, .ref ax, .ref ay, .int (nI ec), .ref ad, .ref an, .ref ab, .int (nI vn), .ref ar, .ref ac, .int us, .int ro, .int pr, .ref at_, .int (nI tn), .ref as_, .int (nI sn), .ref aq, .int (nI (qn + LN (ix nx))), .int (if xF (40 * ix nx) = nI 47 then ro else wa), .int (nI (hp + 1)), .long nm, .int (nI ns), .int (zI la), .int (zI sl)], aI G ak 40 kF, aI G ap 40 pF, aI G ax 1600 xF, aI G ay 40 (fun lv => nI (LN lv)), aI G ad 80 dF, aJ G an 80 nF, aI G ab 80 bF, aI G ar 4 rF, aI G ac 4 cF, aI G aq 100 (va_cpy xF (shu qF (LN (ix nx)) 0 qn) (40 * ix nx) 0 (LN (ix nx)))] := hD
              refine lv_iconst (v := (nI 0)) hF.1 hF.2.1 dX8_step_169 (by decide) ?_
              refine kRetI (v := (nI 0)) hF hr hlk hK hP hD hS hQ rfl ((nI 0), qn + LN (ix nx), va_cpy xF (shu qF (LN (ix nx)) 0 qn) (40 * ix nx) 0 (LN (ix nx)), (if xF (40 * ix nx) = nI 47 then ro else wa), (hp + 1)) [0, 1, 2, 3, 4, 5, 6, 7, 8, 9, 10] (by decide) rfl (Nat.le_of_ble_eq_true rfl) (Nat.le_of_ble_eq_true rfl) dX8_step_170 ?_
              refine ⟨rfl, ?_⟩
              rw [← hnx]; unfold stR
              rw [if_neg (ne_m1 hvx)]
              rw [pI_t ⟨c_1, Or.inl c_4⟩]
              rw [if_neg (show ¬ 8 < hp + 1 by omega)]
              rw [if_neg (show ¬ 60 < qn + LN (ix nx) by omega)]
            · refine lv_aload_n hF.1 hF.2.1 dX8_step_155 rfl (lv_at hl 0 rfl) ?_
              refine kGet (C := RX8) (T := TX8) (N := 29) (index := 108) hF hK hP (inT inBX8) 0 rfl rfl 15 (by decide) rfl (List.mem_cons_of_mem _ mF_X8_108) rfl dX8_step_156 ?_
              refine lv_goto (tgt := 166) hF.1 hF.2.1 dX8_step_159 (by decide) ?_
              refine kTop (y := if xF (40 * ix nx) = nI 47 then ro else wa) (by first | rw [if_pos (by assumption)] | rw [if_neg (by assumption)]) ?_
              refine kPut (C := RX8) (T := TX8) (N := 29) (index := 114) (v := .int (if xF (40 * ix nx) = nI 47 then ro else wa)) hF hK hP hD hS (inT inBX8) tyX8_ok nmX8 0 rfl rfl 23 (by decide) rfl (List.mem_cons_of_mem _ mF_X8_114) rfl rfl rfl (Nat.le_of_ble_eq_true rfl) dX8_step_166 (fun H locs hP hD hS => ?_)
              have hP : PG G [oC x 8 [.ref ak, .ref am, .ref ao, .ref av, .ref ap, .ref ax, .ref ay, .int (nI ec), .ref ad, .ref an, .ref ab, .int (nI vn), .ref ar, .ref ac, .int us, .int ro, .int pr, .ref at_, .int (nI tn), .ref as_, .int (nI sn), .ref aq, .int (nI (qn + LN (ix nx))), .int (if xF (40 * ix nx) = nI 47 then ro else wa), .int (nI (hp + 1)), .long nm, .int (nI ns), .int (zI la), .int (zI sl)], aI G ak 40 kF, aI G ap 40 pF, aI G ax 1600 xF, aI G ay 40 (fun lv => nI (LN lv)), aI G ad 80 dF, aJ G an 80 nF, aI G ab 80 bF, aI G ar 4 rF, aI G ac 4 cF, aI G aq 100 (va_cpy xF (shu qF (LN (ix nx)) 0 qn) (40 * ix nx) 0 (LN (ix nx)))] H := hP
              have hD : va_D A [oC x 8 [.ref ak, .ref am, .ref ao, .ref av, .ref ap, .ref ax, .ref ay, .int (nI ec), .ref ad, .ref an, .ref ab, .int (nI vn), .ref ar, .ref ac, .int us, .int ro, .int pr, .ref at_, .int (nI tn), .ref as_, .int (nI sn), .ref aq, .int (nI (qn + LN (ix nx))), .int (if xF (40 * ix nx) = nI 47 then ro else wa), .int (nI (hp + 1)), .long nm, .int (nI ns), .int (zI la), .int (zI sl)], aI G ak 40 kF, aI G ap 40 pF, aI G ax 1600 xF, aI G ay 40 (fun lv => nI (LN lv)), aI G ad 80 dF, aJ G an 80 nF, aI G ab 80 bF, aI G ar 4 rF, aI G ac 4 cF, aI G aq 100 (va_cpy xF (shu qF (LN (ix nx)) 0 qn) (40 * ix nx) 0 (LN (ix nx)))] := hD
              refine lv_iconst (v := (nI 0)) hF.1 hF.2.1 dX8_step_169 (by decide) ?_
              refine kRetI (v := (nI 0)) hF hr hlk hK hP hD hS hQ rfl ((nI 0), qn + LN (ix nx), va_cpy xF (shu qF (LN (ix nx)) 0 qn) (40 * ix nx) 0 (LN (ix nx)), (if xF (40 * ix nx) = nI 47 then ro else wa), (hp + 1)) [0, 1, 2, 3, 4, 5, 6, 7, 8, 9, 10] (by decide) rfl (Nat.le_of_ble_eq_true rfl) (Nat.le_of_ble_eq_true rfl) dX8_step_170 ?_
              refine ⟨rfl, ?_⟩
              rw [← hnx]; unfold stR
              rw [if_neg (ne_m1 hvx)]
              rw [pI_t ⟨c_1, Or.inl c_4⟩]
              rw [if_neg (show ¬ 8 < hp + 1 by omega)]
              rw [if_neg (show ¬ 60 < qn + LN (ix nx) by omega)]
          · refine lv_bipush (v := (-5)) hF.1 hF.2.1 dX8_step_137 (by decide) ?_
            refine kRetI (v := (-5)) hF hr hlk hK hP hD hS hQ rfl ((-5), qn + LN (ix nx), va_cpy xF (shu qF (LN (ix nx)) 0 qn) (40 * ix nx) 0 (LN (ix nx)), wa, (hp + 1)) [0, 1, 2, 3, 4, 5, 6, 7, 8, 9, 10] (by decide) rfl (Nat.le_of_ble_eq_true rfl) (Nat.le_of_ble_eq_true rfl) dX8_step_139 ?_
            refine ⟨rfl, ?_⟩
            rw [← hnx]; unfold stR
            rw [if_neg (ne_m1 hvx)]
            rw [pI_t ⟨c_1, Or.inl c_4⟩]
            rw [if_neg (show ¬ 8 < hp + 1 by omega)]
            rw [if_pos (show 60 < qn + LN (ix nx) by omega)]
        · refine lv_bipush (v := (-4)) hF.1 hF.2.1 dX8_step_120 (by decide) ?_
          refine kRetI (v := (-4)) hF hr hlk hK hP hD hS hQ rfl ((-4), qn, qF, wa, hp + 1) [0, 1, 2, 3, 4, 5, 6, 7, 8, 9, 10] (by decide) rfl (Nat.le_of_ble_eq_true rfl) (Nat.le_of_ble_eq_true rfl) dX8_step_122 ?_
          refine ⟨rfl, ?_⟩
          rw [← hnx]; unfold stR
          rw [if_neg (ne_m1 hvx)]
          rw [pI_t ⟨c_1, Or.inl c_4⟩]
          rw [if_pos (show 8 < hp + 1 by omega)]
      · refine lv_aload_n hF.1 hF.2.1 dX8_step_90 rfl (lv_at hl 0 rfl) ?_
        refine kGet (C := RX8) (T := TX8) (N := 29) (index := 101) hF hK hP (inT inBX8) 0 rfl rfl 28 (by decide) rfl (List.mem_cons_of_mem _ mF_X8_101) rfl dX8_step_91 ?_
        refine kIfNeZ (tgt := 101) hF dX8_step_94 (by decide) (fun c_9 => ?_) (fun c_9 => ?_)
        · refine lv_aload_n hF.1 hF.2.1 dX8_step_101 rfl (lv_at hl 0 rfl) ?_
          refine lv_aload_n hF.1 hF.2.1 dX8_step_102 rfl (lv_at hl 0 rfl) ?_
          refine kGet (C := RX8) (T := TX8) (N := 29) (index := 117) hF hK hP (inT inBX8) 0 rfl rfl 24 (by decide) rfl (List.mem_cons_of_mem _ mF_X8_117) rfl dX8_step_103 ?_
          refine lv_iconst (v := (nI 1)) hF.1 hF.2.1 dX8_step_106 (by decide) ?_
          refine lv_iadd hF.1 hF.2.1 dX8_step_107 ?_
          refine kTop (y := (nI (hp + 1))) (nI_add _ _) ?_
          refine kPut (C := RX8) (T := TX8) (N := 29) (index := 117) (v := .int (nI (hp + 1))) hF hK hP hD hS (inT inBX8) tyX8_ok nmX8 0 rfl rfl 24 (by decide) rfl (List.mem_cons_of_mem _ mF_X8_117) rfl rfl rfl (Nat.le_of_ble_eq_true rfl) dX8_step_108 (fun H locs hP hD hS => ?_)
          have hP : PG G [oC x 8 [.ref ak, .ref am, .ref ao, .ref av, .ref ap, .ref ax, .ref ay, .int (nI ec), .ref ad, .ref an, .ref ab, .int (nI vn), .ref ar, .ref ac, .int us, .int ro, .int pr, .ref at_, .int (nI tn), .ref as_, .int (nI sn), .ref aq, .int (nI qn), .int wa, .int (nI (hp + 1)), .long nm, .int (nI ns), .int (zI la), .int (zI sl)], aI G ak 40 kF, aI G ap 40 pF, aI G ax 1600 xF, aI G ay 40 (fun lv => nI (LN lv)), aI G ad 80 dF, aJ G an 80 nF, aI G ab 80 bF, aI G ar 4 rF, aI G ac 4 cF, aI G aq 100 qF] H := hP
          have hD : va_D A [oC x 8 [.ref ak, .ref am, .ref ao, .ref av, .ref ap, .ref ax, .ref ay, .int (nI ec), .ref ad, .ref an, .ref ab, .int (nI vn), .ref ar, .ref ac, .int us, .int ro, .int pr, .ref at_, .int (nI tn), .ref as_, .int (nI sn), .ref aq, .int (nI qn), .int wa, .int (nI (hp + 1)), .long nm, .int (nI ns), .int (zI la), .int (zI sl)], aI G ak 40 kF, aI G ap 40 pF, aI G ax 1600 xF, aI G ay 40 (fun lv => nI (LN lv)), aI G ad 80 dF, aJ G an 80 nF, aI G ab 80 bF, aI G ar 4 rF, aI G ac 4 cF, aI G aq 100 qF] := hD
          refine lv_aload_n hF.1 hF.2.1 dX8_step_111 rfl (lv_at hl 0 rfl) ?_
          refine kGet (C := RX8) (T := TX8) (N := 29) (index := 117) hF hK hP (inT inBX8) 0 rfl rfl 24 (by decide) rfl (List.mem_cons_of_mem _ mF_X8_117) rfl dX8_step_112 ?_
          refine lv_bipush (v := (nI 8)) hF.1 hF.2.1 dX8_step_115 (by decide) ?_
          refine kLeN (tgt := 123) hF dX8_step_117 (by decide) (by omega) (by omega) (fun c_10 => ?_) (fun c_10 => ?_)
          · refine lv_aload_n hF.1 hF.2.1 dX8_step_123 rfl (lv_at hl 0 rfl) ?_
            refine lv_iload_n hF.1 hF.2.1 dX8_step_124 rfl (lv_at hl 2 rfl) ?_
            refine kCallV (wr := [aI G ak 40 kF, aI G ap 40 pF, aI G ad 80 dF, aJ G an 80 nF, aI G ab 80 bF, aI G ar 4 rF, aI G ac 4 cF]) (va_runV (As := [.int nx]) (rest := []) hF (c_X8_putBefore l G H.size x ak am ao av ap ax ay ad an ab ar ac at_ as_ aq ec vn tn sn qn (hp + 1) ns us ro pr wa nm la sl xF LN qF nx (by first | assumption | omega) (hvx) (hLN _ (vp_ix hvx))) (cwVB 1 hF rfl mL_X8_136 mI_X8_putBefore mS_X8_putBefore mN_X8 mC_X8_putBefore rfl hd_X8_putBefore rfl rfl ⟨Nat.le_of_ble_eq_true rfl, Nat.le_of_ble_eq_true rfl⟩) (kPre hK hP hD [0, 3, 4, 10] (by decide) rfl (q0 := 0) (ci := 8) rfl rfl rfl) rfl rfl hl.1 rfl (lv_room (Nat.le_of_ble_eq_true rfl)) dX8_step_125 ⟨Nat.le_of_ble_eq_true rfl, Nat.le_of_ble_eq_true rfl⟩) hP hD hS hA [0, 3, 4, 10] [1, 2, 5, 6, 7, 8, 9] rfl rfl (by decide) (by decide) (fun u H locs hw_11 hP hD hS => ?_)
            have hP : PG G [oC x 8 [.ref ak, .ref am, .ref ao, .ref av, .ref ap, .ref ax, .ref ay, .int (nI ec), .ref ad, .ref an, .ref ab, .int (nI vn), .ref ar, .ref ac, .int us, .int ro, .int pr, .ref at_, .int (nI tn), .ref as_, .int (nI sn), .ref aq, .int (nI (qn + LN (ix nx))), .int wa, .int (nI (hp + 1)), .long nm, .int (nI ns), .int (zI la), .int (zI sl)], aI G ak 40 kF, aI G ap 40 pF, aI G ax 1600 xF, aI G ay 40 (fun lv => nI (LN lv)), aI G ad 80 dF, aJ G an 80 nF, aI G ab 80 bF, aI G ar 4 rF, aI G ac 4 cF, aI G aq 100 (va_cpy xF (shu qF (LN (ix nx)) 0 qn) (40 * ix nx) 0 (LN (ix nx)))] H := va_P.sub hP [7, 0, 1, 8, 9, 2, 3, 4, 5, 6, 10] rfl
            have hD : va_D A [oC x 8 [.ref ak, .ref am, .ref ao, .ref av, .ref ap, .ref ax, .ref ay, .int (nI ec), .ref ad, .ref an, .ref ab, .int (nI vn), .ref ar, .ref ac, .int us, .int ro, .int pr, .ref at_, .int (nI tn), .ref as_, .int (nI sn), .ref aq, .int (nI (qn + LN (ix nx))), .int wa, .int (nI (hp + 1)), .long nm, .int (nI ns), .int (zI la), .int (zI sl)], aI G ak 40 kF, aI G ap 40 pF, aI G ax 1600 xF, aI G ay 40 (fun lv => nI (LN lv)), aI G ad 80 dF, aJ G an 80 nF, aI G ab 80 bF, aI G ar 4 rF, aI G ac 4 cF, aI G aq 100 (va_cpy xF (shu qF (LN (ix nx)) 0 qn) (40 * ix nx) 0 (LN (ix nx)))] := va_D.sub hD [7, 0, 1, 8, 9, 2, 3, 4, 5, 6, 10] (by decide) rfl
            refine lv_aload_n hF.1 hF.2.1 dX8_step_128 rfl (lv_at hl 0 rfl) ?_
            refine kGet (C := RX8) (T := TX8) (N := 29) (index := 85) hF hK hP (inT inBX8) 0 rfl rfl 22 (by decide) rfl (List.mem_cons_of_mem _ mF_X8_85) rfl dX8_step_129 ?_
            refine lv_bipush (v := (nI 60)) hF.1 hF.2.1 dX8_step_132 (by decide) ?_
            refine kLeN (tgt := 140) hF dX8_step_134 (by decide) (by omega) (by omega) (fun c_12 => ?_) (fun c_12 => ?_)
            · refine lv_aload_n hF.1 hF.2.1 dX8_step_140 rfl (lv_at hl 0 rfl) ?_
              refine lv_aload_n hF.1 hF.2.1 dX8_step_141 rfl (lv_at hl 0 rfl) ?_
              refine kGet (C := RX8) (T := TX8) (N := 29) (index := 25) hF hK hP (inT inBX8) 0 rfl rfl 5 (by decide) rfl (List.mem_cons_of_mem _ mF_X8_25) rfl dX8_step_142 ?_
              refine lv_bipush (v := (nI 40)) hF.1 hF.2.1 dX8_step_145 (by decide) ?_
              refine lv_iload_n hF.1 hF.2.1 dX8_step_147 rfl (lv_at hl 2 rfl) ?_
              refine lv_imul hF.1 hF.2.1 dX8_step_148 ?_
              refine kTop (y := nI (40 * ix nx)) (mul40 hvx) ?_
              refine kIaldN hF hK hP 3 rfl (by have := vp_ix hvx; omega) (by decide) dX8_step_149 ?_
              refine lv_bipush (v := (nI 47)) hF.1 hF.2.1 dX8_step_150 (by decide) ?_
              refine lv_icmp_ne (tgt := 162) hF.1 hF.2.1 dX8_step_152 (by decide) (fun c_13 => ?_) (fun c_13 => ?_)
              · refine lv_aload_n hF.1 hF.2.1 dX8_step_162 rfl (lv_at hl 0 rfl) ?_
                refine kGet (C := RX8) (T := TX8) (N := 29) (index := 114) hF hK hP (inT inBX8) 0 rfl rfl 23 (by decide) rfl (List.mem_cons_of_mem _ mF_X8_114) rfl dX8_step_163 ?_
                refine kTop (y := if xF (40 * ix nx) = nI 47 then ro else wa) (by first | rw [if_pos (by assumption)] | rw [if_neg (by assumption)]) ?_
                refine kPut (C := RX8) (T := TX8) (N := 29) (index := 114) (v := .int (if xF (40 * ix nx) = nI 47 then ro else wa)) hF hK hP hD hS (inT inBX8) tyX8_ok nmX8 0 rfl rfl 23 (by decide) rfl (List.mem_cons_of_mem _ mF_X8_114) rfl rfl rfl (Nat.le_of_ble_eq_true rfl) dX8_step_166 (fun H locs hP hD hS => ?_)
                have hP : PG G [oC x 8 [.ref ak, .ref am, .ref ao, .ref av, .ref ap, .ref ax, .ref ay, .int (nI ec), .ref ad, .ref an, .ref ab, .int (nI vn), .ref ar, .ref ac, .int us, .int ro, .int pr, .ref at_, .int (nI tn), .ref as_, .int (nI sn), .ref aq, .int (nI (qn + LN (ix nx))), .int (if xF (40 * ix nx) = nI 47 then ro else wa), .int (nI (hp + 1)), .long nm, .int (nI ns), .int (zI la), .int (zI sl)], aI G ak 40 kF, aI G ap 40 pF, aI G ax 1600 xF, aI G ay 40 (fun lv => nI (LN lv)), aI G ad 80 dF, aJ G an 80 nF, aI G ab 80 bF, aI G ar 4 rF, aI G ac 4 cF, aI G aq 100 (va_cpy xF (shu qF (LN (ix nx)) 0 qn) (40 * ix nx) 0 (LN (ix nx)))] H := hP
                have hD : va_D A [oC x 8 [.ref ak, .ref am, .ref ao, .ref av, .ref ap, .ref ax, .ref ay, .int (nI ec), .ref ad, .ref an, .ref ab, .int (nI vn), .ref ar, .ref ac, .int us, .int ro, .int pr, .ref at_, .int (nI tn), .ref as_, .int (nI sn), .ref aq, .int (nI (qn + LN (ix nx))), .int (if xF (40 * ix nx) = nI 47 then ro else wa), .int (nI (hp + 1)), .long nm, .int (nI ns), .int (zI la), .int (zI sl)], aI G ak 40 kF, aI G ap 40 pF, aI G ax 1600 xF, aI G ay 40 (fun lv => nI (LN lv)), aI G ad 80 dF, aJ G an 80 nF, aI G ab 80 bF, aI G ar 4 rF, aI G ac 4 cF, aI G aq 100 (va_cpy xF (shu qF (LN (ix nx)) 0 qn) (40 * ix nx) 0 (LN (ix nx)))] := hD
                refine lv_iconst (v := (nI 0)) hF.1 hF.2.1 dX8_step_169 (by decide) ?_
                refine kRetI (v := (nI 0)) hF hr hlk hK hP hD hS hQ rfl ((nI 0), qn + LN (ix nx), va_cpy xF (shu qF (LN (ix nx)) 0 qn) (40 * ix nx) 0 (LN (ix nx)), (if xF (40 * ix nx) = nI 47 then ro else wa), (hp + 1)) [0, 1, 2, 3, 4, 5, 6, 7, 8, 9, 10] (by decide) rfl (Nat.le_of_ble_eq_true rfl) (Nat.le_of_ble_eq_true rfl) dX8_step_170 ?_
                refine ⟨rfl, ?_⟩
                rw [← hnx]; unfold stR
                rw [if_neg (ne_m1 hvx)]
                rw [pI_t ⟨c_1, Or.inr (Or.inl c_9)⟩]
                rw [if_neg (show ¬ 8 < hp + 1 by omega)]
                rw [if_neg (show ¬ 60 < qn + LN (ix nx) by omega)]
              · refine lv_aload_n hF.1 hF.2.1 dX8_step_155 rfl (lv_at hl 0 rfl) ?_
                refine kGet (C := RX8) (T := TX8) (N := 29) (index := 108) hF hK hP (inT inBX8) 0 rfl rfl 15 (by decide) rfl (List.mem_cons_of_mem _ mF_X8_108) rfl dX8_step_156 ?_
                refine lv_goto (tgt := 166) hF.1 hF.2.1 dX8_step_159 (by decide) ?_
                refine kTop (y := if xF (40 * ix nx) = nI 47 then ro else wa) (by first | rw [if_pos (by assumption)] | rw [if_neg (by assumption)]) ?_
                refine kPut (C := RX8) (T := TX8) (N := 29) (index := 114) (v := .int (if xF (40 * ix nx) = nI 47 then ro else wa)) hF hK hP hD hS (inT inBX8) tyX8_ok nmX8 0 rfl rfl 23 (by decide) rfl (List.mem_cons_of_mem _ mF_X8_114) rfl rfl rfl (Nat.le_of_ble_eq_true rfl) dX8_step_166 (fun H locs hP hD hS => ?_)
                have hP : PG G [oC x 8 [.ref ak, .ref am, .ref ao, .ref av, .ref ap, .ref ax, .ref ay, .int (nI ec), .ref ad, .ref an, .ref ab, .int (nI vn), .ref ar, .ref ac, .int us, .int ro, .int pr, .ref at_, .int (nI tn), .ref as_, .int (nI sn), .ref aq, .int (nI (qn + LN (ix nx))), .int (if xF (40 * ix nx) = nI 47 then ro else wa), .int (nI (hp + 1)), .long nm, .int (nI ns), .int (zI la), .int (zI sl)], aI G ak 40 kF, aI G ap 40 pF, aI G ax 1600 xF, aI G ay 40 (fun lv => nI (LN lv)), aI G ad 80 dF, aJ G an 80 nF, aI G ab 80 bF, aI G ar 4 rF, aI G ac 4 cF, aI G aq 100 (va_cpy xF (shu qF (LN (ix nx)) 0 qn) (40 * ix nx) 0 (LN (ix nx)))] H := hP
                have hD : va_D A [oC x 8 [.ref ak, .ref am, .ref ao, .ref av, .ref ap, .ref ax, .ref ay, .int (nI ec), .ref ad, .ref an, .ref ab, .int (nI vn), .ref ar, .ref ac, .int us, .int ro, .int pr, .ref at_, .int (nI tn), .ref as_, .int (nI sn), .ref aq, .int (nI (qn + LN (ix nx))), .int (if xF (40 * ix nx) = nI 47 then ro else wa), .int (nI (hp + 1)), .long nm, .int (nI ns), .int (zI la), .int (zI sl)], aI G ak 40 kF, aI G ap 40 pF, aI G ax 1600 xF, aI G ay 40 (fun lv => nI (LN lv)), aI G ad 80 dF, aJ G an 80 nF, aI G ab 80 bF, aI G ar 4 rF, aI G ac 4 cF, aI G aq 100 (va_cpy xF (shu qF (LN (ix nx)) 0 qn) (40 * ix nx) 0 (LN (ix nx)))] := hD
                refine lv_iconst (v := (nI 0)) hF.1 hF.2.1 dX8_step_169 (by decide) ?_
                refine kRetI (v := (nI 0)) hF hr hlk hK hP hD hS hQ rfl ((nI 0), qn + LN (ix nx), va_cpy xF (shu qF (LN (ix nx)) 0 qn) (40 * ix nx) 0 (LN (ix nx)), (if xF (40 * ix nx) = nI 47 then ro else wa), (hp + 1)) [0, 1, 2, 3, 4, 5, 6, 7, 8, 9, 10] (by decide) rfl (Nat.le_of_ble_eq_true rfl) (Nat.le_of_ble_eq_true rfl) dX8_step_170 ?_
                refine ⟨rfl, ?_⟩
                rw [← hnx]; unfold stR
                rw [if_neg (ne_m1 hvx)]
                rw [pI_t ⟨c_1, Or.inr (Or.inl c_9)⟩]
                rw [if_neg (show ¬ 8 < hp + 1 by omega)]
                rw [if_neg (show ¬ 60 < qn + LN (ix nx) by omega)]
            · refine lv_bipush (v := (-5)) hF.1 hF.2.1 dX8_step_137 (by decide) ?_
              refine kRetI (v := (-5)) hF hr hlk hK hP hD hS hQ rfl ((-5), qn + LN (ix nx), va_cpy xF (shu qF (LN (ix nx)) 0 qn) (40 * ix nx) 0 (LN (ix nx)), wa, (hp + 1)) [0, 1, 2, 3, 4, 5, 6, 7, 8, 9, 10] (by decide) rfl (Nat.le_of_ble_eq_true rfl) (Nat.le_of_ble_eq_true rfl) dX8_step_139 ?_
              refine ⟨rfl, ?_⟩
              rw [← hnx]; unfold stR
              rw [if_neg (ne_m1 hvx)]
              rw [pI_t ⟨c_1, Or.inr (Or.inl c_9)⟩]
              rw [if_neg (show ¬ 8 < hp + 1 by omega)]
              rw [if_pos (show 60 < qn + LN (ix nx) by omega)]
          · refine lv_bipush (v := (-4)) hF.1 hF.2.1 dX8_step_120 (by decide) ?_
            refine kRetI (v := (-4)) hF hr hlk hK hP hD hS hQ rfl ((-4), qn, qF, wa, hp + 1) [0, 1, 2, 3, 4, 5, 6, 7, 8, 9, 10] (by decide) rfl (Nat.le_of_ble_eq_true rfl) (Nat.le_of_ble_eq_true rfl) dX8_step_122 ?_
            refine ⟨rfl, ?_⟩
            rw [← hnx]; unfold stR
            rw [if_neg (ne_m1 hvx)]
            rw [pI_t ⟨c_1, Or.inr (Or.inl c_9)⟩]
            rw [if_pos (show 8 < hp + 1 by omega)]
        · refine lv_iload_n hF.1 hF.2.1 dX8_step_97 rfl (lv_at hl 1 rfl) ?_
          refine lv_if_eq (tgt := 171) hF.1 hF.2.1 dX8_step_98 (by decide) (fun c_14 => ?_) (fun c_14 => ?_)
          · refine lv_aload_n hF.1 hF.2.1 dX8_step_171 rfl (lv_at hl 0 rfl) ?_
            refine lv_iload_n hF.1 hF.2.1 dX8_step_172 rfl (lv_at hl 2 rfl) ?_
            refine kPut (C := RX8) (T := TX8) (N := 29) (index := 114) (v := .int nx) hF hK hP hD hS (inT inBX8) tyX8_ok nmX8 0 rfl rfl 23 (by decide) rfl (List.mem_cons_of_mem _ mF_X8_114) rfl rfl rfl (Nat.le_of_ble_eq_true rfl) dX8_step_173 (fun H locs hP hD hS => ?_)
            have hP : PG G [oC x 8 [.ref ak, .ref am, .ref ao, .ref av, .ref ap, .ref ax, .ref ay, .int (nI ec), .ref ad, .ref an, .ref ab, .int (nI vn), .ref ar, .ref ac, .int us, .int ro, .int pr, .ref at_, .int (nI tn), .ref as_, .int (nI sn), .ref aq, .int (nI qn), .int nx, .int (nI hp), .long nm, .int (nI ns), .int (zI la), .int (zI sl)], aI G ak 40 kF, aI G ap 40 pF, aI G ax 1600 xF, aI G ay 40 (fun lv => nI (LN lv)), aI G ad 80 dF, aJ G an 80 nF, aI G ab 80 bF, aI G ar 4 rF, aI G ac 4 cF, aI G aq 100 qF] H := hP
            have hD : va_D A [oC x 8 [.ref ak, .ref am, .ref ao, .ref av, .ref ap, .ref ax, .ref ay, .int (nI ec), .ref ad, .ref an, .ref ab, .int (nI vn), .ref ar, .ref ac, .int us, .int ro, .int pr, .ref at_, .int (nI tn), .ref as_, .int (nI sn), .ref aq, .int (nI qn), .int nx, .int (nI hp), .long nm, .int (nI ns), .int (zI la), .int (zI sl)], aI G ak 40 kF, aI G ap 40 pF, aI G ax 1600 xF, aI G ay 40 (fun lv => nI (LN lv)), aI G ad 80 dF, aJ G an 80 nF, aI G ab 80 bF, aI G ar 4 rF, aI G ac 4 cF, aI G aq 100 qF] := hD
            refine lv_aload_n hF.1 hF.2.1 dX8_step_176 rfl (lv_at hl 0 rfl) ?_
            refine kGet (C := RX8) (T := TX8) (N := 29) (index := 101) hF hK hP (inT inBX8) 0 rfl rfl 28 (by decide) rfl (List.mem_cons_of_mem _ mF_X8_101) rfl dX8_step_177 ?_
            refine kIfEqZ (tgt := 198) hF dX8_step_180 (by decide) (fun c_15 => ?_) (fun c_15 => ?_)
            · refine lv_iconst (v := (nI 0)) hF.1 hF.2.1 dX8_step_198 (by decide) ?_
              refine kRetI (v := (nI 0)) hF hr hlk hK hP hD hS hQ rfl ((nI 0), qn, qF, nx, hp) [0, 1, 2, 3, 4, 5, 6, 7, 8, 9, 10] (by decide) rfl (Nat.le_of_ble_eq_true rfl) (Nat.le_of_ble_eq_true rfl) dX8_step_199 ?_
              refine ⟨rfl, ?_⟩
              rw [← hnx]; unfold stR
              rw [if_neg (ne_m1 hvx)]
              rw [pI_f (fun h => by rcases h.2 with h | h | h; exact h c_4; exact c_9 h; exact h c_14)]
              rw [pI_f (fun h => c_15 h.1)]
            · refine lv_aload_n hF.1 hF.2.1 dX8_step_183 rfl (lv_at hl 0 rfl) ?_
              refine kGet (C := RX8) (T := TX8) (N := 29) (index := 7) hF hK hP (inT inBX8) 0 rfl rfl 0 (by decide) rfl (List.mem_cons_of_mem _ mF_X8_7) rfl dX8_step_184 ?_
              refine lv_iload_n hF.1 hF.2.1 dX8_step_187 rfl (lv_at hl 2 rfl) ?_
              refine kIald hF hK hP 1 rfl (hvx) dX8_step_188 ?_
              refine lv_iconst (v := (nI 1)) hF.1 hF.2.1 dX8_step_189 (by decide) ?_
              refine lv_icmp_eq (tgt := 198) hF.1 hF.2.1 dX8_step_190 (by decide) (fun c_16 => ?_) (fun c_16 => ?_)
              · refine lv_iconst (v := (nI 0)) hF.1 hF.2.1 dX8_step_198 (by decide) ?_
                refine kRetI (v := (nI 0)) hF hr hlk hK hP hD hS hQ rfl ((nI 0), qn, qF, nx, hp) [0, 1, 2, 3, 4, 5, 6, 7, 8, 9, 10] (by decide) rfl (Nat.le_of_ble_eq_true rfl) (Nat.le_of_ble_eq_true rfl) dX8_step_199 ?_
                refine ⟨rfl, ?_⟩
                rw [← hnx]; unfold stR
                rw [if_neg (ne_m1 hvx)]
                rw [pI_f (fun h => by rcases h.2 with h | h | h; exact h c_4; exact c_9 h; exact h c_14)]
                rw [pI_f (fun h => h.2 c_16)]
              · refine lv_bipush (v := (-2)) hF.1 hF.2.1 dX8_step_193 (by decide) ?_
                refine lv_goto (tgt := 199) hF.1 hF.2.1 dX8_step_195 (by decide) ?_
                refine kRetI (v := (-2)) hF hr hlk hK hP hD hS hQ rfl ((-2), qn, qF, nx, hp) [0, 1, 2, 3, 4, 5, 6, 7, 8, 9, 10] (by decide) rfl (Nat.le_of_ble_eq_true rfl) (Nat.le_of_ble_eq_true rfl) dX8_step_199 ?_
                refine ⟨rfl, ?_⟩
                rw [← hnx]; unfold stR
                rw [if_neg (ne_m1 hvx)]
                rw [pI_f (fun h => by rcases h.2 with h | h | h; exact h c_4; exact c_9 h; exact h c_14)]
                rw [pI_t ⟨c_15, c_16⟩]
          · refine lv_aload_n hF.1 hF.2.1 dX8_step_101 rfl (lv_at hl 0 rfl) ?_
            refine lv_aload_n hF.1 hF.2.1 dX8_step_102 rfl (lv_at hl 0 rfl) ?_
            refine kGet (C := RX8) (T := TX8) (N := 29) (index := 117) hF hK hP (inT inBX8) 0 rfl rfl 24 (by decide) rfl (List.mem_cons_of_mem _ mF_X8_117) rfl dX8_step_103 ?_
            refine lv_iconst (v := (nI 1)) hF.1 hF.2.1 dX8_step_106 (by decide) ?_
            refine lv_iadd hF.1 hF.2.1 dX8_step_107 ?_
            refine kTop (y := (nI (hp + 1))) (nI_add _ _) ?_
            refine kPut (C := RX8) (T := TX8) (N := 29) (index := 117) (v := .int (nI (hp + 1))) hF hK hP hD hS (inT inBX8) tyX8_ok nmX8 0 rfl rfl 24 (by decide) rfl (List.mem_cons_of_mem _ mF_X8_117) rfl rfl rfl (Nat.le_of_ble_eq_true rfl) dX8_step_108 (fun H locs hP hD hS => ?_)
            have hP : PG G [oC x 8 [.ref ak, .ref am, .ref ao, .ref av, .ref ap, .ref ax, .ref ay, .int (nI ec), .ref ad, .ref an, .ref ab, .int (nI vn), .ref ar, .ref ac, .int us, .int ro, .int pr, .ref at_, .int (nI tn), .ref as_, .int (nI sn), .ref aq, .int (nI qn), .int wa, .int (nI (hp + 1)), .long nm, .int (nI ns), .int (zI la), .int (zI sl)], aI G ak 40 kF, aI G ap 40 pF, aI G ax 1600 xF, aI G ay 40 (fun lv => nI (LN lv)), aI G ad 80 dF, aJ G an 80 nF, aI G ab 80 bF, aI G ar 4 rF, aI G ac 4 cF, aI G aq 100 qF] H := hP
            have hD : va_D A [oC x 8 [.ref ak, .ref am, .ref ao, .ref av, .ref ap, .ref ax, .ref ay, .int (nI ec), .ref ad, .ref an, .ref ab, .int (nI vn), .ref ar, .ref ac, .int us, .int ro, .int pr, .ref at_, .int (nI tn), .ref as_, .int (nI sn), .ref aq, .int (nI qn), .int wa, .int (nI (hp + 1)), .long nm, .int (nI ns), .int (zI la), .int (zI sl)], aI G ak 40 kF, aI G ap 40 pF, aI G ax 1600 xF, aI G ay 40 (fun lv => nI (LN lv)), aI G ad 80 dF, aJ G an 80 nF, aI G ab 80 bF, aI G ar 4 rF, aI G ac 4 cF, aI G aq 100 qF] := hD
            refine lv_aload_n hF.1 hF.2.1 dX8_step_111 rfl (lv_at hl 0 rfl) ?_
            refine kGet (C := RX8) (T := TX8) (N := 29) (index := 117) hF hK hP (inT inBX8) 0 rfl rfl 24 (by decide) rfl (List.mem_cons_of_mem _ mF_X8_117) rfl dX8_step_112 ?_
            refine lv_bipush (v := (nI 8)) hF.1 hF.2.1 dX8_step_115 (by decide) ?_
            refine kLeN (tgt := 123) hF dX8_step_117 (by decide) (by omega) (by omega) (fun c_17 => ?_) (fun c_17 => ?_)
            · refine lv_aload_n hF.1 hF.2.1 dX8_step_123 rfl (lv_at hl 0 rfl) ?_
              refine lv_iload_n hF.1 hF.2.1 dX8_step_124 rfl (lv_at hl 2 rfl) ?_
              refine kCallV (wr := [aI G ak 40 kF, aI G ap 40 pF, aI G ad 80 dF, aJ G an 80 nF, aI G ab 80 bF, aI G ar 4 rF, aI G ac 4 cF]) (va_runV (As := [.int nx]) (rest := []) hF (c_X8_putBefore l G H.size x ak am ao av ap ax ay ad an ab ar ac at_ as_ aq ec vn tn sn qn (hp + 1) ns us ro pr wa nm la sl xF LN qF nx (by first | assumption | omega) (hvx) (hLN _ (vp_ix hvx))) (cwVB 1 hF rfl mL_X8_136 mI_X8_putBefore mS_X8_putBefore mN_X8 mC_X8_putBefore rfl hd_X8_putBefore rfl rfl ⟨Nat.le_of_ble_eq_true rfl, Nat.le_of_ble_eq_true rfl⟩) (kPre hK hP hD [0, 3, 4, 10] (by decide) rfl (q0 := 0) (ci := 8) rfl rfl rfl) rfl rfl hl.1 rfl (lv_room (Nat.le_of_ble_eq_true rfl)) dX8_step_125 ⟨Nat.le_of_ble_eq_true rfl, Nat.le_of_ble_eq_true rfl⟩) hP hD hS hA [0, 3, 4, 10] [1, 2, 5, 6, 7, 8, 9] rfl rfl (by decide) (by decide) (fun u H locs hw_18 hP hD hS => ?_)
              have hP : PG G [oC x 8 [.ref ak, .ref am, .ref ao, .ref av, .ref ap, .ref ax, .ref ay, .int (nI ec), .ref ad, .ref an, .ref ab, .int (nI vn), .ref ar, .ref ac, .int us, .int ro, .int pr, .ref at_, .int (nI tn), .ref as_, .int (nI sn), .ref aq, .int (nI (qn + LN (ix nx))), .int wa, .int (nI (hp + 1)), .long nm, .int (nI ns), .int (zI la), .int (zI sl)], aI G ak 40 kF, aI G ap 40 pF, aI G ax 1600 xF, aI G ay 40 (fun lv => nI (LN lv)), aI G ad 80 dF, aJ G an 80 nF, aI G ab 80 bF, aI G ar 4 rF, aI G ac 4 cF, aI G aq 100 (va_cpy xF (shu qF (LN (ix nx)) 0 qn) (40 * ix nx) 0 (LN (ix nx)))] H := va_P.sub hP [7, 0, 1, 8, 9, 2, 3, 4, 5, 6, 10] rfl
              have hD : va_D A [oC x 8 [.ref ak, .ref am, .ref ao, .ref av, .ref ap, .ref ax, .ref ay, .int (nI ec), .ref ad, .ref an, .ref ab, .int (nI vn), .ref ar, .ref ac, .int us, .int ro, .int pr, .ref at_, .int (nI tn), .ref as_, .int (nI sn), .ref aq, .int (nI (qn + LN (ix nx))), .int wa, .int (nI (hp + 1)), .long nm, .int (nI ns), .int (zI la), .int (zI sl)], aI G ak 40 kF, aI G ap 40 pF, aI G ax 1600 xF, aI G ay 40 (fun lv => nI (LN lv)), aI G ad 80 dF, aJ G an 80 nF, aI G ab 80 bF, aI G ar 4 rF, aI G ac 4 cF, aI G aq 100 (va_cpy xF (shu qF (LN (ix nx)) 0 qn) (40 * ix nx) 0 (LN (ix nx)))] := va_D.sub hD [7, 0, 1, 8, 9, 2, 3, 4, 5, 6, 10] (by decide) rfl
              refine lv_aload_n hF.1 hF.2.1 dX8_step_128 rfl (lv_at hl 0 rfl) ?_
              refine kGet (C := RX8) (T := TX8) (N := 29) (index := 85) hF hK hP (inT inBX8) 0 rfl rfl 22 (by decide) rfl (List.mem_cons_of_mem _ mF_X8_85) rfl dX8_step_129 ?_
              refine lv_bipush (v := (nI 60)) hF.1 hF.2.1 dX8_step_132 (by decide) ?_
              refine kLeN (tgt := 140) hF dX8_step_134 (by decide) (by omega) (by omega) (fun c_19 => ?_) (fun c_19 => ?_)
              · refine lv_aload_n hF.1 hF.2.1 dX8_step_140 rfl (lv_at hl 0 rfl) ?_
                refine lv_aload_n hF.1 hF.2.1 dX8_step_141 rfl (lv_at hl 0 rfl) ?_
                refine kGet (C := RX8) (T := TX8) (N := 29) (index := 25) hF hK hP (inT inBX8) 0 rfl rfl 5 (by decide) rfl (List.mem_cons_of_mem _ mF_X8_25) rfl dX8_step_142 ?_
                refine lv_bipush (v := (nI 40)) hF.1 hF.2.1 dX8_step_145 (by decide) ?_
                refine lv_iload_n hF.1 hF.2.1 dX8_step_147 rfl (lv_at hl 2 rfl) ?_
                refine lv_imul hF.1 hF.2.1 dX8_step_148 ?_
                refine kTop (y := nI (40 * ix nx)) (mul40 hvx) ?_
                refine kIaldN hF hK hP 3 rfl (by have := vp_ix hvx; omega) (by decide) dX8_step_149 ?_
                refine lv_bipush (v := (nI 47)) hF.1 hF.2.1 dX8_step_150 (by decide) ?_
                refine lv_icmp_ne (tgt := 162) hF.1 hF.2.1 dX8_step_152 (by decide) (fun c_20 => ?_) (fun c_20 => ?_)
                · refine lv_aload_n hF.1 hF.2.1 dX8_step_162 rfl (lv_at hl 0 rfl) ?_
                  refine kGet (C := RX8) (T := TX8) (N := 29) (index := 114) hF hK hP (inT inBX8) 0 rfl rfl 23 (by decide) rfl (List.mem_cons_of_mem _ mF_X8_114) rfl dX8_step_163 ?_
                  refine kTop (y := if xF (40 * ix nx) = nI 47 then ro else wa) (by first | rw [if_pos (by assumption)] | rw [if_neg (by assumption)]) ?_
                  refine kPut (C := RX8) (T := TX8) (N := 29) (index := 114) (v := .int (if xF (40 * ix nx) = nI 47 then ro else wa)) hF hK hP hD hS (inT inBX8) tyX8_ok nmX8 0 rfl rfl 23 (by decide) rfl (List.mem_cons_of_mem _ mF_X8_114) rfl rfl rfl (Nat.le_of_ble_eq_true rfl) dX8_step_166 (fun H locs hP hD hS => ?_)
                  have hP : PG G [oC x 8 [.ref ak, .ref am, .ref ao, .ref av, .ref ap, .ref ax, .ref ay, .int (nI ec), .ref ad, .ref an, .ref ab, .int (nI vn), .ref ar, .ref ac, .int us, .int ro, .int pr, .ref at_, .int (nI tn), .ref as_, .int (nI sn), .ref aq, .int (nI (qn + LN (ix nx))), .int (if xF (40 * ix nx) = nI 47 then ro else wa), .int (nI (hp + 1)), .long nm, .int (nI ns), .int (zI la), .int (zI sl)], aI G ak 40 kF, aI G ap 40 pF, aI G ax 1600 xF, aI G ay 40 (fun lv => nI (LN lv)), aI G ad 80 dF, aJ G an 80 nF, aI G ab 80 bF, aI G ar 4 rF, aI G ac 4 cF, aI G aq 100 (va_cpy xF (shu qF (LN (ix nx)) 0 qn) (40 * ix nx) 0 (LN (ix nx)))] H := hP
                  have hD : va_D A [oC x 8 [.ref ak, .ref am, .ref ao, .ref av, .ref ap, .ref ax, .ref ay, .int (nI ec), .ref ad, .ref an, .ref ab, .int (nI vn), .ref ar, .ref ac, .int us, .int ro, .int pr, .ref at_, .int (nI tn), .ref as_, .int (nI sn), .ref aq, .int (nI (qn + LN (ix nx))), .int (if xF (40 * ix nx) = nI 47 then ro else wa), .int (nI (hp + 1)), .long nm, .int (nI ns), .int (zI la), .int (zI sl)], aI G ak 40 kF, aI G ap 40 pF, aI G ax 1600 xF, aI G ay 40 (fun lv => nI (LN lv)), aI G ad 80 dF, aJ G an 80 nF, aI G ab 80 bF, aI G ar 4 rF, aI G ac 4 cF, aI G aq 100 (va_cpy xF (shu qF (LN (ix nx)) 0 qn) (40 * ix nx) 0 (LN (ix nx)))] := hD
                  refine lv_iconst (v := (nI 0)) hF.1 hF.2.1 dX8_step_169 (by decide) ?_
                  refine kRetI (v := (nI 0)) hF hr hlk hK hP hD hS hQ rfl ((nI 0), qn + LN (ix nx), va_cpy xF (shu qF (LN (ix nx)) 0 qn) (40 * ix nx) 0 (LN (ix nx)), (if xF (40 * ix nx) = nI 47 then ro else wa), (hp + 1)) [0, 1, 2, 3, 4, 5, 6, 7, 8, 9, 10] (by decide) rfl (Nat.le_of_ble_eq_true rfl) (Nat.le_of_ble_eq_true rfl) dX8_step_170 ?_
                  refine ⟨rfl, ?_⟩
                  rw [← hnx]; unfold stR
                  rw [if_neg (ne_m1 hvx)]
                  rw [pI_t ⟨c_1, Or.inr (Or.inr c_14)⟩]
                  rw [if_neg (show ¬ 8 < hp + 1 by omega)]
                  rw [if_neg (show ¬ 60 < qn + LN (ix nx) by omega)]
                · refine lv_aload_n hF.1 hF.2.1 dX8_step_155 rfl (lv_at hl 0 rfl) ?_
                  refine kGet (C := RX8) (T := TX8) (N := 29) (index := 108) hF hK hP (inT inBX8) 0 rfl rfl 15 (by decide) rfl (List.mem_cons_of_mem _ mF_X8_108) rfl dX8_step_156 ?_
                  refine lv_goto (tgt := 166) hF.1 hF.2.1 dX8_step_159 (by decide) ?_
                  refine kTop (y := if xF (40 * ix nx) = nI 47 then ro else wa) (by first | rw [if_pos (by assumption)] | rw [if_neg (by assumption)]) ?_
                  refine kPut (C := RX8) (T := TX8) (N := 29) (index := 114) (v := .int (if xF (40 * ix nx) = nI 47 then ro else wa)) hF hK hP hD hS (inT inBX8) tyX8_ok nmX8 0 rfl rfl 23 (by decide) rfl (List.mem_cons_of_mem _ mF_X8_114) rfl rfl rfl (Nat.le_of_ble_eq_true rfl) dX8_step_166 (fun H locs hP hD hS => ?_)
                  have hP : PG G [oC x 8 [.ref ak, .ref am, .ref ao, .ref av, .ref ap, .ref ax, .ref ay, .int (nI ec), .ref ad, .ref an, .ref ab, .int (nI vn), .ref ar, .ref ac, .int us, .int ro, .int pr, .ref at_, .int (nI tn), .ref as_, .int (nI sn), .ref aq, .int (nI (qn + LN (ix nx))), .int (if xF (40 * ix nx) = nI 47 then ro else wa), .int (nI (hp + 1)), .long nm, .int (nI ns), .int (zI la), .int (zI sl)], aI G ak 40 kF, aI G ap 40 pF, aI G ax 1600 xF, aI G ay 40 (fun lv => nI (LN lv)), aI G ad 80 dF, aJ G an 80 nF, aI G ab 80 bF, aI G ar 4 rF, aI G ac 4 cF, aI G aq 100 (va_cpy xF (shu qF (LN (ix nx)) 0 qn) (40 * ix nx) 0 (LN (ix nx)))] H := hP
                  have hD : va_D A [oC x 8 [.ref ak, .ref am, .ref ao, .ref av, .ref ap, .ref ax, .ref ay, .int (nI ec), .ref ad, .ref an, .ref ab, .int (nI vn), .ref ar, .ref ac, .int us, .int ro, .int pr, .ref at_, .int (nI tn), .ref as_, .int (nI sn), .ref aq, .int (nI (qn + LN (ix nx))), .int (if xF (40 * ix nx) = nI 47 then ro else wa), .int (nI (hp + 1)), .long nm, .int (nI ns), .int (zI la), .int (zI sl)], aI G ak 40 kF, aI G ap 40 pF, aI G ax 1600 xF, aI G ay 40 (fun lv => nI (LN lv)), aI G ad 80 dF, aJ G an 80 nF, aI G ab 80 bF, aI G ar 4 rF, aI G ac 4 cF, aI G aq 100 (va_cpy xF (shu qF (LN (ix nx)) 0 qn) (40 * ix nx) 0 (LN (ix nx)))] := hD
                  refine lv_iconst (v := (nI 0)) hF.1 hF.2.1 dX8_step_169 (by decide) ?_
                  refine kRetI (v := (nI 0)) hF hr hlk hK hP hD hS hQ rfl ((nI 0), qn + LN (ix nx), va_cpy xF (shu qF (LN (ix nx)) 0 qn) (40 * ix nx) 0 (LN (ix nx)), (if xF (40 * ix nx) = nI 47 then ro else wa), (hp + 1)) [0, 1, 2, 3, 4, 5, 6, 7, 8, 9, 10] (by decide) rfl (Nat.le_of_ble_eq_true rfl) (Nat.le_of_ble_eq_true rfl) dX8_step_170 ?_
                  refine ⟨rfl, ?_⟩
                  rw [← hnx]; unfold stR
                  rw [if_neg (ne_m1 hvx)]
                  rw [pI_t ⟨c_1, Or.inr (Or.inr c_14)⟩]
                  rw [if_neg (show ¬ 8 < hp + 1 by omega)]
                  rw [if_neg (show ¬ 60 < qn + LN (ix nx) by omega)]
              · refine lv_bipush (v := (-5)) hF.1 hF.2.1 dX8_step_137 (by decide) ?_
                refine kRetI (v := (-5)) hF hr hlk hK hP hD hS hQ rfl ((-5), qn + LN (ix nx), va_cpy xF (shu qF (LN (ix nx)) 0 qn) (40 * ix nx) 0 (LN (ix nx)), wa, (hp + 1)) [0, 1, 2, 3, 4, 5, 6, 7, 8, 9, 10] (by decide) rfl (Nat.le_of_ble_eq_true rfl) (Nat.le_of_ble_eq_true rfl) dX8_step_139 ?_
                refine ⟨rfl, ?_⟩
                rw [← hnx]; unfold stR
                rw [if_neg (ne_m1 hvx)]
                rw [pI_t ⟨c_1, Or.inr (Or.inr c_14)⟩]
                rw [if_neg (show ¬ 8 < hp + 1 by omega)]
                rw [if_pos (show 60 < qn + LN (ix nx) by omega)]
            · refine lv_bipush (v := (-4)) hF.1 hF.2.1 dX8_step_120 (by decide) ?_
              refine kRetI (v := (-4)) hF hr hlk hK hP hD hS hQ rfl ((-4), qn, qF, wa, hp + 1) [0, 1, 2, 3, 4, 5, 6, 7, 8, 9, 10] (by decide) rfl (Nat.le_of_ble_eq_true rfl) (Nat.le_of_ble_eq_true rfl) dX8_step_122 ?_
              refine ⟨rfl, ?_⟩
              rw [← hnx]; unfold stR
              rw [if_neg (ne_m1 hvx)]
              rw [pI_t ⟨c_1, Or.inr (Or.inr c_14)⟩]
              rw [if_pos (show 8 < hp + 1 by omega)]
  refine lv_aload_n hF.1 hF.2.1 dX8_step_0 rfl (lv_at hl 0 rfl) ?_
  refine kGet (C := RX8) (T := TX8) (N := 29) (index := 114) hF hK hP (inT inBX8) 0 rfl rfl 23 (by decide) rfl (List.mem_cons_of_mem _ mF_X8_114) rfl dX8_step_1 ?_
  refine lv_istore_n (lv' := [(2, .int wa), (0, .ref x), (1, .int fo)]) hF.1 hF.2.1 dX8_step_4 rfl hl (by decide) rfl (fun ls hl => ?_)
  refine lv_aload_n hF.1 hF.2.1 dX8_step_5 rfl (lv_at hl 1 rfl) ?_
  refine kGet (C := RX8) (T := TX8) (N := 29) (index := 92) hF hK hP (inT inBX8) 0 rfl rfl 25 (by decide) rfl (List.mem_cons_of_mem _ mF_X8_92) rfl dX8_step_6 ?_
  refine lv_ldc2 (v := lN 5934) hF.1 hF.2.1 hF.2.2.2.1 (hF.2.2.2.2 _ (List.mem_cons_of_mem _ mG_X8_124)) dX8_step_9 ?_
  refine W.lcmp hF.1 hF.2.1 dX8_step_12 ?_
  refine kIfNeC (tgt := 32) hF dX8_step_13 (by decide) (fun c_21 => ?_) (fun c_21 => ?_)
  · refine lv_aload_n hF.1 hF.2.1 dX8_step_32 rfl (lv_at hl 1 rfl) ?_
    refine kGet (C := RX8) (T := TX8) (N := 29) (index := 92) hF hK hP (inT inBX8) 0 rfl rfl 25 (by decide) rfl (List.mem_cons_of_mem _ mF_X8_92) rfl dX8_step_33 ?_
    refine lv_ldc2 (v := lN 46) hF.1 hF.2.1 hF.2.2.2.1 (hF.2.2.2.2 _ (List.mem_cons_of_mem _ mG_X8_130)) dX8_step_36 ?_
    refine W.lcmp hF.1 hF.2.1 dX8_step_39 ?_
    refine kIfEqC (tgt := 73) hF dX8_step_40 (by decide) (fun c_22 => ?_) (fun c_22 => ?_)
    · exact cut_73 wa (by rw [nxR, if_neg (by assumption), if_pos (by assumption)]) (hwa) _ _ _ hP hD hS (lv_sub hl [1, 2, 0] rfl)
    · refine lv_aload_n hF.1 hF.2.1 dX8_step_43 rfl (lv_at hl 1 rfl) ?_
      refine lv_aload_n hF.1 hF.2.1 dX8_step_44 rfl (lv_at hl 1 rfl) ?_
      refine kGet (C := RX8) (T := TX8) (N := 29) (index := 114) hF hK hP (inT inBX8) 0 rfl rfl 23 (by decide) rfl (List.mem_cons_of_mem _ mF_X8_114) rfl dX8_step_45 ?_
      refine lv_aload_n hF.1 hF.2.1 dX8_step_48 rfl (lv_at hl 1 rfl) ?_
      refine kGet (C := RX8) (T := TX8) (N := 29) (index := 92) hF hK hP (inT inBX8) 0 rfl rfl 25 (by decide) rfl (List.mem_cons_of_mem _ mF_X8_92) rfl dX8_step_49 ?_
      refine kCallI (wr := [aI G ak 40 kF, aI G ap 40 pF, aI G ax 1600 xF, aI G ay 40 (fun lv => nI (LN lv)), aI G ab 80 bF, aI G ar 4 rF, aI G ac 4 cF, aI G aq 100 qF]) (va_runV (As := [.int wa, .long nm]) (rest := []) hF (c_X8_find l G _ x ak am ao av ap ax ay ad an ab ar ac at_ as_ aq ec vn tn sn qn hp ns us ro pr wa nm la sl dF nF wa nm (by first | assumption | omega)) (cwVB 2 hF rfl mL_X8_132 mI_X8_find mS_X8_find mN_X8 mC_X8_find rfl hd_X8_find rfl rfl ⟨Nat.le_of_ble_eq_true rfl, Nat.le_of_ble_eq_true rfl⟩) (kPre hK hP hD [0, 5, 6] (by decide) rfl (q0 := 0) (ci := 8) rfl rfl rfl) rfl rfl hl.1 rfl (lv_room (Nat.le_of_ble_eq_true rfl)) dX8_step_52 ⟨Nat.le_of_ble_eq_true rfl, Nat.le_of_ble_eq_true rfl⟩) hP hD hS hA [0, 5, 6] [1, 2, 3, 4, 7, 8, 9, 10] rfl rfl (by decide) (by decide) (fun r u H locs hw_23 hP hD hS => ?_)
      have hw_23 := hw_23.symm
      subst hw_23
      have hP : PG G [oC x 8 [.ref ak, .ref am, .ref ao, .ref av, .ref ap, .ref ax, .ref ay, .int (nI ec), .ref ad, .ref an, .ref ab, .int (nI vn), .ref ar, .ref ac, .int us, .int ro, .int pr, .ref at_, .int (nI tn), .ref as_, .int (nI sn), .ref aq, .int (nI qn), .int wa, .int (nI hp), .long nm, .int (nI ns), .int (zI la), .int (zI sl)], aI G ak 40 kF, aI G ap 40 pF, aI G ax 1600 xF, aI G ay 40 (fun lv => nI (LN lv)), aI G ad 80 dF, aJ G an 80 nF, aI G ab 80 bF, aI G ar 4 rF, aI G ac 4 cF, aI G aq 100 qF] H := va_P.sub hP [8, 0, 1, 2, 3, 9, 10, 4, 5, 6, 7] rfl
      have hD : va_D A [oC x 8 [.ref ak, .ref am, .ref ao, .ref av, .ref ap, .ref ax, .ref ay, .int (nI ec), .ref ad, .ref an, .ref ab, .int (nI vn), .ref ar, .ref ac, .int us, .int ro, .int pr, .ref at_, .int (nI tn), .ref as_, .int (nI sn), .ref aq, .int (nI qn), .int wa, .int (nI hp), .long nm, .int (nI ns), .int (zI la), .int (zI sl)], aI G ak 40 kF, aI G ap 40 pF, aI G ax 1600 xF, aI G ay 40 (fun lv => nI (LN lv)), aI G ad 80 dF, aJ G an 80 nF, aI G ab 80 bF, aI G ar 4 rF, aI G ac 4 cF, aI G aq 100 qF] := va_D.sub hD [8, 0, 1, 2, 3, 9, 10, 4, 5, 6, 7] (by decide) rfl
      refine lv_istore_n (lv' := [(3, .int (rI (fndE dF nF wa nm ec) ec)), (2, .int wa), (0, .ref x), (1, .int fo)]) hF.1 hF.2.1 dX8_step_55 rfl hl (by decide) rfl (fun ls hl => ?_)
      refine lv_iload_n hF.1 hF.2.1 dX8_step_56 rfl (lv_at hl 0 rfl) ?_
      refine lv_if_ge (tgt := 62) hF.1 hF.2.1 dX8_step_57 (by decide) (fun c_24 => ?_) (fun c_24 => ?_)
      · have hJ : fndE dF nF wa nm ec < ec := rI_nn c_24
        rw [rI_t hJ] at hl
        refine lv_aload_n hF.1 hF.2.1 dX8_step_62 rfl (lv_at hl 2 rfl) ?_
        refine lv_aload_n hF.1 hF.2.1 dX8_step_63 rfl (lv_at hl 2 rfl) ?_
        refine kGet (C := RX8) (T := TX8) (N := 29) (index := 38) hF hK hP (inT inBX8) 0 rfl rfl 10 (by decide) rfl (List.mem_cons_of_mem _ mF_X8_38) rfl dX8_step_64 ?_
        refine lv_iload_n hF.1 hF.2.1 dX8_step_67 rfl (lv_at hl 0 rfl) ?_
        refine kIaldN hF hK hP 7 rfl (by omega) (by decide) dX8_step_68 ?_
        refine kCallI (wr := [aI G ak 40 kF, aI G ap 40 pF, aI G ax 1600 xF, aI G ay 40 (fun lv => nI (LN lv)), aI G ad 80 dF, aJ G an 80 nF, aI G ab 80 bF, aI G aq 100 qF]) (va_runV (As := [.int (bF (fndE dF nF wa nm ec))]) (rest := []) hF (c_X8_top l G H.size x ak am ao av ap ax ay ad an ab ar ac at_ as_ aq ec vn tn sn qn hp ns us ro pr wa nm la sl rF cF (bF (fndE dF nF wa nm ec)) (by first | assumption | omega)) (cwVB 1 hF rfl mL_X8_79 mI_X8_top mS_X8_top mN_X8 mC_X8_top rfl hd_X8_top rfl rfl ⟨Nat.le_of_ble_eq_true rfl, Nat.le_of_ble_eq_true rfl⟩) (kPre hK hP hD [0, 8, 9] (by decide) rfl (q0 := 0) (ci := 8) rfl rfl rfl) rfl rfl hl.1 rfl (lv_room (Nat.le_of_ble_eq_true rfl)) dX8_step_69 ⟨Nat.le_of_ble_eq_true rfl, Nat.le_of_ble_eq_true rfl⟩) hP hD hS hA [0, 8, 9] [1, 2, 3, 4, 5, 6, 7, 10] rfl rfl (by decide) (by decide) (fun r u H locs hw_25 hP hD hS => ?_)
        have hw_25 := hw_25.symm
        subst hw_25
        have hP : PG G [oC x 8 [.ref ak, .ref am, .ref ao, .ref av, .ref ap, .ref ax, .ref ay, .int (nI ec), .ref ad, .ref an, .ref ab, .int (nI vn), .ref ar, .ref ac, .int us, .int ro, .int pr, .ref at_, .int (nI tn), .ref as_, .int (nI sn), .ref aq, .int (nI qn), .int wa, .int (nI hp), .long nm, .int (nI ns), .int (zI la), .int (zI sl)], aI G ak 40 kF, aI G ap 40 pF, aI G ax 1600 xF, aI G ay 40 (fun lv => nI (LN lv)), aI G ad 80 dF, aJ G an 80 nF, aI G ab 80 bF, aI G ar 4 rF, aI G ac 4 cF, aI G aq 100 qF] H := va_P.sub hP [8, 0, 1, 2, 3, 4, 5, 6, 9, 10, 7] rfl
        have hD : va_D A [oC x 8 [.ref ak, .ref am, .ref ao, .ref av, .ref ap, .ref ax, .ref ay, .int (nI ec), .ref ad, .ref an, .ref ab, .int (nI vn), .ref ar, .ref ac, .int us, .int ro, .int pr, .ref at_, .int (nI tn), .ref as_, .int (nI sn), .ref aq, .int (nI qn), .int wa, .int (nI hp), .long nm, .int (nI ns), .int (zI la), .int (zI sl)], aI G ak 40 kF, aI G ap 40 pF, aI G ax 1600 xF, aI G ay 40 (fun lv => nI (LN lv)), aI G ad 80 dF, aJ G an 80 nF, aI G ab 80 bF, aI G ar 4 rF, aI G ac 4 cF, aI G aq 100 qF] := va_D.sub hD [8, 0, 1, 2, 3, 4, 5, 6, 9, 10, 7] (by decide) rfl
        refine lv_istore_n (lv' := [(2, .int (topR rF cF vn 5 (bF (fndE dF nF wa nm ec)))), (3, .int (nI (fndE dF nF wa nm ec))), (0, .ref x), (1, .int fo)]) hF.1 hF.2.1 dX8_step_72 rfl hl (by decide) rfl (fun ls hl => ?_)
        exact cut_73 (topR rF cF vn 5 (bF (fndE dF nF wa nm ec))) (by rw [nxR, if_neg (by assumption), if_neg (by assumption), if_pos hJ]) (topR_in hvn hrr 5 _ (hbr _ hJ)) _ _ _ hP hD hS (lv_sub hl [2, 3, 0] rfl)
      · have hJ := rI_ng c_24 (by omega)
        refine lv_iconst (v := (-1)) hF.1 hF.2.1 dX8_step_60 (by decide) ?_
        refine kRetI (v := (-1)) hF hr hlk hK hP hD hS hQ rfl ((-1), qn, qF, wa, hp) [0, 1, 2, 3, 4, 5, 6, 7, 8, 9, 10] (by decide) rfl (Nat.le_of_ble_eq_true rfl) (Nat.le_of_ble_eq_true rfl) dX8_step_61 ?_
        refine ⟨rfl, ?_⟩
        have hnx : -1 = nxR rF cF pF vn dF nF bF ec wa ro nm := by unfold nxR; rw [if_neg (by assumption), if_neg (by assumption), if_neg (by omega)]
        rw [← hnx, stR, if_pos rfl]
  · refine lv_aload_n hF.1 hF.2.1 dX8_step_16 rfl (lv_at hl 1 rfl) ?_
    refine lv_aload_n hF.1 hF.2.1 dX8_step_17 rfl (lv_at hl 1 rfl) ?_
    refine kGet (C := RX8) (T := TX8) (N := 29) (index := 114) hF hK hP (inT inBX8) 0 rfl rfl 23 (by decide) rfl (List.mem_cons_of_mem _ mF_X8_114) rfl dX8_step_18 ?_
    refine lv_aload_n hF.1 hF.2.1 dX8_step_21 rfl (lv_at hl 1 rfl) ?_
    refine kGet (C := RX8) (T := TX8) (N := 29) (index := 108) hF hK hP (inT inBX8) 0 rfl rfl 15 (by decide) rfl (List.mem_cons_of_mem _ mF_X8_108) rfl dX8_step_22 ?_
    refine kCallI (wr := [aI G ak 40 kF, aI G ax 1600 xF, aI G ay 40 (fun lv => nI (LN lv)), aI G ad 80 dF, aJ G an 80 nF, aI G ab 80 bF, aI G aq 100 qF]) (va_runV (As := [.int wa, .int ro]) (rest := []) hF (c_X8_above l G _ x ak am ao av ap ax ay ad an ab ar ac at_ as_ aq ec vn tn sn qn hp ns us ro pr wa nm la sl pF rF cF wa ro (by first | assumption | omega) (by first | assumption | omega) (by first | assumption | omega)) (cwVB 2 hF rfl mL_X8_126 mI_X8_above mS_X8_above mN_X8 mC_X8_above rfl hd_X8_above rfl rfl ⟨Nat.le_of_ble_eq_true rfl, Nat.le_of_ble_eq_true rfl⟩) (kPre hK hP hD [0, 2, 8, 9] (by decide) rfl (q0 := 0) (ci := 8) rfl rfl rfl) rfl rfl hl.1 rfl (lv_room (Nat.le_of_ble_eq_true rfl)) dX8_step_25 ⟨Nat.le_of_ble_eq_true rfl, Nat.le_of_ble_eq_true rfl⟩) hP hD hS hA [0, 2, 8, 9] [1, 3, 4, 5, 6, 7, 10] rfl rfl (by decide) (by decide) (fun r u H locs hw_26 hP hD hS => ?_)
    have hw_26 := hw_26.symm
    subst hw_26
    have hP : PG G [oC x 8 [.ref ak, .ref am, .ref ao, .ref av, .ref ap, .ref ax, .ref ay, .int (nI ec), .ref ad, .ref an, .ref ab, .int (nI vn), .ref ar, .ref ac, .int us, .int ro, .int pr, .ref at_, .int (nI tn), .ref as_, .int (nI sn), .ref aq, .int (nI qn), .int wa, .int (nI hp), .long nm, .int (nI ns), .int (zI la), .int (zI sl)], aI G ak 40 kF, aI G ap 40 pF, aI G ax 1600 xF, aI G ay 40 (fun lv => nI (LN lv)), aI G ad 80 dF, aJ G an 80 nF, aI G ab 80 bF, aI G ar 4 rF, aI G ac 4 cF, aI G aq 100 qF] H := va_P.sub hP [7, 0, 8, 1, 2, 3, 4, 5, 9, 10, 6] rfl
    have hD : va_D A [oC x 8 [.ref ak, .ref am, .ref ao, .ref av, .ref ap, .ref ax, .ref ay, .int (nI ec), .ref ad, .ref an, .ref ab, .int (nI vn), .ref ar, .ref ac, .int us, .int ro, .int pr, .ref at_, .int (nI tn), .ref as_, .int (nI sn), .ref aq, .int (nI qn), .int wa, .int (nI hp), .long nm, .int (nI ns), .int (zI la), .int (zI sl)], aI G ak 40 kF, aI G ap 40 pF, aI G ax 1600 xF, aI G ay 40 (fun lv => nI (LN lv)), aI G ad 80 dF, aJ G an 80 nF, aI G ab 80 bF, aI G ar 4 rF, aI G ac 4 cF, aI G aq 100 qF] := va_D.sub hD [7, 0, 8, 1, 2, 3, 4, 5, 9, 10, 6] (by decide) rfl
    refine lv_istore_n (lv' := [(2, .int (abvR rF cF pF vn wa ro)), (0, .ref x), (1, .int fo)]) hF.1 hF.2.1 dX8_step_28 rfl hl (by decide) rfl (fun ls hl => ?_)
    refine lv_goto (tgt := 73) hF.1 hF.2.1 dX8_step_29 (by decide) ?_
    exact cut_73 (abvR rF cF pF vn wa ro) (by rw [nxR, if_pos (by assumption)]) (abvR_in hvn hcr hrr hpr hwa) _ _ _ hP hD hS (lv_sub hl [1, 2, 0] rfl)
