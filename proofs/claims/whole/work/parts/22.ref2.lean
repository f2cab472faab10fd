set_option maxHeartbeats 4000000 in
set_option maxRecDepth 100000 in
theorem c_X8_type (l : Launch) (G : GG) (sz : Nat) (x : Nat) (ak : Nat) (am : Nat) (ao : Nat) (av : Nat) (ap : Nat) (ax : Nat) (ay : Nat) (ad : Nat) (an : Nat) (ab : Nat) (ar : Nat) (ac : Nat) (at_ : Nat) (as_ : Nat) (aq : Nat) (ec : Nat) (vn : Nat) (tn : Nat) (sn : Nat) (qn : Nat) (hp : Nat) (ns : Nat) (us : Int32) (ro : Int32) (pr : Int32) (wa : Int32) (nm : Int64) (la : Prop) (sl : Prop) (tF : Nat → Int32) (w : Int32) (htn : tn ≤ 40) : CtI l G yX8_type wsX8_type 0 0 0 0 sz [.ref x, .int w] [oC x 8 [.ref ak, .ref am, .ref ao, .ref av, .ref ap, .ref ax, .ref ay, .int (nI ec), .ref ad, .ref an, .ref ab, .int (nI vn), .ref ar, .ref ac, .int us, .int ro, .int pr, .ref at_, .int (nI tn), .ref as_, .int (nI sn), .ref aq, .int (nI qn), .int wa, .int (nI hp), .long nm, .int (nI ns), .int (zI la), .int (zI sl)], aI G at_ 40 tF] (fun r (u : Bool × Nat × (Nat → Int32)) => match u with | (b2, n2, f2) => r = (zI (b2 = true)) ∧ (b2, n2, f2) = tyC w tn tF) (fun (u : Bool × Nat × (Nat → Int32)) => match u with | (b2, n2, f2) => [oC x 8 [.ref ak, .ref am, .ref ao, .ref av, .ref ap, .ref ax, .ref ay, .int (nI ec), .ref ad, .ref an, .ref ab, .int (nI vn), .ref ar, .ref ac, .int us, .int ro, .int pr, .ref at_, .int (nI n2), .ref as_, .int (nI sn), .ref aq, .int (nI qn), .int wa, .int (nI hp), .long nm, .int (nI ns), .int (zI la), .int (zI sl)], aI G at_ 40 f2]) := by
  refine kMet (Qc := fun A => va_Qi _ (Bw G A _) A) (cc := cX8_type) (nL := 5) (ret := some (.boolean)) (by decide) rfl (Nat.le_of_ble_eq_true rfl) ?_
  intro p e s m args below meth c A Q hF hr hlk hnme hK hP hD hA hS hQ hsz ls hl
  have hl : lv_has ls 5 [(0, .ref x), (1, .int w)] := hl
  refine lv_iconst (v := (nI 0)) hF.1 hF.2.1 dX8_type_0 (by decide) ?_
  refine lv_istore_n (lv' := [(2, .int (nI 0)), (0, .ref x), (1, .int w)]) hF.1 hF.2.1 dX8_type_1 rfl hl (by decide) rfl (fun ls hl => ?_)
  refine lv_iconst (v := (nI 3)) hF.1 hF.2.1 dX8_type_2 (by decide) ?_
  refine kTop (y := kI 0) kI_0 ?_
  refine lv_istore_n (lv' := [(3, .int (kI 0)), (2, .int (nI 0)), (0, .ref x), (1, .int w)]) hF.1 hF.2.1 dX8_type_3 rfl hl (by decide) rfl (fun ls hl => ?_)
  have loop_4 : ∀ (n_4 : Nat) (k mr : Nat), 4 - k < n_4 → (k ≤ 4 ∧ mr ≤ k) → (mr + tyN w (4 - k) k = tyN w 4 0) → (tyB w (4 - k) k = tyB w 4 0) → ∀ (H : Heap) (locs : List Loc) (ls : Array Slot), PG G [oC x 8 [.ref ak, .ref am, .ref ao, .ref av, .ref ap, .ref ax, .ref ay, .int (nI ec), .ref ad, .ref an, .ref ab, .int (nI vn), .ref ar, .ref ac, .int us, .int ro, .int pr, .ref at_, .int (nI tn), .ref as_, .int (nI sn), .ref aq, .int (nI qn), .int wa, .int (nI hp), .long nm, .int (nI ns), .int (zI la), .int (zI sl)], aI G at_ 40 tF] H → va_D A [oC x 8 [.ref ak, .ref am, .ref ao, .ref av, .ref ap, .ref ax, .ref ay, .int (nI ec), .ref ad, .ref an, .ref ab, .int (nI vn), .ref ar, .ref ac, .int us, .int ro, .int pr, .ref at_, .int (nI tn), .ref as_, .int (nI sn), .ref aq, .int (nI qn), .int wa, .int (nI hp), .long nm, .int (nI ns), .int (zI la), .int (zI sl)], aI G at_ 40 tF] → va_S A s.heap H locs → lv_has ls 5 [(3, .int (kI k)), (2, .int (nI mr)), (0, .ref x), (1, .int w)] → W p l e (Rm 0 0 0 0) s m args below meth c H locs 0 0 Q (F0 m 4 ls []) := by
    intro n_4
    induction n_4 with
    | zero => intro k mr hm; exact absurd hm (Nat.not_lt_zero _)
    | succ n_4 ih_4 =>
      intro k mr hm_4 hk hm hB H locs ls hP hD hS hl
      refine lv_iload_n hF.1 hF.2.1 dX8_type_4 rfl (lv_at hl 0 rfl) ?_
      refine lv_if_lt (tgt := 60) hF.1 hF.2.1 dX8_type_5 (by decide) (fun c_1 => ?_) (fun c_1 => ?_)
      · have c_1 := (kI_lt k (by omega)).1 c_1
        refine lv_aload_n hF.1 hF.2.1 dX8_type_60 rfl (lv_at hl 2 rfl) ?_
        refine kGet (C := RX8) (T := TX8) (N := 29) (index := 60) hF hK hP (inT inBX8) 0 rfl rfl 18 (by decide) rfl (List.mem_cons_of_mem _ mF_X8_60) rfl dX8_type_61 ?_
        refine lv_iload_n hF.1 hF.2.1 dX8_type_64 rfl (lv_at hl 1 rfl) ?_
        refine lv_iadd hF.1 hF.2.1 dX8_type_65 ?_
        refine kTop (y := (nI (tn + mr))) (nI_add _ _) ?_
        refine lv_bipush (v := (nI 40)) hF.1 hF.2.1 dX8_type_66 (by decide) ?_
        refine kLeN (tgt := 73) hF dX8_type_68 (by decide) (by omega) (by omega) (fun c_2 => ?_) (fun c_2 => ?_)
        · refine lv_iconst (v := (nI 3)) hF.1 hF.2.1 dX8_type_73 (by decide) ?_
          refine kTop (y := kI 0) kI_0 ?_
          refine lv_istore_n (lv' := [(3, .int (kI 0)), (2, .int (nI mr)), (0, .ref x), (1, .int w)]) hF.1 hF.2.1 dX8_type_74 rfl hl (by decide) rfl (fun ls hl => ?_)
          have loop_75 : ∀ (n_75 : Nat) (k2 n1 : Nat) (f1 : Nat → Int32), 4 - k2 < n_75 → (k2 ≤ 4) → (n1 + tyN w (4 - k2) k2 = tn + tyN w 4 0) → (tyF w (4 - k2) k2 n1 f1 = tyF w 4 0 tn tF) → ∀ (H : Heap) (locs : List Loc) (ls : Array Slot), PG G [oC x 8 [.ref ak, .ref am, .ref ao, .ref av, .ref ap, .ref ax, .ref ay, .int (nI ec), .ref ad, .ref an, .ref ab, .int (nI vn), .ref ar, .ref ac, .int us, .int ro, .int pr, .ref at_, .int (nI n1), .ref as_, .int (nI sn), .ref aq, .int (nI qn), .int wa, .int (nI hp), .long nm, .int (nI ns), .int (zI la), .int (zI sl)], aI G at_ 40 f1] H → va_D A [oC x 8 [.ref ak, .ref am, .ref ao, .ref av, .ref ap, .ref ax, .ref ay, .int (nI ec), .ref ad, .ref an, .ref ab, .int (nI vn), .ref ar, .ref ac, .int us, .int ro, .int pr, .ref at_, .int (nI n1), .ref as_, .int (nI sn), .ref aq, .int (nI qn), .int wa, .int (nI hp), .long nm, .int (nI ns), .int (zI la), .int (zI sl)], aI G at_ 40 f1] → va_S A s.heap H locs → lv_has ls 5 [(3, .int (kI k2)), (2, .int (nI mr)), (0, .ref x), (1, .int w)] → W p l e (Rm 0 0 0 0) s m args below meth c H locs 0 0 Q (F0 m 75 ls []) := by
            intro n_75
            induction n_75 with
            | zero => intro k2 n1 f1 hm; exact absurd hm (Nat.not_lt_zero _)
            | succ n_75 ih_75 =>
              intro k2 n1 f1 hm_75 hk2 hn1 hF1 H locs ls hP hD hS hl
              refine lv_iload_n hF.1 hF.2.1 dX8_type_75 rfl (lv_at hl 0 rfl) ?_
              refine lv_if_lt (tgt := 123) hF.1 hF.2.1 dX8_type_76 (by decide) (fun c_3 => ?_) (fun c_3 => ?_)
              · have c_3 := (kI_lt k2 (by omega)).1 c_3
                refine lv_iconst (v := (nI 1)) hF.1 hF.2.1 dX8_type_123 (by decide) ?_
                refine kRetI (v := (nI 1)) hF hr hlk hK hP hD hS hQ rfl (true, n1, f1) [0, 1] (by decide) rfl (Nat.le_of_ble_eq_true rfl) (Nat.le_of_ble_eq_true rfl) dX8_type_124 ?_
                refine ⟨zI_1 rfl, ?_⟩
                have h7 := tyN_e (w := w) (k := k) (by omega)
                have h6 := tyF_e (w := w) (k := k2) (n := n1) (f := f1) (by omega)
                rw [tyC, if_pos ⟨by rw [← hB]; exact tyB_e (by omega), by omega⟩, ← hF1, h6]
              · have c_3 : ¬ k2 = 4 := fun h => c_3 ((kI_lt k2 (by omega)).2 h)
                refine lv_iload_n hF.1 hF.2.1 dX8_type_79 rfl (lv_at hl 3 rfl) ?_
                refine lv_bipush (v := (nI 8)) hF.1 hF.2.1 dX8_type_80 (by decide) ?_
                refine lv_iload_n hF.1 hF.2.1 dX8_type_82 rfl (lv_at hl 0 rfl) ?_
                refine lv_imul hF.1 hF.2.1 dX8_type_83 ?_
                refine lv_ishr hF.1 hF.2.1 dX8_type_84 ?_
                refine lv_sipush (v := (nI 255)) hF.1 hF.2.1 dX8_type_85 (by decide) ?_
                refine lv_iand hF.1 hF.2.1 dX8_type_88 ?_
                refine kTop (y := nI (by4 w k2)) (by4_r w (by omega)) ?_
                have hb4 := by4_lt w k2
                refine lv_istore (lv' := [(4, .int (nI (by4 w k2))), (3, .int (kI k2)), (2, .int (nI mr)), (0, .ref x), (1, .int w)]) hF.1 hF.2.1 dX8_type_89 hl (by decide) rfl (fun ls hl => ?_)
                refine lv_iload hF.1 hF.2.1 dX8_type_91 (lv_at hl 0 rfl) ?_
                refine kIfEqN (tgt := 117) hF dX8_type_93 (by decide) (by omega) (fun c_4 => ?_) (fun c_4 => ?_)
                · refine lv_iinc (v := (kI (k2 + 1))) (lv' := [(3, .int (kI (k2 + 1))), (4, .int (nI (by4 w k2))), (2, .int (nI mr)), (0, .ref x), (1, .int w)]) hF.1 hF.2.1 dX8_type_117 hl (k := 1) rfl (kI_s k2 (by omega)) (by decide) rfl (fun ls hl => ?_)
                  refine lv_goto (tgt := 75) hF.1 hF.2.1 dX8_type_120 (by decide) ?_
                  exact ih_75 (k2 + 1) n1 f1 (by omega) (by omega) (by first | (have h9 := tyN_1 (w := w) (k := k2) (by omega) (by omega); omega) | (have h9 := tyN_0 (w := w) (k := k2) (by omega) (by omega); omega)) (by rw [← hF1]; first | exact (tyF_1 (by omega) (by omega)).symm | exact (tyF_0 (by omega) (by omega)).symm) H locs ls hP hD hS (lv_sub hl [0, 2, 3, 4] rfl)
                · have h9 := tyN_1 (w := w) (k := k2) (by omega) (by omega)
                  have h7 := tyN_e (w := w) (k := k) (by omega)
                  have h8 : tn + tyN w 4 0 ≤ 40 := by omega
                  refine lv_aload_n hF.1 hF.2.1 dX8_type_96 rfl (lv_at hl 3 rfl) ?_
                  refine kGet (C := RX8) (T := TX8) (N := 29) (index := 51) hF hK hP (inT inBX8) 0 rfl rfl 17 (by decide) rfl (List.mem_cons_of_mem _ mF_X8_51) rfl dX8_type_97 ?_
                  refine lv_aload_n hF.1 hF.2.1 dX8_type_100 rfl (lv_at hl 3 rfl) ?_
                  refine kGet (C := RX8) (T := TX8) (N := 29) (index := 60) hF hK hP (inT inBX8) 0 rfl rfl 18 (by decide) rfl (List.mem_cons_of_mem _ mF_X8_60) rfl dX8_type_101 ?_
                  refine lv_iload hF.1 hF.2.1 dX8_type_104 (lv_at hl 0 rfl) ?_
                  refine kIastN hF hK hP hD hS 1 rfl (by omega) (by decide) dX8_type_106 (fun H locs hP hD hS => ?_)
                  have hP : PG G [oC x 8 [.ref ak, .ref am, .ref ao, .ref av, .ref ap, .ref ax, .ref ay, .int (nI ec), .ref ad, .ref an, .ref ab, .int (nI vn), .ref ar, .ref ac, .int us, .int ro, .int pr, .ref at_, .int (nI n1), .ref as_, .int (nI sn), .ref aq, .int (nI qn), .int wa, .int (nI hp), .long nm, .int (nI ns), .int (zI la), .int (zI sl)], aI G at_ 40 (upd f1 n1 (nI (by4 w k2)))] H := hP
                  have hD : va_D A [oC x 8 [.ref ak, .ref am, .ref ao, .ref av, .ref ap, .ref ax, .ref ay, .int (nI ec), .ref ad, .ref an, .ref ab, .int (nI vn), .ref ar, .ref ac, .int us, .int ro, .int pr, .ref at_, .int (nI n1), .ref as_, .int (nI sn), .ref aq, .int (nI qn), .int wa, .int (nI hp), .long nm, .int (nI ns), .int (zI la), .int (zI sl)], aI G at_ 40 (upd f1 n1 (nI (by4 w k2)))] := hD
                  refine lv_aload_n hF.1 hF.2.1 dX8_type_107 rfl (lv_at hl 3 rfl) ?_
                  refine lv_aload_n hF.1 hF.2.1 dX8_type_108 rfl (lv_at hl 3 rfl) ?_
                  refine kGet (C := RX8) (T := TX8) (N := 29) (index := 60) hF hK hP (inT inBX8) 0 rfl rfl 18 (by decide) rfl (List.mem_cons_of_mem _ mF_X8_60) rfl dX8_type_109 ?_
                  refine lv_iconst (v := (nI 1)) hF.1 hF.2.1 dX8_type_112 (by decide) ?_
                  refine lv_iadd hF.1 hF.2.1 dX8_type_113 ?_
                  refine kTop (y := (nI (n1 + 1))) (nI_add _ _) ?_
                  refine kPut (C := RX8) (T := TX8) (N := 29) (index := 60) (v := .int (nI (n1 + 1))) hF hK hP hD hS (inT inBX8) tyX8_ok nmX8 0 rfl rfl 18 (by decide) rfl (List.mem_cons_of_mem _ mF_X8_60) rfl rfl rfl (Nat.le_of_ble_eq_true rfl) dX8_type_114 (fun H locs hP hD hS => ?_)
                  have hP : PG G [oC x 8 [.ref ak, .ref am, .ref ao, .ref av, .ref ap, .ref ax, .ref ay, .int (nI ec), .ref ad, .ref an, .ref ab, .int (nI vn), .ref ar, .ref ac, .int us, .int ro, .int pr, .ref at_, .int (nI (n1 + 1)), .ref as_, .int (nI sn), .ref aq, .int (nI qn), .int wa, .int (nI hp), .long nm, .int (nI ns), .int (zI la), .int (zI sl)], aI G at_ 40 (upd f1 n1 (nI (by4 w k2)))] H := hP
                  have hD : va_D A [oC x 8 [.ref ak, .ref am, .ref ao, .ref av, .ref ap, .ref ax, .ref ay, .int (nI ec), .ref ad, .ref an, .ref ab, .int (nI vn), .ref ar, .ref ac, .int us, .int ro, .int pr, .ref at_, .int (nI (n1 + 1)), .ref as_, .int (nI sn), .ref aq, .int (nI qn), .int wa, .int (nI hp), .long nm, .int (nI ns), .int (zI la), .int (zI sl)], aI G at_ 40 (upd f1 n1 (nI (by4 w k2)))] := hD
                  refine lv_iinc (v := (kI (k2 + 1))) (lv' := [(3, .int (kI (k2 + 1))), (4, .int (nI (by4 w k2))), (2, .int (nI mr)), (0, .ref x), (1, .int w)]) hF.1 hF.2.1 dX8_type_117 hl (k := 1) rfl (kI_s k2 (by omega)) (by decide) rfl (fun ls hl => ?_)
                  refine lv_goto (tgt := 75) hF.1 hF.2.1 dX8_type_120 (by decide) ?_
                  exact ih_75 (k2 + 1) (n1 + 1) (upd f1 n1 (nI (by4 w k2))) (by omega) (by omega) (by first | (have h9 := tyN_1 (w := w) (k := k2) (by omega) (by omega); omega) | (have h9 := tyN_0 (w := w) (k := k2) (by omega) (by omega); omega)) (by rw [← hF1]; first | exact (tyF_1 (by omega) (by omega)).symm | exact (tyF_0 (by omega) (by omega)).symm) H locs ls hP hD hS (lv_sub hl [0, 2, 3, 4] rfl)
          exact loop_75 _ 0 tn tF (Nat.lt_succ_self _) (by omega) (rfl) (rfl) _ _ _ hP hD hS (lv_sub hl [0, 1, 2, 3] rfl)
        · refine lv_iconst (v := (nI 0)) hF.1 hF.2.1 dX8_type_71 (by decide) ?_
          refine kRetI (v := (nI 0)) hF hr hlk hK hP hD hS hQ rfl (false, tn, tF) [0, 1] (by decide) rfl (Nat.le_of_ble_eq_true rfl) (Nat.le_of_ble_eq_true rfl) dX8_type_72 ?_
          refine ⟨zI_0 (by decide), ?_⟩
          have h7 := tyN_e (w := w) (k := k) (by omega)
          rw [tyC, if_neg (fun h => by omega)]
      · have c_1 : ¬ k = 4 := fun h => c_1 ((kI_lt k (by omega)).2 h)
        refine lv_iload_n hF.1 hF.2.1 dX8_type_8 rfl (lv_at hl 3 rfl) ?_
        refine lv_bipush (v := (nI 8)) hF.1 hF.2.1 dX8_type_9 (by decide) ?_
        refine lv_iload_n hF.1 hF.2.1 dX8_type_11 rfl (lv_at hl 0 rfl) ?_
        refine lv_imul hF.1 hF.2.1 dX8_type_12 ?_
        refine lv_ishr hF.1 hF.2.1 dX8_type_13 ?_
        refine lv_sipush (v := (nI 255)) hF.1 hF.2.1 dX8_type_14 (by decide) ?_
        refine lv_iand hF.1 hF.2.1 dX8_type_17 ?_
        refine kTop (y := nI (by4 w k)) (by4_r w (by omega)) ?_
        have hb4 := by4_lt w k
        refine lv_istore (lv' := [(4, .int (nI (by4 w k))), (3, .int (kI k)), (2, .int (nI mr)), (0, .ref x), (1, .int w)]) hF.1 hF.2.1 dX8_type_18 hl (by decide) rfl (fun ls hl => ?_)
        refine lv_iload hF.1 hF.2.1 dX8_type_20 (lv_at hl 0 rfl) ?_
        refine kIfEqN (tgt := 41) hF dX8_type_22 (by decide) (by omega) (fun c_5 => ?_) (fun c_5 => ?_)
        · refine lv_iload hF.1 hF.2.1 dX8_type_41 (lv_at hl 0 rfl) ?_
          refine kIfEqN (tgt := 52) hF dX8_type_43 (by decide) (by omega) (fun c_6 => ?_) (fun c_6 => ?_)
          · refine lv_iload_n hF.1 hF.2.1 dX8_type_52 rfl (lv_at hl 2 rfl) ?_
            refine lv_istore_n (lv' := [(2, .int (nI mr)), (4, .int (nI (by4 w k))), (3, .int (kI k)), (0, .ref x), (1, .int w)]) hF.1 hF.2.1 dX8_type_53 rfl hl (by decide) rfl (fun ls hl => ?_)
            refine lv_iinc (v := (kI (k + 1))) (lv' := [(3, .int (kI (k + 1))), (2, .int (nI mr)), (4, .int (nI (by4 w k))), (0, .ref x), (1, .int w)]) hF.1 hF.2.1 dX8_type_54 hl (k := 2) rfl (kI_s k (by omega)) (by decide) rfl (fun ls hl => ?_)
            refine lv_goto (tgt := 4) hF.1 hF.2.1 dX8_type_57 (by decide) ?_
            exact ih_4 (k + 1) mr (by omega) (by omega) (by first | (have h9 := tyN_1 (w := w) (k := k) (by omega) (by omega); omega) | (have h9 := tyN_0 (w := w) (k := k) (by omega) (by omega); omega)) (by rw [← hB]; exact (tyB_t (by omega) (by unfold okB; simp only [Bool.or_eq_true, Bool.and_eq_true, decide_eq_true_eq]; omega)).symm) H locs ls hP hD hS (lv_sub hl [0, 1, 3, 4] rfl)
          · refine lv_iload_n hF.1 hF.2.1 dX8_type_46 rfl (lv_at hl 2 rfl) ?_
            refine lv_iconst (v := (nI 1)) hF.1 hF.2.1 dX8_type_47 (by decide) ?_
            refine lv_iadd hF.1 hF.2.1 dX8_type_48 ?_
            refine kTop (y := (nI (mr + 1))) (nI_add _ _) ?_
            refine lv_goto (tgt := 53) hF.1 hF.2.1 dX8_type_49 (by decide) ?_
            refine lv_istore_n (lv' := [(2, .int (nI (mr + 1))), (4, .int (nI (by4 w k))), (3, .int (kI k)), (0, .ref x), (1, .int w)]) hF.1 hF.2.1 dX8_type_53 rfl hl (by decide) rfl (fun ls hl => ?_)
            refine lv_iinc (v := (kI (k + 1))) (lv' := [(3, .int (kI (k + 1))), (2, .int (nI (mr + 1))), (4, .int (nI (by4 w k))), (0, .ref x), (1, .int w)]) hF.1 hF.2.1 dX8_type_54 hl (k := 2) rfl (kI_s k (by omega)) (by decide) rfl (fun ls hl => ?_)
            refine lv_goto (tgt := 4) hF.1 hF.2.1 dX8_type_57 (by decide) ?_
            exact ih_4 (k + 1) (mr + 1) (by omega) (by omega) (by first | (have h9 := tyN_1 (w := w) (k := k) (by omega) (by omega); omega) | (have h9 := tyN_0 (w := w) (k := k) (by omega) (by omega); omega)) (by rw [← hB]; exact (tyB_t (by omega) (by unfold okB; simp only [Bool.or_eq_true, Bool.and_eq_true, decide_eq_true_eq]; omega)).symm) H locs ls hP hD hS (lv_sub hl [0, 1, 3, 4] rfl)
        · refine lv_iload hF.1 hF.2.1 dX8_type_25 (lv_at hl 0 rfl) ?_
          refine lv_bipush (v := (nI 33)) hF.1 hF.2.1 dX8_type_27 (by decide) ?_
          refine kLtN (tgt := 39) hF dX8_type_29 (by decide) (by omega) (by omega) (fun c_7 => ?_) (fun c_7 => ?_)
          · refine lv_iconst (v := (nI 0)) hF.1 hF.2.1 dX8_type_39 (by decide) ?_
            refine kRetI (v := (nI 0)) hF hr hlk hK hP hD hS hQ rfl (false, tn, tF) [0, 1] (by decide) rfl (Nat.le_of_ble_eq_true rfl) (Nat.le_of_ble_eq_true rfl) dX8_type_40 ?_
            refine ⟨zI_0 (by decide), ?_⟩
            rw [tyC, if_neg (fun h => absurd h.1 (by rw [← hB, tyB_f (by omega) (by unfold okB; simp only [Bool.or_eq_false_iff, Bool.and_eq_false_iff, decide_eq_false_iff_not]; omega)]; decide))]
          · refine lv_iload hF.1 hF.2.1 dX8_type_32 (lv_at hl 0 rfl) ?_
            refine lv_bipush (v := (nI 126)) hF.1 hF.2.1 dX8_type_34 (by decide) ?_
            refine kLeN (tgt := 41) hF dX8_type_36 (by decide) (by omega) (by omega) (fun c_8 => ?_) (fun c_8 => ?_)
            · refine lv_iload hF.1 hF.2.1 dX8_type_41 (lv_at hl 0 rfl) ?_
              refine kIfEqN (tgt := 52) hF dX8_type_43 (by decide) (by omega) (fun c_9 => ?_) (fun c_9 => ?_)
              · refine lv_iload_n hF.1 hF.2.1 dX8_type_52 rfl (lv_at hl 2 rfl) ?_
                refine lv_istore_n (lv' := [(2, .int (nI mr)), (4, .int (nI (by4 w k))), (3, .int (kI k)), (0, .ref x), (1, .int w)]) hF.1 hF.2.1 dX8_type_53 rfl hl (by decide) rfl (fun ls hl => ?_)
                refine lv_iinc (v := (kI (k + 1))) (lv' := [(3, .int (kI (k + 1))), (2, .int (nI mr)), (4, .int (nI (by4 w k))), (0, .ref x), (1, .int w)]) hF.1 hF.2.1 dX8_type_54 hl (k := 2) rfl (kI_s k (by omega)) (by decide) rfl (fun ls hl => ?_)
                refine lv_goto (tgt := 4) hF.1 hF.2.1 dX8_type_57 (by decide) ?_
                exact ih_4 (k + 1) mr (by omega) (by omega) (by first | (have h9 := tyN_1 (w := w) (k := k) (by omega) (by omega); omega) | (have h9 := tyN_0 (w := w) (k := k) (by omega) (by omega); omega)) (by rw [← hB]; exact (tyB_t (by omega) (by unfold okB; simp only [Bool.or_eq_true, Bool.and_eq_true, decide_eq_true_eq]; omega)).symm) H locs ls hP hD hS (lv_sub hl [0, 1, 3, 4] rfl)
              · refine lv_iload_n hF.1 hF.2.1 dX8_type_46 rfl (lv_at hl 2 rfl) ?_
                refine lv_iconst (v := (nI 1)) hF.1 hF.2.1 dX8_type_47 (by decide) ?_
                refine lv_iadd hF.1 hF.2.1 dX8_type_48 ?_
                refine kTop (y := (nI (mr + 1))) (nI_add _ _) ?_
                refine lv_goto (tgt := 53) hF.1 hF.2.1 dX8_type_49 (by decide) ?_
                refine lv_istore_n (lv' := [(2, .int (nI (mr + 1))), (4, .int (nI (by4 w k))), (3, .int (kI k)), (0, .ref x), (1, .int w)]) hF.1 hF.2.1 dX8_type_53 rfl hl (by decide) rfl (fun ls hl => ?_)
                refine lv_iinc (v := (kI (k + 1))) (lv' := [(3, .int (kI (k + 1))), (2, .int (nI (mr + 1))), (4, .int (nI (by4 w k))), (0, .ref x), (1, .int w)]) hF.1 hF.2.1 dX8_type_54 hl (k := 2) rfl (kI_s k (by omega)) (by decide) rfl (fun ls hl => ?_)
                refine lv_goto (tgt := 4) hF.1 hF.2.1 dX8_type_57 (by decide) ?_
                exact ih_4 (k + 1) (mr + 1) (by omega) (by omega) (by first | (have h9 := tyN_1 (w := w) (k := k) (by omega) (by omega); omega) | (have h9 := tyN_0 (w := w) (k := k) (by omega) (by omega); omega)) (by rw [← hB]; exact (tyB_t (by omega) (by unfold okB; simp only [Bool.or_eq_true, Bool.and_eq_true, decide_eq_true_eq]; omega)).symm) H locs ls hP hD hS (lv_sub hl [0, 1, 3, 4] rfl)
            · refine lv_iconst (v := (nI 0)) hF.1 hF.2.1 dX8_type_39 (by decide) ?_
              refine kRetI (v := (nI 0)) hF hr hlk hK hP hD hS hQ rfl (false, tn, tF) [0, 1] (by decide) rfl (Nat.le_of_ble_eq_true rfl) (Nat.le_of_ble_eq_true rfl) dX8_type_40 ?_
              refine ⟨zI_0 (by decide), ?_⟩
              rw [tyC, if_neg (fun h => absurd h.1 (by rw [← hB, tyB_f (by omega) (by unfold okB; simp only [Bool.or_eq_false_iff, Bool.and_eq_false_iff, decide_eq_false_iff_not]; omega)]; decide))]
  exact loop_4 _ 0 0 (Nat.lt_succ_self _) (by omega) (Nat.zero_add _) (rfl) _ _ _ hP hD hS (lv_sub hl [0, 1, 2, 3] rfl)
set_option maxHeartbeats 4000000 in
set_option maxRecDepth 100000 in
theorem c_X8_takeSlashes (l : Launch) (G : GG) (sz : Nat) (x : Nat) (ak : Nat) (am : Nat) (ao : Nat) (av : Nat) (ap : Nat) (ax : Nat) (ay : Nat) (ad : Nat) (an : Nat) (ab : Nat) (ar : Nat) (ac : Nat) (at_ : Nat) (as_ : Nat) (aq : Nat) (ec : Nat) (vn : Nat) (tn : Nat) (sn : Nat) (qn : Nat) (hp : Nat) (ns : Nat) (us : Int32) (ro : Int32) (pr : Int32) (wa : Int32) (nm : Int64) (la : Prop) (sl : Prop) (qF : Nat → Int32) (hqn : qn ≤ 100) : CtV l G yX8_takeSlashes wsX8_takeSlashes 1 22 0 0 sz [.ref x] [oC x 8 [.ref ak, .ref am, .ref ao, .ref av, .ref ap, .ref ax, .ref ay, .int (nI ec), .ref ad, .ref an, .ref ab, .int (nI vn), .ref ar, .ref ac, .int us, .int ro, .int pr, .ref at_, .int (nI tn), .ref as_, .int (nI sn), .ref aq, .int (nI qn), .int wa, .int (nI hp), .long nm, .int (nI ns), .int (zI la), .int (zI sl)], aI G aq 100 qF] (fun (u : Nat) => match u with | (j) => j = scan (isS qF) qn 0 ∧ j ≤ qn) (fun (u : Nat) => match u with | (j) => [oC x 8 [.ref ak, .ref am, .ref ao, .ref av, .ref ap, .ref ax, .ref ay, .int (nI ec), .ref ad, .ref an, .ref ab, .int (nI vn), .ref ar, .ref ac, .int us, .int ro, .int pr, .ref at_, .int (nI tn), .ref as_, .int (nI sn), .ref aq, .int (nI (qn - j)), .int wa, .int (nI hp), .long nm, .int (nI ns), .int (zI la), .int (zI sl)], aI G aq 100 (drF qF j (qn - j))]) := by
  refine kMet (Qc := fun A => va_Qv _ (Bw G A _) A) (cc := cX8_takeSlashes) (nL := 2) (ret := none) (by decide) rfl (Nat.le_of_ble_eq_true rfl) ?_
  intro p e s m args below meth c A Q hF hr hlk hnme hK hP hD hA hS hQ hsz ls hl
  have hl : lv_has ls 2 [(0, .ref x)] := hl
  refine lv_iconst (v := (nI 0)) hF.1 hF.2.1 dX8_takeSlashes_0 (by decide) ?_
  refine lv_istore_n (lv' := [(1, .int (nI 0)), (0, .ref x)]) hF.1 hF.2.1 dX8_takeSlashes_1 rfl hl (by decide) rfl (fun ls hl => ?_)
  have loop_2 : ∀ (n_2 : Nat) (k : Nat), qn - k < n_2 → (k ≤ qn) → (scan (isS qF) (qn - k) k = scan (isS qF) qn 0) → ∀ (H : Heap) (locs : List Loc) (ls : Array Slot), PG G [oC x 8 [.ref ak, .ref am, .ref ao, .ref av, .ref ap, .ref ax, .ref ay, .int (nI ec), .ref ad, .ref an, .ref ab, .int (nI vn), .ref ar, .ref ac, .int us, .int ro, .int pr, .ref at_, .int (nI tn), .ref as_, .int (nI sn), .ref aq, .int (nI qn), .int wa, .int (nI hp), .long nm, .int (nI ns), .int (zI la), .int (zI sl)], aI G aq 100 qF] H → va_D A [oC x 8 [.ref ak, .ref am, .ref ao, .ref av, .ref ap, .ref ax, .ref ay, .int (nI ec), .ref ad, .ref an, .ref ab, .int (nI vn), .ref ar, .ref ac, .int us, .int ro, .int pr, .ref at_, .int (nI tn), .ref as_, .int (nI sn), .ref aq, .int (nI qn), .int wa, .int (nI hp), .long nm, .int (nI ns), .int (zI la), .int (zI sl)], aI G aq 100 qF] → va_S A s.heap H locs → lv_has ls 2 [(1, .int (nI k)), (0, .ref x)] → W p l e (Rm 1 0 0 22) s m args below meth c H locs 0 0 Q (F0 m 2 ls []) := by
    intro n_2
    induction n_2 with
    | zero => intro k hm; exact absurd hm (Nat.not_lt_zero _)
    | succ n_2 ih_2 =>
      intro k hm_2 hk hR H locs ls hP hD hS hl
      refine lv_iload_n hF.1 hF.2.1 dX8_takeSlashes_2 rfl (lv_at hl 0 rfl) ?_
      refine lv_aload_n hF.1 hF.2.1 dX8_takeSlashes_3 rfl (lv_at hl 1 rfl) ?_
      refine kGet (C := RX8) (T := TX8) (N := 29) (index := 85) hF hK hP (inT inBX8) 0 rfl rfl 22 (by decide) rfl (List.mem_cons_of_mem _ mF_X8_85) rfl dX8_takeSlashes_4 ?_
      refine kGeN (tgt := 27) hF dX8_takeSlashes_7 (by decide) (by omega) (by omega) (fun c_1 => ?_) (fun c_1 => ?_)
      · refine lv_aload_n hF.1 hF.2.1 dX8_takeSlashes_27 rfl (lv_at hl 1 rfl) ?_
        refine lv_iload_n hF.1 hF.2.1 dX8_takeSlashes_28 rfl (lv_at hl 0 rfl) ?_
        refine kCallV (wr := []) (va_runV (As := [.int (nI k)]) (rest := []) hF (c_X8_dropRest l G _ x ak am ao av ap ax ay ad an ab ar ac at_ as_ aq ec vn tn sn qn hp ns us ro pr wa nm la sl qF k (by first | assumption | omega) (by first | assumption | omega)) (cwVB 1 hF rfl mL_X8_88 mI_X8_dropRest mS_X8_dropRest mN_X8 mC_X8_dropRest rfl hd_X8_dropRest rfl rfl ⟨Nat.le_of_ble_eq_true rfl, Nat.le_of_ble_eq_true rfl⟩) (kPre hK hP hD [0, 1] (by decide) rfl (q0 := 0) (ci := 8) rfl rfl rfl) rfl rfl hl.1 rfl (lv_room (Nat.le_of_ble_eq_true rfl)) dX8_takeSlashes_29 ⟨Nat.le_of_ble_eq_true rfl, Nat.le_of_ble_eq_true rfl⟩) hP hD hS hA [0, 1] [] rfl rfl (by decide) (by decide) (fun u H locs hw_2 hP hD hS => ?_)
        have hP : PG G [oC x 8 [.ref ak, .ref am, .ref ao, .ref av, .ref ap, .ref ax, .ref ay, .int (nI ec), .ref ad, .ref an, .ref ab, .int (nI vn), .ref ar, .ref ac, .int us, .int ro, .int pr, .ref at_, .int (nI tn), .ref as_, .int (nI sn), .ref aq, .int (nI (qn - k)), .int wa, .int (nI hp), .long nm, .int (nI ns), .int (zI la), .int (zI sl)], aI G aq 100 (drF qF k (qn - k))] H := hP
        have hD : va_D A [oC x 8 [.ref ak, .ref am, .ref ao, .ref av, .ref ap, .ref ax, .ref ay, .int (nI ec), .ref ad, .ref an, .ref ab, .int (nI vn), .ref ar, .ref ac, .int us, .int ro, .int pr, .ref at_, .int (nI tn), .ref as_, .int (nI sn), .ref aq, .int (nI (qn - k)), .int wa, .int (nI hp), .long nm, .int (nI ns), .int (zI la), .int (zI sl)], aI G aq 100 (drF qF k (qn - k))] := hD
        refine kRetV hF hr hlk hK hP hD hS hQ (k) [0, 1] (by decide) rfl (Nat.le_of_ble_eq_true rfl) (Nat.le_of_ble_eq_true rfl) dX8_takeSlashes_32 ?_
        refine ⟨?_, by omega⟩
        rw [← hR]; exact (scan_x (fun h9 => by first | (exfalso; omega) | exact decide_eq_false (by assumption))).symm
      · refine lv_aload_n hF.1 hF.2.1 dX8_takeSlashes_10 rfl (lv_at hl 1 rfl) ?_
        refine kGet (C := RX8) (T := TX8) (N := 29) (index := 57) hF hK hP (inT inBX8) 0 rfl rfl 21 (by decide) rfl (List.mem_cons_of_mem _ mF_X8_57) rfl dX8_takeSlashes_11 ?_
        refine lv_iload_n hF.1 hF.2.1 dX8_takeSlashes_14 rfl (lv_at hl 0 rfl) ?_
        refine kIaldN hF hK hP 1 rfl (by omega) (by decide) dX8_takeSlashes_15 ?_
        refine lv_bipush (v := (nI 47)) hF.1 hF.2.1 dX8_takeSlashes_16 (by decide) ?_
        refine lv_icmp_ne (tgt := 27) hF.1 hF.2.1 dX8_takeSlashes_18 (by decide) (fun c_3 => ?_) (fun c_3 => ?_)
        · refine lv_aload_n hF.1 hF.2.1 dX8_takeSlashes_27 rfl (lv_at hl 1 rfl) ?_
          refine lv_iload_n hF.1 hF.2.1 dX8_takeSlashes_28 rfl (lv_at hl 0 rfl) ?_
          refine kCallV (wr := []) (va_runV (As := [.int (nI k)]) (rest := []) hF (c_X8_dropRest l G _ x ak am ao av ap ax ay ad an ab ar ac at_ as_ aq ec vn tn sn qn hp ns us ro pr wa nm la sl qF k (by first | assumption | omega) (by first | assumption | omega)) (cwVB 1 hF rfl mL_X8_88 mI_X8_dropRest mS_X8_dropRest mN_X8 mC_X8_dropRest rfl hd_X8_dropRest rfl rfl ⟨Nat.le_of_ble_eq_true rfl, Nat.le_of_ble_eq_true rfl⟩) (kPre hK hP hD [0, 1] (by decide) rfl (q0 := 0) (ci := 8) rfl rfl rfl) rfl rfl hl.1 rfl (lv_room (Nat.le_of_ble_eq_true rfl)) dX8_takeSlashes_29 ⟨Nat.le_of_ble_eq_true rfl, Nat.le_of_ble_eq_true rfl⟩) hP hD hS hA [0, 1] [] rfl rfl (by decide) (by decide) (fun u H locs hw_4 hP hD hS => ?_)
          have hP : PG G [oC x 8 [.ref ak, .ref am, .ref ao, .ref av, .ref ap, .ref ax, .ref ay, .int (nI ec), .ref ad, .ref an, .ref ab, .int (nI vn), .ref ar, .ref ac, .int us, .int ro, .int pr, .ref at_, .int (nI tn), .ref as_, .int (nI sn), .ref aq, .int (nI (qn - k)), .int wa, .int (nI hp), .long nm, .int (nI ns), .int (zI la), .int (zI sl)], aI G aq 100 (drF qF k (qn - k))] H := hP
          have hD : va_D A [oC x 8 [.ref ak, .ref am, .ref ao, .ref av, .ref ap, .ref ax, .ref ay, .int (nI ec), .ref ad, .ref an, .ref ab, .int (nI vn), .ref ar, .ref ac, .int us, .int ro, .int pr, .ref at_, .int (nI tn), .ref as_, .int (nI sn), .ref aq, .int (nI (qn - k)), .int wa, .int (nI hp), .long nm, .int (nI ns), .int (zI la), .int (zI sl)], aI G aq 100 (drF qF k (qn - k))] := hD
          refine kRetV hF hr hlk hK hP hD hS hQ (k) [0, 1] (by decide) rfl (Nat.le_of_ble_eq_true rfl) (Nat.le_of_ble_eq_true rfl) dX8_takeSlashes_32 ?_
          refine ⟨?_, by omega⟩
          rw [← hR]; exact (scan_x (fun h9 => by first | (exfalso; omega) | exact decide_eq_false (by assumption))).symm
        · refine lv_iinc (v := (nI (k + 1))) (lv' := [(1, .int (nI (k + 1))), (0, .ref x)]) hF.1 hF.2.1 dX8_takeSlashes_21 hl (k := 0) rfl (nI_inc1 _) (by decide) rfl (fun ls hl => ?_)
          refine lv_goto (tgt := 2) hF.1 hF.2.1 dX8_takeSlashes_24 (by decide) ?_
          exact ih_2 (k + 1) (by omega) (by omega) (by rw [← hR]; exact (scan_t (by omega) (decide_eq_true (by assumption))).symm) H locs ls hP hD hS (lv_sub hl [0, 1] rfl)
  exact loop_2 _ 0 (Nat.lt_succ_self _) (by omega) (rfl) _ _ _ hP hD hS (lv_sub hl [0, 1] rfl)
set_option maxHeartbeats 4000000 in
set_option maxRecDepth 100000 in
theorem c_X8_takeName (l : Launch) (G : GG) (sz : Nat) (x : Nat) (ak : Nat) (am : Nat) (ao : Nat) (av : Nat) (ap : Nat) (ax : Nat) (ay : Nat) (ad : Nat) (an : Nat) (ab : Nat) (ar : Nat) (ac : Nat) (at_ : Nat) (as_ : Nat) (aq : Nat) (ec : Nat) (vn : Nat) (tn : Nat) (sn : Nat) (qn : Nat) (hp : Nat) (ns : Nat) (us : Int32) (ro : Int32) (pr : Int32) (wa : Int32) (nm : Int64) (la : Prop) (sl : Prop) (qF : Nat → Int32) (hqn : qn ≤ 100) : CtV l G yX8_takeName wsX8_takeName 1 22 0 0 sz [.ref x] [oC x 8 [.ref ak, .ref am, .ref ao, .ref av, .ref ap, .ref ax, .ref ay, .int (nI ec), .ref ad, .ref an, .ref ab, .int (nI vn), .ref ar, .ref ac, .int us, .int ro, .int pr, .ref at_, .int (nI tn), .ref as_, .int (nI sn), .ref aq, .int (nI qn), .int wa, .int (nI hp), .long nm, .int (nI ns), .int (zI la), .int (zI sl)], aI G aq 100 qF] (fun (u : Nat × Int64) => match u with | (j, z) => j = scan (noS qF) qn 0 ∧ j ≤ qn ∧ z = nmR qF j 0 (lN 0)) (fun (u : Nat × Int64) => match u with | (j, z) => [oC x 8 [.ref ak, .ref am, .ref ao, .ref av, .ref ap, .ref ax, .ref ay, .int (nI ec), .ref ad, .ref an, .ref ab, .int (nI vn), .ref ar, .ref ac, .int us, .int ro, .int pr, .ref at_, .int (nI tn), .ref as_, .int (nI sn), .ref aq, .int (nI (qn - j)), .int wa, .int (nI hp), .long z, .int (nI j), .int (zI (∀ i, i < qn - j → drF qF j (qn - j) i = nI 47)), .int (zI (0 < qn - j))], aI G aq 100 (drF qF j (qn - j))]) := by
  refine kMet (Qc := fun A => va_Qv _ (Bw G A _) A) (cc := cX8_takeName) (nL := 3) (ret := none) (by decide) rfl (Nat.le_of_ble_eq_true rfl) ?_
  intro p e s m args below meth c A Q hF hr hlk hnme hK hP hD hA hS hQ hsz ls hl
  have hl : lv_has ls 3 [(0, .ref x)] := hl
  refine lv_iconst (v := (nI 0)) hF.1 hF.2.1 dX8_takeName_0 (by decide) ?_
  refine lv_istore_n (lv' := [(1, .int (nI 0)), (0, .ref x)]) hF.1 hF.2.1 dX8_takeName_1 rfl hl (by decide) rfl (fun ls hl => ?_)
  refine lv_aload_n hF.1 hF.2.1 dX8_takeName_2 rfl (lv_at hl 1 rfl) ?_
  refine lv_lconst (v := lN 0) hF.1 hF.2.1 dX8_takeName_3 (by decide) ?_
  refine kPut (C := RX8) (T := TX8) (N := 29) (index := 92) (v := .long (lN 0)) hF hK hP hD hS (inT inBX8) tyX8_ok nmX8 0 rfl rfl 25 (by decide) rfl (List.mem_cons_of_mem _ mF_X8_92) rfl rfl rfl (Nat.le_of_ble_eq_true rfl) dX8_takeName_4 (fun H locs hP hD hS => ?_)
  have hP : PG G [oC x 8 [.ref ak, .ref am, .ref ao, .ref av, .ref ap, .ref ax, .ref ay, .int (nI ec), .ref ad, .ref an, .ref ab, .int (nI vn), .ref ar, .ref ac, .int us, .int ro, .int pr, .ref at_, .int (nI tn), .ref as_, .int (nI sn), .ref aq, .int (nI qn), .int wa, .int (nI hp), .long (lN 0), .int (nI ns), .int (zI la), .int (zI sl)], aI G aq 100 qF] H := hP
  have hD : va_D A [oC x 8 [.ref ak, .ref am, .ref ao, .ref av, .ref ap, .ref ax, .ref ay, .int (nI ec), .ref ad, .ref an, .ref ab, .int (nI vn), .ref ar, .ref ac, .int us, .int ro, .int pr, .ref at_, .int (nI tn), .ref as_, .int (nI sn), .ref aq, .int (nI qn), .int wa, .int (nI hp), .long (lN 0), .int (nI ns), .int (zI la), .int (zI sl)], aI G aq 100 qF] := hD
  have loop_7 : ∀ (n_7 : Nat) (k : Nat) (z : Int64), qn - k < n_7 → (k ≤ qn) → (scan (noS qF) (qn - k) k = scan (noS qF) qn 0) → (nmR qF (scan (noS qF) qn 0 - k) k z = nmR qF (scan (noS qF) qn 0) 0 (lN 0)) → ∀ (H : Heap) (locs : List Loc) (ls : Array Slot), PG G [oC x 8 [.ref ak, .ref am, .ref ao, .ref av, .ref ap, .ref ax, .ref ay, .int (nI ec), .ref ad, .ref an, .ref ab, .int (nI vn), .ref ar, .ref ac, .int us, .int ro, .int pr, .ref at_, .int (nI tn), .ref as_, .int (nI sn), .ref aq, .int (nI qn), .int wa, .int (nI hp), .long z, .int (nI ns), .int (zI la), .int (zI sl)], aI G aq 100 qF] H → va_D A [oC x 8 [.ref ak, .ref am, .ref ao, .ref av, .ref ap, .ref ax, .ref ay, .int (nI ec), .ref ad, .ref an, .ref ab, .int (nI vn), .ref ar, .ref ac, .int us, .int ro, .int pr, .ref at_, .int (nI tn), .ref as_, .int (nI sn), .ref aq, .int (nI qn), .int wa, .int (nI hp), .long z, .int (nI ns), .int (zI la), .int (zI sl)], aI G aq 100 qF] → va_S A s.heap H locs → lv_has ls 3 [(1, .int (nI k)), (0, .ref x)] → W p l e (Rm 1 0 0 22) s m args below meth c H locs 0 0 Q (F0 m 7 ls []) := by
    intro n_7
    induction n_7 with
    | zero => intro k z hm; exact absurd hm (Nat.not_lt_zero _)
    | succ n_7 ih_7 =>
      intro k z hm_7 hk hR hN H locs ls hP hD hS hl
      refine lv_iload_n hF.1 hF.2.1 dX8_takeName_7 rfl (lv_at hl 0 rfl) ?_
      refine lv_aload_n hF.1 hF.2.1 dX8_takeName_8 rfl (lv_at hl 1 rfl) ?_
      refine kGet (C := RX8) (T := TX8) (N := 29) (index := 85) hF hK hP (inT inBX8) 0 rfl rfl 22 (by decide) rfl (List.mem_cons_of_mem _ mF_X8_85) rfl dX8_takeName_9 ?_
      refine kGeN (tgt := 65) hF dX8_takeName_12 (by decide) (by omega) (by omega) (fun c_1 => ?_) (fun c_1 => ?_)
      · have hJ : scan (noS qF) qn 0 = k := by rw [← hR]; exact scan_x (fun h9 => by first | (exfalso; omega) | (simp only [Bool.not_eq_false', decide_eq_true_eq]; assumption))
        have hZ : z = nmR qF k 0 (lN 0) := by have h := hN; rw [hJ, nmR_e (Nat.le_refl k)] at h; exact h
        refine lv_aload_n hF.1 hF.2.1 dX8_takeName_65 rfl (lv_at hl 1 rfl) ?_
        refine lv_iload_n hF.1 hF.2.1 dX8_takeName_66 rfl (lv_at hl 0 rfl) ?_
        refine kPut (C := RX8) (T := TX8) (N := 29) (index := 98) (v := .int (nI k)) hF hK hP hD hS (inT inBX8) tyX8_ok nmX8 0 rfl rfl 26 (by decide) rfl (List.mem_cons_of_mem _ mF_X8_98) rfl rfl rfl (Nat.le_of_ble_eq_true rfl) dX8_takeName_67 (fun H locs hP hD hS => ?_)
        have hP : PG G [oC x 8 [.ref ak, .ref am, .ref ao, .ref av, .ref ap, .ref ax, .ref ay, .int (nI ec), .ref ad, .ref an, .ref ab, .int (nI vn), .ref ar, .ref ac, .int us, .int ro, .int pr, .ref at_, .int (nI tn), .ref as_, .int (nI sn), .ref aq, .int (nI qn), .int wa, .int (nI hp), .long z, .int (nI k), .int (zI la), .int (zI sl)], aI G aq 100 qF] H := hP
        have hD : va_D A [oC x 8 [.ref ak, .ref am, .ref ao, .ref av, .ref ap, .ref ax, .ref ay, .int (nI ec), .ref ad, .ref an, .ref ab, .int (nI vn), .ref ar, .ref ac, .int us, .int ro, .int pr, .ref at_, .int (nI tn), .ref as_, .int (nI sn), .ref aq, .int (nI qn), .int wa, .int (nI hp), .long z, .int (nI k), .int (zI la), .int (zI sl)], aI G aq 100 qF] := hD
        refine lv_aload_n hF.1 hF.2.1 dX8_takeName_70 rfl (lv_at hl 1 rfl) ?_
        refine lv_iload_n hF.1 hF.2.1 dX8_takeName_71 rfl (lv_at hl 0 rfl) ?_
        refine kCallV (wr := []) (va_runV (As := [.int (nI k)]) (rest := []) hF (c_X8_dropRest l G _ x ak am ao av ap ax ay ad an ab ar ac at_ as_ aq ec vn tn sn qn hp k us ro pr wa z la sl qF k (by first | assumption | omega) (by first | assumption | omega)) (cwVB 1 hF rfl mL_X8_88 mI_X8_dropRest mS_X8_dropRest mN_X8 mC_X8_dropRest rfl hd_X8_dropRest rfl rfl ⟨Nat.le_of_ble_eq_true rfl, Nat.le_of_ble_eq_true rfl⟩) (kPre hK hP hD [0, 1] (by decide) rfl (q0 := 0) (ci := 8) rfl rfl rfl) rfl rfl hl.1 rfl (lv_room (Nat.le_of_ble_eq_true rfl)) dX8_takeName_72 ⟨Nat.le_of_ble_eq_true rfl, Nat.le_of_ble_eq_true rfl⟩) hP hD hS hA [0, 1] [] rfl rfl (by decide) (by decide) (fun u H locs hw_2 hP hD hS => ?_)
        have hP : PG G [oC x 8 [.ref ak, .ref am, .ref ao, .ref av, .ref ap, .ref ax, .ref ay, .int (nI ec), .ref ad, .ref an, .ref ab, .int (nI vn), .ref ar, .ref ac, .int us, .int ro, .int pr, .ref at_, .int (nI tn), .ref as_, .int (nI sn), .ref aq, .int (nI (qn - k)), .int wa, .int (nI hp), .long z, .int (nI k), .int (zI la), .int (zI sl)], aI G aq 100 (drF qF k (qn - k))] H := hP
        have hD : va_D A [oC x 8 [.ref ak, .ref am, .ref ao, .ref av, .ref ap, .ref ax, .ref ay, .int (nI ec), .ref ad, .ref an, .ref ab, .int (nI vn), .ref ar, .ref ac, .int us, .int ro, .int pr, .ref at_, .int (nI tn), .ref as_, .int (nI sn), .ref aq, .int (nI (qn - k)), .int wa, .int (nI hp), .long z, .int (nI k), .int (zI la), .int (zI sl)], aI G aq 100 (drF qF k (qn - k))] := hD
        refine lv_aload_n hF.1 hF.2.1 dX8_takeName_75 rfl (lv_at hl 1 rfl) ?_
        refine lv_aload_n hF.1 hF.2.1 dX8_takeName_76 rfl (lv_at hl 1 rfl) ?_
        refine kGet (C := RX8) (T := TX8) (N := 29) (index := 85) hF hK hP (inT inBX8) 0 rfl rfl 22 (by decide) rfl (List.mem_cons_of_mem _ mF_X8_85) rfl dX8_takeName_77 ?_
        refine kIfLeN (tgt := 87) hF dX8_takeName_80 (by decide) (by omega) (fun c_3 => ?_) (fun c_3 => ?_)
        · refine lv_iconst (v := (nI 0)) hF.1 hF.2.1 dX8_takeName_87 (by decide) ?_
          refine kTop (y := zI (0 < qn - k)) (first_z (by first | exact Or.inl ⟨rfl, by first | omega | exact ⟨by assumption, by assumption⟩⟩ | exact Or.inr ⟨rfl, by first | omega | exact fun h => absurd h.1 (by assumption) | exact fun h => absurd h.2 (by assumption)⟩)) ?_
          refine kPut (C := RX8) (T := TX8) (N := 29) (index := 101) (v := .int (zI (0 < qn - k))) hF hK hP hD hS (inT inBX8) tyX8_ok nmX8 0 rfl rfl 28 (by decide) rfl (List.mem_cons_of_mem _ mF_X8_101) rfl (zI_nar _) (zI_fit _) (Nat.le_of_ble_eq_true rfl) dX8_takeName_88 (fun H locs hP hD hS => ?_)
          have hP : PG G [oC x 8 [.ref ak, .ref am, .ref ao, .ref av, .ref ap, .ref ax, .ref ay, .int (nI ec), .ref ad, .ref an, .ref ab, .int (nI vn), .ref ar, .ref ac, .int us, .int ro, .int pr, .ref at_, .int (nI tn), .ref as_, .int (nI sn), .ref aq, .int (nI (qn - k)), .int wa, .int (nI hp), .long z, .int (nI k), .int (zI la), .int (zI (0 < qn - k))], aI G aq 100 (drF qF k (qn - k))] H := hP
          have hD : va_D A [oC x 8 [.ref ak, .ref am, .ref ao, .ref av, .ref ap, .ref ax, .ref ay, .int (nI ec), .ref ad, .ref an, .ref ab, .int (nI vn), .ref ar, .ref ac, .int us, .int ro, .int pr, .ref at_, .int (nI tn), .ref as_, .int (nI sn), .ref aq, .int (nI (qn - k)), .int wa, .int (nI hp), .long z, .int (nI k), .int (zI la), .int (zI (0 < qn - k))], aI G aq 100 (drF qF k (qn - k))] := hD
          refine lv_aload_n hF.1 hF.2.1 dX8_takeName_91 rfl (lv_at hl 1 rfl) ?_
          refine lv_iconst (v := (nI 1)) hF.1 hF.2.1 dX8_takeName_92 (by decide) ?_
          refine kTop (y := zI True) (zI_1 trivial) ?_
          refine kPut (C := RX8) (T := TX8) (N := 29) (index := 105) (v := .int (zI True)) hF hK hP hD hS (inT inBX8) tyX8_ok nmX8 0 rfl rfl 27 (by decide) rfl (List.mem_cons_of_mem _ mF_X8_105) rfl (zI_nar _) (zI_fit _) (Nat.le_of_ble_eq_true rfl) dX8_takeName_93 (fun H locs hP hD hS => ?_)
          have hP : PG G [oC x 8 [.ref ak, .ref am, .ref ao, .ref av, .ref ap, .ref ax, .ref ay, .int (nI ec), .ref ad, .ref an, .ref ab, .int (nI vn), .ref ar, .ref ac, .int us, .int ro, .int pr, .ref at_, .int (nI tn), .ref as_, .int (nI sn), .ref aq, .int (nI (qn - k)), .int wa, .int (nI hp), .long z, .int (nI k), .int (zI True), .int (zI (0 < qn - k))], aI G aq 100 (drF qF k (qn - k))] H := hP
          have hD : va_D A [oC x 8 [.ref ak, .ref am, .ref ao, .ref av, .ref ap, .ref ax, .ref ay, .int (nI ec), .ref ad, .ref an, .ref ab, .int (nI vn), .ref ar, .ref ac, .int us, .int ro, .int pr, .ref at_, .int (nI tn), .ref as_, .int (nI sn), .ref aq, .int (nI (qn - k)), .int wa, .int (nI hp), .long z, .int (nI k), .int (zI True), .int (zI (0 < qn - k))], aI G aq 100 (drF qF k (qn - k))] := hD
          refine lv_iconst (v := (nI 0)) hF.1 hF.2.1 dX8_takeName_96 (by decide) ?_
          refine lv_istore_n (lv' := [(2, .int (nI 0)), (1, .int (nI k)), (0, .ref x)]) hF.1 hF.2.1 dX8_takeName_97 rfl hl (by decide) rfl (fun ls hl => ?_)
          have loop_98 : ∀ (n_98 : Nat) (k2 : Nat) (P : Prop), qn - k - k2 < n_98 → (k2 ≤ qn - k) → (P ↔ (True ∧ ∀ i, i < k2 → drF qF k (qn - k) i = nI 47)) → ∀ (H : Heap) (locs : List Loc) (ls : Array Slot), PG G [oC x 8 [.ref ak, .ref am, .ref ao, .ref av, .ref ap, .ref ax, .ref ay, .int (nI ec), .ref ad, .ref an, .ref ab, .int (nI vn), .ref ar, .ref ac, .int us, .int ro, .int pr, .ref at_, .int (nI tn), .ref as_, .int (nI sn), .ref aq, .int (nI (qn - k)), .int wa, .int (nI hp), .long z, .int (nI k), .int (zI P), .int (zI (0 < qn - k))], aI G aq 100 (drF qF k (qn - k))] H → va_D A [oC x 8 [.ref ak, .ref am, .ref ao, .ref av, .ref ap, .ref ax, .ref ay, .int (nI ec), .ref ad, .ref an, .ref ab, .int (nI vn), .ref ar, .ref ac, .int us, .int ro, .int pr, .ref at_, .int (nI tn), .ref as_, .int (nI sn), .ref aq, .int (nI (qn - k)), .int wa, .int (nI hp), .long z, .int (nI k), .int (zI P), .int (zI (0 < qn - k))], aI G aq 100 (drF qF k (qn - k))] → va_S A s.heap H locs → lv_has ls 3 [(2, .int (nI k2)), (1, .int (nI k)), (0, .ref x)] → W p l e (Rm 1 0 0 22) s m args below meth c H locs 0 0 Q (F0 m 98 ls []) := by
            intro n_98
            induction n_98 with
            | zero => intro k2 P hm; exact absurd hm (Nat.not_lt_zero _)
            | succ n_98 ih_98 =>
              intro k2 P hm_98 hk2 hPq H locs ls hP hD hS hl
              refine lv_iload_n hF.1 hF.2.1 dX8_takeName_98 rfl (lv_at hl 0 rfl) ?_
              refine lv_aload_n hF.1 hF.2.1 dX8_takeName_99 rfl (lv_at hl 2 rfl) ?_
              refine kGet (C := RX8) (T := TX8) (N := 29) (index := 85) hF hK hP (inT inBX8) 0 rfl rfl 22 (by decide) rfl (List.mem_cons_of_mem _ mF_X8_85) rfl dX8_takeName_100 ?_
              refine kGeN (tgt := 139) hF dX8_takeName_103 (by decide) (by omega) (by omega) (fun c_4 => ?_) (fun c_4 => ?_)
              · have hPe : P = (∀ i, i < qn - k → drF qF k (qn - k) i = nI 47) := propext (hPq.trans ⟨fun h i hi => h.2 i (by omega), fun h => ⟨trivial, fun i hi => h i (by omega)⟩⟩)
                rw [hPe] at hP hD
                refine kRetV hF hr hlk hK hP hD hS hQ (k, z) [0, 1] (by decide) rfl (Nat.le_of_ble_eq_true rfl) (Nat.le_of_ble_eq_true rfl) dX8_takeName_139 ?_
                exact ⟨hJ.symm, by omega, hZ⟩
              · refine lv_aload_n hF.1 hF.2.1 dX8_takeName_106 rfl (lv_at hl 2 rfl) ?_
                refine lv_aload_n hF.1 hF.2.1 dX8_takeName_107 rfl (lv_at hl 2 rfl) ?_
                refine kGet (C := RX8) (T := TX8) (N := 29) (index := 105) hF hK hP (inT inBX8) 0 rfl rfl 27 (by decide) rfl (List.mem_cons_of_mem _ mF_X8_105) rfl dX8_takeName_108 ?_
                refine kIfEqZ (tgt := 129) hF dX8_takeName_111 (by decide) (fun c_5 => ?_) (fun c_5 => ?_)
                · refine lv_iconst (v := (nI 0)) hF.1 hF.2.1 dX8_takeName_129 (by decide) ?_
                  refine kTop (y := zI (P ∧ (drF qF k (qn - k)) k2 = nI 47)) (first_z (by first | exact Or.inl ⟨rfl, by first | omega | exact ⟨by assumption, by assumption⟩⟩ | exact Or.inr ⟨rfl, by first | omega | exact fun h => absurd h.1 (by assumption) | exact fun h => absurd h.2 (by assumption)⟩)) ?_
                  refine kPut (C := RX8) (T := TX8) (N := 29) (index := 105) (v := .int (zI (P ∧ (drF qF k (qn - k)) k2 = nI 47))) hF hK hP hD hS (inT inBX8) tyX8_ok nmX8 0 rfl rfl 27 (by decide) rfl (List.mem_cons_of_mem _ mF_X8_105) rfl (zI_nar _) (zI_fit _) (Nat.le_of_ble_eq_true rfl) dX8_takeName_130 (fun H locs hP hD hS => ?_)
                  have hP : PG G [oC x 8 [.ref ak, .ref am, .ref ao, .ref av, .ref ap, .ref ax, .ref ay, .int (nI ec), .ref ad, .ref an, .ref ab, .int (nI vn), .ref ar, .ref ac, .int us, .int ro, .int pr, .ref at_, .int (nI tn), .ref as_, .int (nI sn), .ref aq, .int (nI (qn - k)), .int wa, .int (nI hp), .long z, .int (nI k), .int (zI (P ∧ (drF qF k (qn - k)) k2 = nI 47)), .int (zI (0 < qn - k))], aI G aq 100 (drF qF k (qn - k))] H := hP
                  have hD : va_D A [oC x 8 [.ref ak, .ref am, .ref ao, .ref av, .ref ap, .ref ax, .ref ay, .int (nI ec), .ref ad, .ref an, .ref ab, .int (nI vn), .ref ar, .ref ac, .int us, .int ro, .int pr, .ref at_, .int (nI tn), .ref as_, .int (nI sn), .ref aq, .int (nI (qn - k)), .int wa, .int (nI hp), .long z, .int (nI k), .int (zI (P ∧ (drF qF k (qn - k)) k2 = nI 47)), .int (zI (0 < qn - k))], aI G aq 100 (drF qF k (qn - k))] := hD
                  refine lv_iinc (v := (nI (k2 + 1))) (lv' := [(2, .int (nI (k2 + 1))), (1, .int (nI k)), (0, .ref x)]) hF.1 hF.2.1 dX8_takeName_133 hl (k := 0) rfl (nI_inc1 _) (by decide) rfl (fun ls hl => ?_)
                  refine lv_goto (tgt := 98) hF.1 hF.2.1 dX8_takeName_136 (by decide) ?_
                  exact ih_98 (k2 + 1) (P ∧ (drF qF k (qn - k)) k2 = nI 47) (by omega) (by omega) (by rw [hPq]; exact all47) H locs ls hP hD hS (lv_sub hl [0, 1, 2] rfl)
                · refine lv_aload_n hF.1 hF.2.1 dX8_takeName_114 rfl (lv_at hl 2 rfl) ?_
                  refine kGet (C := RX8) (T := TX8) (N := 29) (index := 57) hF hK hP (inT inBX8) 0 rfl rfl 21 (by decide) rfl (List.mem_cons_of_mem _ mF_X8_57) rfl dX8_takeName_115 ?_
                  refine lv_iload_n hF.1 hF.2.1 dX8_takeName_118 rfl (lv_at hl 0 rfl) ?_
                  refine kIaldN hF hK hP 1 rfl (by omega) (by decide) dX8_takeName_119 ?_
                  refine lv_bipush (v := (nI 47)) hF.1 hF.2.1 dX8_takeName_120 (by decide) ?_
                  refine lv_icmp_ne (tgt := 129) hF.1 hF.2.1 dX8_takeName_122 (by decide) (fun c_6 => ?_) (fun c_6 => ?_)
                  · refine lv_iconst (v := (nI 0)) hF.1 hF.2.1 dX8_takeName_129 (by decide) ?_
                    refine kTop (y := zI (P ∧ (drF qF k (qn - k)) k2 = nI 47)) (first_z (by first | exact Or.inl ⟨rfl, by first | omega | exact ⟨by assumption, by assumption⟩⟩ | exact Or.inr ⟨rfl, by first | omega | exact fun h => absurd h.1 (by assumption) | exact fun h => absurd h.2 (by assumption)⟩)) ?_
                    refine kPut (C := RX8) (T := TX8) (N := 29) (index := 105) (v := .int (zI (P ∧ (drF qF k (qn - k)) k2 = nI 47))) hF hK hP hD hS (inT inBX8) tyX8_ok nmX8 0 rfl rfl 27 (by decide) rfl (List.mem_cons_of_mem _ mF_X8_105) rfl (zI_nar _) (zI_fit _) (Nat.le_of_ble_eq_true rfl) dX8_takeName_130 (fun H locs hP hD hS => ?_)
                    have hP : PG G [oC x 8 [.ref ak, .ref am, .ref ao, .ref av, .ref ap, .ref ax, .ref ay, .int (nI ec), .ref ad, .ref an, .ref ab, .int (nI vn), .ref ar, .ref ac, .int us, .int ro, .int pr, .ref at_, .int (nI tn), .ref as_, .int (nI sn), .ref aq, .int (nI (qn - k)), .int wa, .int (nI hp), .long z, .int (nI k), .int (zI (P ∧ (drF qF k (qn - k)) k2 = nI 47)), .int (zI (0 < qn - k))], aI G aq 100 (drF qF k (qn - k))] H := hP
                    have hD : va_D A [oC x 8 [.ref ak, .ref am, .ref ao, .ref av, .ref ap, .ref ax, .ref ay, .int (nI ec), .ref ad, .ref an, .ref ab, .int (nI vn), .ref ar, .ref ac, .int us, .int ro, .int pr, .ref at_, .int (nI tn), .ref as_, .int (nI sn), .ref aq, .int (nI (qn - k)), .int wa, .int (nI hp), .long z, .int (nI k), .int (zI (P ∧ (drF qF k (qn - k)) k2 = nI 47)), .int (zI (0 < qn - k))], aI G aq 100 (drF qF k (qn - k))] := hD
                    refine lv_iinc (v := (nI (k2 + 1))) (lv' := [(2, .int (nI (k2 + 1))), (1, .int (nI k)), (0, .ref x)]) hF.1 hF.2.1 dX8_takeName_133 hl (k := 0) rfl (nI_inc1 _) (by decide) rfl (fun ls hl => ?_)
                    refine lv_goto (tgt := 98) hF.1 hF.2.1 dX8_takeName_136 (by decide) ?_
                    exact ih_98 (k2 + 1) (P ∧ (drF qF k (qn - k)) k2 = nI 47) (by omega) (by omega) (by rw [hPq]; exact all47) H locs ls hP hD hS (lv_sub hl [0, 1, 2] rfl)
                  · refine lv_iconst (v := (nI 1)) hF.1 hF.2.1 dX8_takeName_125 (by decide) ?_
                    refine lv_goto (tgt := 130) hF.1 hF.2.1 dX8_takeName_126 (by decide) ?_
                    refine kTop (y := zI (P ∧ (drF qF k (qn - k)) k2 = nI 47)) (first_z (by first | exact Or.inl ⟨rfl, by first | omega | exact ⟨by assumption, by assumption⟩⟩ | exact Or.inr ⟨rfl, by first | omega | exact fun h => absurd h.1 (by assumption) | exact fun h => absurd h.2 (by assumption)⟩)) ?_
                    refine kPut (C := RX8) (T := TX8) (N := 29) (index := 105) (v := .int (zI (P ∧ (drF qF k (qn - k)) k2 = nI 47))) hF hK hP hD hS (inT inBX8) tyX8_ok nmX8 0 rfl rfl 27 (by decide) rfl (List.mem_cons_of_mem _ mF_X8_105) rfl (zI_nar _) (zI_fit _) (Nat.le_of_ble_eq_true rfl) dX8_takeName_130 (fun H locs hP hD hS => ?_)
                    have hP : PG G [oC x 8 [.ref ak, .ref am, .ref ao, .ref av, .ref ap, .ref ax, .ref ay, .int (nI ec), .ref ad, .ref an, .ref ab, .int (nI vn), .ref ar, .ref ac, .int us, .int ro, .int pr, .ref at_, .int (nI tn), .ref as_, .int (nI sn), .ref aq, .int (nI (qn - k)), .int wa, .int (nI hp), .long z, .int (nI k), .int (zI (P ∧ (drF qF k (qn - k)) k2 = nI 47)), .int (zI (0 < qn - k))], aI G aq 100 (drF qF k (qn - k))] H := hP
                    have hD : va_D A [oC x 8 [.ref ak, .ref am, .ref ao, .ref av, .ref ap, .ref ax, .ref ay, .int (nI ec), .ref ad, .ref an, .ref ab, .int (nI vn), .ref ar, .ref ac, .int us, .int ro, .int pr, .ref at_, .int (nI tn), .ref as_, .int (nI sn), .ref aq, .int (nI (qn - k)), .int wa, .int (nI hp), .long z, .int (nI k), .int (zI (P ∧ (drF qF k (qn - k)) k2 = nI 47)), .int (zI (0 < qn - k))], aI G aq 100 (drF qF k (qn - k))] := hD
                    refine lv_iinc (v := (nI (k2 + 1))) (lv' := [(2, .int (nI (k2 + 1))), (1, .int (nI k)), (0, .ref x)]) hF.1 hF.2.1 dX8_takeName_133 hl (k := 0) rfl (nI_inc1 _) (by decide) rfl (fun ls hl => ?_)
                    refine lv_goto (tgt := 98) hF.1 hF.2.1 dX8_takeName_136 (by decide) ?_
                    exact ih_98 (k2 + 1) (P ∧ (drF qF k (qn - k)) k2 = nI 47) (by omega) (by omega) (by rw [hPq]; exact all47) H locs ls hP hD hS (lv_sub hl [0, 1, 2] rfl)
          exact loop_98 _ 0 True (Nat.lt_succ_self _) (by omega) (⟨fun _ => ⟨trivial, fun i hi => by omega⟩, fun _ => trivial⟩) _ _ _ hP hD hS (lv_sub hl [0, 1, 2] rfl)
        · refine lv_iconst (v := (nI 1)) hF.1 hF.2.1 dX8_takeName_83 (by decide) ?_
          refine lv_goto (tgt := 88) hF.1 hF.2.1 dX8_takeName_84 (by decide) ?_
          refine kTop (y := zI (0 < qn - k)) (first_z (by first | exact Or.inl ⟨rfl, by first | omega | exact ⟨by assumption, by assumption⟩⟩ | exact Or.inr ⟨rfl, by first | omega | exact fun h => absurd h.1 (by assumption) | exact fun h => absurd h.2 (by assumption)⟩)) ?_
          refine kPut (C := RX8) (T := TX8) (N := 29) (index := 101) (v := .int (zI (0 < qn - k))) hF hK hP hD hS (inT inBX8) tyX8_ok nmX8 0 rfl rfl 28 (by decide) rfl (List.mem_cons_of_mem _ mF_X8_101) rfl (zI_nar _) (zI_fit _) (Nat.le_of_ble_eq_true rfl) dX8_takeName_88 (fun H locs hP hD hS => ?_)
          have hP : PG G [oC x 8 [.ref ak, .ref am, .ref ao, .ref av, .ref ap, .ref ax, .ref ay, .int (nI ec), .ref ad, .ref an, .ref ab, .int (nI vn), .ref ar, .ref ac, .int us, .int ro, .int pr, .ref at_, .int (nI tn), .ref as_, .int (nI sn), .ref aq, .int (nI (qn - k)), .int wa, .int (nI hp), .long z, .int (nI k), .int (zI la), .int (zI (0 < qn - k))], aI G aq 100 (drF qF k (qn - k))] H := hP
          have hD : va_D A [oC x 8 [.ref ak, .ref am, .ref ao, .ref av, .ref ap, .ref ax, .ref ay, .int (nI ec), .ref ad, .ref an, .ref ab, .int (nI vn), .ref ar, .ref ac, .int us, .int ro, .int pr, .ref at_, .int (nI tn), .ref as_, .int (nI sn), .ref aq, .int (nI (qn - k)), .int wa, .int (nI hp), .long z, .int (nI k), .int (zI la), .int (zI (0 < qn - k))], aI G aq 100 (drF qF k (qn - k))] := hD
          refine lv_aload_n hF.1 hF.2.1 dX8_takeName_91 rfl (lv_at hl 1 rfl) ?_
          refine lv_iconst (v := (nI 1)) hF.1 hF.2.1 dX8_takeName_92 (by decide) ?_
          refine kTop (y := zI True) (zI_1 trivial) ?_
          refine kPut (C := RX8) (T := TX8) (N := 29) (index := 105) (v := .int (zI True)) hF hK hP hD hS (inT inBX8) tyX8_ok nmX8 0 rfl rfl 27 (by decide) rfl (List.mem_cons_of_mem _ mF_X8_105) rfl (zI_nar _) (zI_fit _) (Nat.le_of_ble_eq_true rfl) dX8_takeName_93 (fun H locs hP hD hS => ?_)
          have hP : PG G [oC x 8 [.ref ak, .ref am, .ref ao, .ref av, .ref ap, .ref ax, .ref ay, .int (nI ec), .ref ad, .ref an, .ref ab, .int (nI vn), .ref ar, .ref ac, .int us, .int ro, .int pr, .ref at_, .int (nI tn), .ref as_, .int (nI sn), .ref aq, .int (nI (qn - k)), .int wa, .int (nI hp), .long z, .int (nI k), .int (zI True), .int (zI (0 < qn - k))], aI G aq 100 (drF qF k (qn - k))] H := hP
          have hD : va_D A [oC x 8 [.ref ak, .ref am, .ref ao, .ref av, .ref ap, .ref ax, .ref ay, .int (nI ec), .ref ad, .ref an, .ref ab, .int (nI vn), .ref ar, .ref ac, .int us, .int ro, .int pr, .ref at_, .int (nI tn), .ref as_, .int (nI sn), .ref aq, .int (nI (qn - k)), .int wa, .int (nI hp), .long z, .int (nI k), .int (zI True), .int (zI (0 < qn - k))], aI G aq 100 (drF qF k (qn - k))] := hD
          refine lv_iconst (v := (nI 0)) hF.1 hF.2.1 dX8_takeName_96 (by decide) ?_
          refine lv_istore_n (lv' := [(2, .int (nI 0)), (1, .int (nI k)), (0, .ref x)]) hF.1 hF.2.1 dX8_takeName_97 rfl hl (by decide) rfl (fun ls hl => ?_)
          have loop_98 : ∀ (n_98 : Nat) (k2 : Nat) (P : Prop), qn - k - k2 < n_98 → (k2 ≤ qn - k) → (P ↔ (True ∧ ∀ i, i < k2 → drF qF k (qn - k) i = nI 47)) → ∀ (H : Heap) (locs : List Loc) (ls : Array Slot), PG G [oC x 8 [.ref ak, .ref am, .ref ao, .ref av, .ref ap, .ref ax, .ref ay, .int (nI ec), .ref ad, .ref an, .ref ab, .int (nI vn), .ref ar, .ref ac, .int us, .int ro, .int pr, .ref at_, .int (nI tn), .ref as_, .int (nI sn), .ref aq, .int (nI (qn - k)), .int wa, .int (nI hp), .long z, .int (nI k), .int (zI P), .int (zI (0 < qn - k))], aI G aq 100 (drF qF k (qn - k))] H → va_D A [oC x 8 [.ref ak, .ref am, .ref ao, .ref av, .ref ap, .ref ax, .ref ay, .int (nI ec), .ref ad, .ref an, .ref ab, .int (nI vn), .ref ar, .ref ac, .int us, .int ro, .int pr, .ref at_, .int (nI tn), .ref as_, .int (nI sn), .ref aq, .int (nI (qn - k)), .int wa, .int (nI hp), .long z, .int (nI k), .int (zI P), .int (zI (0 < qn - k))], aI G aq 100 (drF qF k (qn - k))] → va_S A s.heap H locs → lv_has ls 3 [(2, .int (nI k2)), (1, .int (nI k)), (0, .ref x)] → W p l e (Rm 1 0 0 22) s m args below meth c H locs 0 0 Q (F0 m 98 ls []) := by
            intro n_98
            induction n_98 with
            | zero => intro k2 P hm; exact absurd hm (Nat.not_lt_zero _)
            | succ n_98 ih_98 =>
              intro k2 P hm_98 hk2 hPq H locs ls hP hD hS hl
              refine lv_iload_n hF.1 hF.2.1 dX8_takeName_98 rfl (lv_at hl 0 rfl) ?_
              refine lv_aload_n hF.1 hF.2.1 dX8_takeName_99 rfl (lv_at hl 2 rfl) ?_
              refine kGet (C := RX8) (T := TX8) (N := 29) (index := 85) hF hK hP (inT inBX8) 0 rfl rfl 22 (by decide) rfl (List.mem_cons_of_mem _ mF_X8_85) rfl dX8_takeName_100 ?_
              refine kGeN (tgt := 139) hF dX8_takeName_103 (by decide) (by omega) (by omega) (fun c_7 => ?_) (fun c_7 => ?_)
              · have hPe : P = (∀ i, i < qn - k → drF qF k (qn - k) i = nI 47) := propext (hPq.trans ⟨fun h i hi => h.2 i (by omega), fun h => ⟨trivial, fun i hi => h i (by omega)⟩⟩)
                rw [hPe] at hP hD
                refine kRetV hF hr hlk hK hP hD hS hQ (k, z) [0, 1] (by decide) rfl (Nat.le_of_ble_eq_true rfl) (Nat.le_of_ble_eq_true rfl) dX8_takeName_139 ?_
                exact ⟨hJ.symm, by omega, hZ⟩
              · refine lv_aload_n hF.1 hF.2.1 dX8_takeName_106 rfl (lv_at hl 2 rfl) ?_
                refine lv_aload_n hF.1 hF.2.1 dX8_takeName_107 rfl (lv_at hl 2 rfl) ?_
                refine kGet (C := RX8) (T := TX8) (N := 29) (index := 105) hF hK hP (inT inBX8) 0 rfl rfl 27 (by decide) rfl (List.mem_cons_of_mem _ mF_X8_105) rfl dX8_takeName_108 ?_
                refine kIfEqZ (tgt := 129) hF dX8_takeName_111 (by decide) (fun c_8 => ?_) (fun c_8 => ?_)
                · refine lv_iconst (v := (nI 0)) hF.1 hF.2.1 dX8_takeName_129 (by decide) ?_
                  refine kTop (y := zI (P ∧ (drF qF k (qn - k)) k2 = nI 47)) (first_z (by first | exact Or.inl ⟨rfl, by first | omega | exact ⟨by assumption, by assumption⟩⟩ | exact Or.inr ⟨rfl, by first | omega | exact fun h => absurd h.1 (by assumption) | exact fun h => absurd h.2 (by assumption)⟩)) ?_
                  refine kPut (C := RX8) (T := TX8) (N := 29) (index := 105) (v := .int (zI (P ∧ (drF qF k (qn - k)) k2 = nI 47))) hF hK hP hD hS (inT inBX8) tyX8_ok nmX8 0 rfl rfl 27 (by decide) rfl (List.mem_cons_of_mem _ mF_X8_105) rfl (zI_nar _) (zI_fit _) (Nat.le_of_ble_eq_true rfl) dX8_takeName_130 (fun H locs hP hD hS => ?_)
                  have hP : PG G [oC x 8 [.ref ak, .ref am, .ref ao, .ref av, .ref ap, .ref ax, .ref ay, .int (nI ec), .ref ad, .ref an, .ref ab, .int (nI vn), .ref ar, .ref ac, .int us, .int ro, .int pr, .ref at_, .int (nI tn), .ref as_, .int (nI sn), .ref aq, .int (nI (qn - k)), .int wa, .int (nI hp), .long z, .int (nI k), .int (zI (P ∧ (drF qF k (qn - k)) k2 = nI 47)), .int (zI (0 < qn - k))], aI G aq 100 (drF qF k (qn - k))] H := hP
                  have hD : va_D A [oC x 8 [.ref ak, .ref am, .ref ao, .ref av, .ref ap, .ref ax, .ref ay, .int (nI ec), .ref ad, .ref an, .ref ab, .int (nI vn), .ref ar, .ref ac, .int us, .int ro, .int pr, .ref at_, .int (nI tn), .ref as_, .int (nI sn), .ref aq, .int (nI (qn - k)), .int wa, .int (nI hp), .long z, .int (nI k), .int (zI (P ∧ (drF qF k (qn - k)) k2 = nI 47)), .int (zI (0 < qn - k))], aI G aq 100 (drF qF k (qn - k))] := hD
                  refine lv_iinc (v := (nI (k2 + 1))) (lv' := [(2, .int (nI (k2 + 1))), (1, .int (nI k)), (0, .ref x)]) hF.1 hF.2.1 dX8_takeName_133 hl (k := 0) rfl (nI_inc1 _) (by decide) rfl (fun ls hl => ?_)
                  refine lv_goto (tgt := 98) hF.1 hF.2.1 dX8_takeName_136 (by decide) ?_
                  exact ih_98 (k2 + 1) (P ∧ (drF qF k (qn - k)) k2 = nI 47) (by omega) (by omega) (by rw [hPq]; exact all47) H locs ls hP hD hS (lv_sub hl [0, 1, 2] rfl)
                · refine lv_aload_n hF.1 hF.2.1 dX8_takeName_114 rfl (lv_at hl 2 rfl) ?_
                  refine kGet (C := RX8) (T := TX8) (N := 29) (index := 57) hF hK hP (inT inBX8) 0 rfl rfl 21 (by decide) rfl (List.mem_cons_of_mem _ mF_X8_57) rfl dX8_takeName_115 ?_
                  refine lv_iload_n hF.1 hF.2.1 dX8_takeName_118 rfl (lv_at hl 0 rfl) ?_
                  refine kIaldN hF hK hP 1 rfl (by omega) (by decide) dX8_takeName_119 ?_
                  refine lv_bipush (v := (nI 47)) hF.1 hF.2.1 dX8_takeName_120 (by decide) ?_
                  refine lv_icmp_ne (tgt := 129) hF.1 hF.2.1 dX8_takeName_122 (by decide) (fun c_9 => ?_) (fun c_9 => ?_)
                  · refine lv_iconst (v := (nI 0)) hF.1 hF.2.1 dX8_takeName_129 (by decide) ?_
                    refine kTop (y := zI (P ∧ (drF qF k (qn - k)) k2 = nI 47)) (first_z (by first | exact Or.inl ⟨rfl, by first | omega | exact ⟨by assumption, by assumption⟩⟩ | exact Or.inr ⟨rfl, by first | omega | exact fun h => absurd h.1 (by assumption) | exact fun h => absurd h.2 (by assumption)⟩)) ?_
                    refine kPut (C := RX8) (T := TX8) (N := 29) (index := 105) (v := .int (zI (P ∧ (drF qF k (qn - k)) k2 = nI 47))) hF hK hP hD hS (inT inBX8) tyX8_ok nmX8 0 rfl rfl 27 (by decide) rfl (List.mem_cons_of_mem _ mF_X8_105) rfl (zI_nar _) (zI_fit _) (Nat.le_of_ble_eq_true rfl) dX8_takeName_130 (fun H locs hP hD hS => ?_)
                    have hP : PG G [oC x 8 [.ref ak, .ref am, .ref ao, .ref av, .ref ap, .ref ax, .ref ay, .int (nI ec), .ref ad, .ref an, .ref ab, .int (nI vn), .ref ar, .ref ac, .int us, .int ro, .int pr, .ref at_, .int (nI tn), .ref as_, .int (nI sn), .ref aq, .int (nI (qn - k)), .int wa, .int (nI hp), .long z, .int (nI k), .int (zI (P ∧ (drF qF k (qn - k)) k2 = nI 47)), .int (zI (0 < qn - k))], aI G aq 100 (drF qF k (qn - k))] H := hP
                    have hD : va_D A [oC x 8 [.ref ak, .ref am, .ref ao, .ref av, .ref ap, .ref ax, .ref ay, .int (nI ec), .ref ad, .ref an, .ref ab, .int (nI vn), .ref ar, .ref ac, .int us, .int ro, .int pr, .ref at_, .int (nI tn), .ref as_, .int (nI sn), .ref aq, .int (nI (qn - k)), .int wa, .int (nI hp), .long z, .int (nI k), .int (zI (P ∧ (drF qF k (qn - k)) k2 = nI 47)), .int (zI (0 < qn - k))], aI G aq 100 (drF qF k (qn - k))] := hD
                    refine lv_iinc (v := (nI (k2 + 1))) (lv' := [(2, .int (nI (k2 + 1))), (1, .int (nI k)), (0, .ref x)]) hF.1 hF.2.1 dX8_takeName_133 hl (k := 0) rfl (nI_inc1 _) (by decide) rfl (fun ls hl => ?_)
                    refine lv_goto (tgt := 98) hF.1 hF.2.1 dX8_takeName_136 (by decide) ?_
                    exact ih_98 (k2 + 1) (P ∧ (drF qF k (qn - k)) k2 = nI 47) (by omega) (by omega) (by rw [hPq]; exact all47) H locs ls hP hD hS (lv_sub hl [0, 1, 2] rfl)
                  · refine lv_iconst (v := (nI 1)) hF.1 hF.2.1 dX8_takeName_125 (by decide) ?_
                    refine lv_goto (tgt := 130) hF.1 hF.2.1 dX8_takeName_126 (by decide) ?_
                    refine kTop (y := zI (P ∧ (drF qF k (qn - k)) k2 = nI 47)) (first_z (by first | exact Or.inl ⟨rfl, by first | omega | exact ⟨by assumption, by assumption⟩⟩ | exact Or.inr ⟨rfl, by first | omega | exact fun h => absurd h.1 (by assumption) | exact fun h => absurd h.2 (by assumption)⟩)) ?_
                    refine kPut (C := RX8) (T := TX8) (N := 29) (index := 105) (v := .int (zI (P ∧ (drF qF k (qn - k)) k2 = nI 47))) hF hK hP hD hS (inT inBX8) tyX8_ok nmX8 0 rfl rfl 27 (by decide) rfl (List.mem_cons_of_mem _ mF_X8_105) rfl (zI_nar _) (zI_fit _) (Nat.le_of_ble_eq_true rfl) dX8_takeName_130 (fun H locs hP hD hS => ?_)
                    have hP : PG G [oC x 8 [.ref ak, .ref am, .ref ao, .ref av, .ref ap, .ref ax, .ref ay, .int (nI ec), .ref ad, .ref an, .ref ab, .int (nI vn), .ref ar, .ref ac, .int us, .int ro, .int pr, .ref at_, .int (nI tn), .ref as_, .int (nI sn), .ref aq, .int (nI (qn - k)), .int wa, .int (nI hp), .long z, .int (nI k), .int (zI (P ∧ (drF qF k (qn - k)) k2 = nI 47)), .int (zI (0 < qn - k))], aI G aq 100 (drF qF k (qn - k))] H := hP
                    have hD : va_D A [oC x 8 [.ref ak, .ref am, .ref ao, .ref av, .ref ap, .ref ax, .ref ay, .int (nI ec), .ref ad, .ref an, .ref ab, .int (nI vn), .ref ar, .ref ac, .int us, .int ro, .int pr, .ref at_, .int (nI tn), .ref as_, .int (nI sn), .ref aq, .int (nI (qn - k)), .int wa, .int (nI hp), .long z, .int (nI k), .int (zI (P ∧ (drF qF k (qn - k)) k2 = nI 47)), .int (zI (0 < qn - k))], aI G aq 100 (drF qF k (qn - k))] := hD
                    refine lv_iinc (v := (nI (k2 + 1))) (lv' := [(2, .int (nI (k2 + 1))), (1, .int (nI k)), (0, .ref x)]) hF.1 hF.2.1 dX8_takeName_133 hl (k := 0) rfl (nI_inc1 _) (by decide) rfl (fun ls hl => ?_)
                    refine lv_goto (tgt := 98) hF.1 hF.2.1 dX8_takeName_136 (by decide) ?_
                    exact ih_98 (k2 + 1) (P ∧ (drF qF k (qn - k)) k2 = nI 47) (by omega) (by omega) (by rw [hPq]; exact all47) H locs ls hP hD hS (lv_sub hl [0, 1, 2] rfl)
          exact loop_98 _ 0 True (Nat.lt_succ_self _) (by omega) (⟨fun _ => ⟨trivial, fun i hi => by omega⟩, fun _ => trivial⟩) _ _ _ hP hD hS (lv_sub hl [0, 1, 2] rfl)
      · refine lv_aload_n hF.1 hF.2.1 dX8_takeName_15 rfl (lv_at hl 1 rfl) ?_
        refine kGet (C := RX8) (T := TX8) (N := 29) (index := 57) hF hK hP (inT inBX8) 0 rfl rfl 21 (by decide) rfl (List.mem_cons_of_mem _ mF_X8_57) rfl dX8_takeName_16 ?_
        refine lv_iload_n hF.1 hF.2.1 dX8_takeName_19 rfl (lv_at hl 0 rfl) ?_
        refine kIaldN hF hK hP 1 rfl (by omega) (by decide) dX8_takeName_20 ?_
        refine lv_bipush (v := (nI 47)) hF.1 hF.2.1 dX8_takeName_21 (by decide) ?_
        refine lv_icmp_eq (tgt := 65) hF.1 hF.2.1 dX8_takeName_23 (by decide) (fun c_10 => ?_) (fun c_10 => ?_)
        · have hJ : scan (noS qF) qn 0 = k := by rw [← hR]; exact scan_x (fun h9 => by first | (exfalso; omega) | (simp only [Bool.not_eq_false', decide_eq_true_eq]; assumption))
          have hZ : z = nmR qF k 0 (lN 0) := by have h := hN; rw [hJ, nmR_e (Nat.le_refl k)] at h; exact h
          refine lv_aload_n hF.1 hF.2.1 dX8_takeName_65 rfl (lv_at hl 1 rfl) ?_
          refine lv_iload_n hF.1 hF.2.1 dX8_takeName_66 rfl (lv_at hl 0 rfl) ?_
          refine kPut (C := RX8) (T := TX8) (N := 29) (index := 98) (v := .int (nI k)) hF hK hP hD hS (inT inBX8) tyX8_ok nmX8 0 rfl rfl 26 (by decide) rfl (List.mem_cons_of_mem _ mF_X8_98) rfl rfl rfl (Nat.le_of_ble_eq_true rfl) dX8_takeName_67 (fun H locs hP hD hS => ?_)
          have hP : PG G [oC x 8 [.ref ak, .ref am, .ref ao, .ref av, .ref ap, .ref ax, .ref ay, .int (nI ec), .ref ad, .ref an, .ref ab, .int (nI vn), .ref ar, .ref ac, .int us, .int ro, .int pr, .ref at_, .int (nI tn), .ref as_, .int (nI sn), .ref aq, .int (nI qn), .int wa, .int (nI hp), .long z, .int (nI k), .int (zI la), .int (zI sl)], aI G aq 100 qF] H := hP
          have hD : va_D A [oC x 8 [.ref ak, .ref am, .ref ao, .ref av, .ref ap, .ref ax, .ref ay, .int (nI ec), .ref ad, .ref an, .ref ab, .int (nI vn), .ref ar, .ref ac, .int us, .int ro, .int pr, .ref at_, .int (nI tn), .ref as_, .int (nI sn), .ref aq, .int (nI qn), .int wa, .int (nI hp), .long z, .int (nI k), .int (zI la), .int (zI sl)], aI G aq 100 qF] := hD
          refine lv_aload_n hF.1 hF.2.1 dX8_takeName_70 rfl (lv_at hl 1 rfl) ?_
          refine lv_iload_n hF.1 hF.2.1 dX8_takeName_71 rfl (lv_at hl 0 rfl) ?_
          refine kCallV (wr := []) (va_runV (As := [.int (nI k)]) (rest := []) hF (c_X8_dropRest l G _ x ak am ao av ap ax ay ad an ab ar ac at_ as_ aq ec vn tn sn qn hp k us ro pr wa z la sl qF k (by first | assumption | omega) (by first | assumption | omega)) (cwVB 1 hF rfl mL_X8_88 mI_X8_dropRest mS_X8_dropRest mN_X8 mC_X8_dropRest rfl hd_X8_dropRest rfl rfl ⟨Nat.le_of_ble_eq_true rfl, Nat.le_of_ble_eq_true rfl⟩) (kPre hK hP hD [0, 1] (by decide) rfl (q0 := 0) (ci := 8) rfl rfl rfl) rfl rfl hl.1 rfl (lv_room (Nat.le_of_ble_eq_true rfl)) dX8_takeName_72 ⟨Nat.le_of_ble_eq_true rfl, Nat.le_of_ble_eq_true rfl⟩) hP hD hS hA [0, 1] [] rfl rfl (by decide) (by decide) (fun u H locs hw_11 hP hD hS => ?_)
          have hP : PG G [oC x 8 [.ref ak, .ref am, .ref ao, .ref av, .ref ap, .ref ax, .ref ay, .int (nI ec), .ref ad, .ref an, .ref ab, .int (nI vn), .ref ar, .ref ac, .int us, .int ro, .int pr, .ref at_, .int (nI tn), .ref as_, .int (nI sn), .ref aq, .int (nI (qn - k)), .int wa, .int (nI hp), .long z, .int (nI k), .int (zI la), .int (zI sl)], aI G aq 100 (drF qF k (qn - k))] H := hP
          have hD : va_D A [oC x 8 [.ref ak, .ref am, .ref ao, .ref av, .ref ap, .ref ax, .ref ay, .int (nI ec), .ref ad, .ref an, .ref ab, .int (nI vn), .ref ar, .ref ac, .int us, .int ro, .int pr, .ref at_, .int (nI tn), .ref as_, .int (nI sn), .ref aq, .int (nI (qn - k)), .int wa, .int (nI hp), .long z, .int (nI k), .int (zI la), .int (zI sl)], aI G aq 100 (drF qF k (qn - k))] := hD
          refine lv_aload_n hF.1 hF.2.1 dX8_takeName_75 rfl (lv_at hl 1 rfl) ?_
          refine lv_aload_n hF.1 hF.2.1 dX8_takeName_76 rfl (lv_at hl 1 rfl) ?_
          refine kGet (C := RX8) (T := TX8) (N := 29) (index := 85) hF hK hP (inT inBX8) 0 rfl rfl 22 (by decide) rfl (List.mem_cons_of_mem _ mF_X8_85) rfl dX8_takeName_77 ?_
          refine kIfLeN (tgt := 87) hF dX8_takeName_80 (by decide) (by omega) (fun c_12 => ?_) (fun c_12 => ?_)
          · refine lv_iconst (v := (nI 0)) hF.1 hF.2.1 dX8_takeName_87 (by decide) ?_
            refine kTop (y := zI (0 < qn - k)) (first_z (by first | exact Or.inl ⟨rfl, by first | omega | exact ⟨by assumption, by assumption⟩⟩ | exact Or.inr ⟨rfl, by first | omega | exact fun h => absurd h.1 (by assumption) | exact fun h => absurd h.2 (by assumption)⟩)) ?_
            refine kPut (C := RX8) (T := TX8) (N := 29) (index := 101) (v := .int (zI (0 < qn - k))) hF hK hP hD hS (inT inBX8) tyX8_ok nmX8 0 rfl rfl 28 (by decide) rfl (List.mem_cons_of_mem _ mF_X8_101) rfl (zI_nar _) (zI_fit _) (Nat.le_of_ble_eq_true rfl) dX8_takeName_88 (fun H locs hP hD hS => ?_)
            have hP : PG G [oC x 8 [.ref ak, .ref am, .ref ao, .ref av, .ref ap, .ref ax, .ref ay, .int (nI ec), .ref ad, .ref an, .ref ab, .int (nI vn), .ref ar, .ref ac, .int us, .int ro, .int pr, .ref at_, .int (nI tn), .ref as_, .int (nI sn), .ref aq, .int (nI (qn - k)), .int wa, .int (nI hp), .long z, .int (nI k), .int (zI la), .int (zI (0 < qn - k))], aI G aq 100 (drF qF k (qn - k))] H := hP
            have hD : va_D A [oC x 8 [.ref ak, .ref am, .ref ao, .ref av, .ref ap, .ref ax, .ref ay, .int (nI ec), .ref ad, .ref an, .ref ab, .int (nI vn), .ref ar, .ref ac, .int us, .int ro, .int pr, .ref at_, .int (nI tn), .ref as_, .int (nI sn), .ref aq, .int (nI (qn - k)), .int wa, .int (nI hp), .long z, .int (nI k), .int (zI la), .int (zI (0 < qn - k))], aI G aq 100 (drF qF k (qn - k))] := hD
            refine lv_aload_n hF.1 hF.2.1 dX8_takeName_91 rfl (lv_at hl 1 rfl) ?_
            refine lv_iconst (v := (nI 1)) hF.1 hF.2.1 dX8_takeName_92 (by decide) ?_
            refine kTop (y := zI True) (zI_1 trivial) ?_
            refine kPut (C := RX8) (T := TX8) (N := 29) (index := 105) (v := .int (zI True)) hF hK hP hD hS (inT inBX8) tyX8_ok nmX8 0 rfl rfl 27 (by decide) rfl (List.mem_cons_of_mem _ mF_X8_105) rfl (zI_nar _) (zI_fit _) (Nat.le_of_ble_eq_true rfl) dX8_takeName_93 (fun H locs hP hD hS => ?_)
            have hP : PG G [oC x 8 [.ref ak, .ref am, .ref ao, .ref av, .ref ap, .ref ax, .ref ay, .int (nI ec), .ref ad, .ref an, .ref ab, .int (nI vn), .ref ar, .ref ac, .int us, .int ro, .int pr, .ref at_, .int (nI tn), .ref as_, .int (nI sn), .ref aq, .int (nI (qn - k)), .int wa, .int (nI hp), .long z, .int (nI k), .int (zI True), .int (zI (0 < qn - k))], aI G aq 100 (drF qF k (qn - k))] H := hP
            have hD : va_D A [oC x 8 [.ref ak, .ref am, .ref ao, .ref av, .ref ap, .ref ax, .ref ay, .int (nI ec), .ref ad, .ref an, .ref ab, .int (nI vn), .ref ar, .ref ac, .int us, .int ro, .int pr, .ref at_, .int (nI tn), .ref as_, .int (nI sn), .ref aq, .int (nI (qn - k)), .int wa, .int (nI hp), .long z, .int (nI k), .int (zI True), .int (zI (0 < qn - k))], aI G aq 100 (drF qF k (qn - k))] := hD
            refine lv_iconst (v := (nI 0)) hF.1 hF.2.1 dX8_takeName_96 (by decide) ?_
            refine lv_istore_n (lv' := [(2, .int (nI 0)), (1, .int (nI k)), (0, .ref x)]) hF.1 hF.2.1 dX8_takeName_97 rfl hl (by decide) rfl (fun ls hl => ?_)
            have loop_98 : ∀ (n_98 : Nat) (k2 : Nat) (P : Prop), qn - k - k2 < n_98 → (k2 ≤ qn - k) → (P ↔ (True ∧ ∀ i, i < k2 → drF qF k (qn - k) i = nI 47)) → ∀ (H : Heap) (locs : List Loc) (ls : Array Slot), PG G [oC x 8 [.ref ak, .ref am, .ref ao, .ref av, .ref ap, .ref ax, .ref ay, .int (nI ec), .ref ad, .ref an, .ref ab, .int (nI vn), .ref ar, .ref ac, .int us, .int ro, .int pr, .ref at_, .int (nI tn), .ref as_, .int (nI sn), .ref aq, .int (nI (qn - k)), .int wa, .int (nI hp), .long z, .int (nI k), .int (zI P), .int (zI (0 < qn - k))], aI G aq 100 (drF qF k (qn - k))] H → va_D A [oC x 8 [.ref ak, .ref am, .ref ao, .ref av, .ref ap, .ref ax, .ref ay, .int (nI ec), .ref ad, .ref an, .ref ab, .int (nI vn), .ref ar, .ref ac, .int us, .int ro, .int pr, .ref at_, .int (nI tn), .ref as_, .int (nI sn), .ref aq, .int (nI (qn - k)), .int wa, .int (nI hp), .long z, .int (nI k), .int (zI P), .int (zI (0 < qn - k))], aI G aq 100 (drF qF k (qn - k))] → va_S A s.heap H locs → lv_has ls 3 [(2, .int (nI k2)), (1, .int (nI k)), (0, .ref x)] → W p l e (Rm 1 0 0 22) s m args below meth c H locs 0 0 Q (F0 m 98 ls []) := by
              intro n_98
              induction n_98 with
              | zero => intro k2 P hm; exact absurd hm (Nat.not_lt_zero _)
              | succ n_98 ih_98 =>
                intro k2 P hm_98 hk2 hPq H locs ls hP hD hS hl
                refine lv_iload_n hF.1 hF.2.1 dX8_takeName_98 rfl (lv_at hl 0 rfl) ?_
                refine lv_aload_n hF.1 hF.2.1 dX8_takeName_99 rfl (lv_at hl 2 rfl) ?_
                refine kGet (C := RX8) (T := TX8) (N := 29) (index := 85) hF hK hP (inT inBX8) 0 rfl rfl 22 (by decide) rfl (List.mem_cons_of_mem _ mF_X8_85) rfl dX8_takeName_100 ?_
                refine kGeN (tgt := 139) hF dX8_takeName_103 (by decide) (by omega) (by omega) (fun c_13 => ?_) (fun c_13 => ?_)
                · have hPe : P = (∀ i, i < qn - k → drF qF k (qn - k) i = nI 47) := propext (hPq.trans ⟨fun h i hi => h.2 i (by omega), fun h => ⟨trivial, fun i hi => h i (by omega)⟩⟩)
                  rw [hPe] at hP hD
                  refine kRetV hF hr hlk hK hP hD hS hQ (k, z) [0, 1] (by decide) rfl (Nat.le_of_ble_eq_true rfl) (Nat.le_of_ble_eq_true rfl) dX8_takeName_139 ?_
                  exact ⟨hJ.symm, by omega, hZ⟩
                · refine lv_aload_n hF.1 hF.2.1 dX8_takeName_106 rfl (lv_at hl 2 rfl) ?_
                  refine lv_aload_n hF.1 hF.2.1 dX8_takeName_107 rfl (lv_at hl 2 rfl) ?_
                  refine kGet (C := RX8) (T := TX8) (N := 29) (index := 105) hF hK hP (inT inBX8) 0 rfl rfl 27 (by decide) rfl (List.mem_cons_of_mem _ mF_X8_105) rfl dX8_takeName_108 ?_
                  refine kIfEqZ (tgt := 129) hF dX8_takeName_111 (by decide) (fun c_14 => ?_) (fun c_14 => ?_)
                  · refine lv_iconst (v := (nI 0)) hF.1 hF.2.1 dX8_takeName_129 (by decide) ?_
                    refine kTop (y := zI (P ∧ (drF qF k (qn - k)) k2 = nI 47)) (first_z (by first | exact Or.inl ⟨rfl, by first | omega | exact ⟨by assumption, by assumption⟩⟩ | exact Or.inr ⟨rfl, by first | omega | exact fun h => absurd h.1 (by assumption) | exact fun h => absurd h.2 (by assumption)⟩)) ?_
                    refine kPut (C := RX8) (T := TX8) (N := 29) (index := 105) (v := .int (zI (P ∧ (drF qF k (qn - k)) k2 = nI 47))) hF hK hP hD hS (inT inBX8) tyX8_ok nmX8 0 rfl rfl 27 (by decide) rfl (List.mem_cons_of_mem _ mF_X8_105) rfl (zI_nar _) (zI_fit _) (Nat.le_of_ble_eq_true rfl) dX8_takeName_130 (fun H locs hP hD hS => ?_)
                    have hP : PG G [oC x 8 [.ref ak, .ref am, .ref ao, .ref av, .ref ap, .ref ax, .ref ay, .int (nI ec), .ref ad, .ref an, .ref ab, .int (nI vn), .ref ar, .ref ac, .int us, .int ro, .int pr, .ref at_, .int (nI tn), .ref as_, .int (nI sn), .ref aq, .int (nI (qn - k)), .int wa, .int (nI hp), .long z, .int (nI k), .int (zI (P ∧ (drF qF k (qn - k)) k2 = nI 47)), .int (zI (0 < qn - k))], aI G aq 100 (drF qF k (qn - k))] H := hP
                    have hD : va_D A [oC x 8 [.ref ak, .ref am, .ref ao, .ref av, .ref ap, .ref ax, .ref ay, .int (nI ec), .ref ad, .ref an, .ref ab, .int (nI vn), .ref ar, .ref ac, .int us, .int ro, .int pr, .ref at_, .int (nI tn), .ref as_, .int (nI sn), .ref aq, .int (nI (qn - k)), .int wa, .int (nI hp), .long z, .int (nI k), .int (zI (P ∧ (drF qF k (qn - k)) k2 = nI 47)), .int (zI (0 < qn - k))], aI G aq 100 (drF qF k (qn - k))] := hD
                    refine lv_iinc (v := (nI (k2 + 1))) (lv' := [(2, .int (nI (k2 + 1))), (1, .int (nI k)), (0, .ref x)]) hF.1 hF.2.1 dX8_takeName_133 hl (k := 0) rfl (nI_inc1 _) (by decide) rfl (fun ls hl => ?_)
                    refine lv_goto (tgt := 98) hF.1 hF.2.1 dX8_takeName_136 (by decide) ?_
                    exact ih_98 (k2 + 1) (P ∧ (drF qF k (qn - k)) k2 = nI 47) (by omega) (by omega) (by rw [hPq]; exact all47) H locs ls hP hD hS (lv_sub hl [0, 1, 2] rfl)
                  · refine lv_aload_n hF.1 hF.2.1 dX8_takeName_114 rfl (lv_at hl 2 rfl) ?_
                    refine kGet (C := RX8) (T := TX8) (N := 29) (index := 57) hF hK hP (inT inBX8) 0 rfl rfl 21 (by decide) rfl (List.mem_cons_of_mem _ mF_X8_57) rfl dX8_takeName_115 ?_
                    refine lv_iload_n hF.1 hF.2.1 dX8_takeName_118 rfl (lv_at hl 0 rfl) ?_
                    refine kIaldN hF hK hP 1 rfl (by omega) (by decide) dX8_takeName_119 ?_
                    refine lv_bipush (v := (nI 47)) hF.1 hF.2.1 dX8_takeName_120 (by decide) ?_
                    refine lv_icmp_ne (tgt := 129) hF.1 hF.2.1 dX8_takeName_122 (by decide) (fun c_15 => ?_) (fun c_15 => ?_)
                    · refine lv_iconst (v := (nI 0)) hF.1 hF.2.1 dX8_takeName_129 (by decide) ?_
                      refine kTop (y := zI (P ∧ (drF qF k (qn - k)) k2 = nI 47)) (first_z (by first | exact Or.inl ⟨rfl, by first | omega | exact ⟨by assumption, by assumption⟩⟩ | exact Or.inr ⟨rfl, by first | omega | exact fun h => absurd h.1 (by assumption) | exact fun h => absurd h.2 (by assumption)⟩)) ?_
                      refine kPut (C := RX8) (T := TX8) (N := 29) (index := 105) (v := .int (zI (P ∧ (drF qF k (qn - k)) k2 = nI 47))) hF hK hP hD hS (inT inBX8) tyX8_ok nmX8 0 rfl rfl 27 (by decide) rfl (List.mem_cons_of_mem _ mF_X8_105) rfl (zI_nar _) (zI_fit _) (Nat.le_of_ble_eq_true rfl) dX8_takeName_130 (fun H locs hP hD hS => ?_)
                      have hP : PG G [oC x 8 [.ref ak, .ref am, .ref ao, .ref av, .ref ap, .ref ax, .ref ay, .int (nI ec), .ref ad, .ref an, .ref ab, .int (nI vn), .ref ar, .ref ac, .int us, .int ro, .int pr, .ref at_, .int (nI tn), .ref as_, .int (nI sn), .ref aq, .int (nI (qn - k)), .int wa, .int (nI hp), .long z, .int (nI k), .int (zI (P ∧ (drF qF k (qn - k)) k2 = nI 47)), .int (zI (0 < qn - k))], aI G aq 100 (drF qF k (qn - k))] H := hP
                      have hD : va_D A [oC x 8 [.ref ak, .ref am, .ref ao, .ref av, .ref ap, .ref ax, .ref ay, .int (nI ec), .ref ad, .ref an, .ref ab, .int (nI vn), .ref ar, .ref ac, .int us, .int ro, .int pr, .ref at_, .int (nI tn), .ref as_, .int (nI sn), .ref aq, .int (nI (qn - k)), .int wa, .int (nI hp), .long z, .int (nI k), .int (zI (P ∧ (drF qF k (qn - k)) k2 = nI 47)), .int (zI (0 < qn - k))], aI G aq 100 (drF qF k (qn - k))] := hD
                      refine lv_iinc (v := (nI (k2 + 1))) (lv' := [(2, .int (nI (k2 + 1))), (1, .int (nI k)), (0, .ref x)]) hF.1 hF.2.1 dX8_takeName_133 hl (k := 0) rfl (nI_inc1 _) (by decide) rfl (fun ls hl => ?_)
                      refine lv_goto (tgt := 98) hF.1 hF.2.1 dX8_takeName_136 (by decide) ?_
                      exact ih_98 (k2 + 1) (P ∧ (drF qF k (qn - k)) k2 = nI 47) (by omega) (by omega) (by rw [hPq]; exact all47) H locs ls hP hD hS (lv_sub hl [0, 1, 2] rfl)
                    · refine lv_iconst (v := (nI 1)) hF.1 hF.2.1 dX8_takeName_125 (by decide) ?_
                      refine lv_goto (tgt := 130) hF.1 hF.2.1 dX8_takeName_126 (by decide) ?_
                      refine kTop (y := zI (P ∧ (drF qF k (qn - k)) k2 = nI 47)) (first_z (by first | exact Or.inl ⟨rfl, by first | omega | exact ⟨by assumption, by assumption⟩⟩ | exact Or.inr ⟨rfl, by first | omega | exact fun h => absurd h.1 (by assumption) | exact fun h => absurd h.2 (by assumption)⟩)) ?_
                      refine kPut (C := RX8) (T := TX8) (N := 29) (index := 105) (v := .int (zI (P ∧ (drF qF k (qn - k)) k2 = nI 47))) hF hK hP hD hS (inT inBX8) tyX8_ok nmX8 0 rfl rfl 27 (by decide) rfl (List.mem_cons_of_mem _ mF_X8_105) rfl (zI_nar _) (zI_fit _) (Nat.le_of_ble_eq_true rfl) dX8_takeName_130 (fun H locs hP hD hS => ?_)
                      have hP : PG G [oC x 8 [.ref ak, .ref am, .ref ao, .ref av, .ref ap, .ref ax, .ref ay, .int (nI ec), .ref ad, .ref an, .ref ab, .int (nI vn), .ref ar, .ref ac, .int us, .int ro, .int pr, .ref at_, .int (nI tn), .ref as_, .int (nI sn), .ref aq, .int (nI (qn - k)), .int wa, .int (nI hp), .long z, .int (nI k), .int (zI (P ∧ (drF qF k (qn - k)) k2 = nI 47)), .int (zI (0 < qn - k))], aI G aq 100 (drF qF k (qn - k))] H := hP
                      have hD : va_D A [oC x 8 [.ref ak, .ref am, .ref ao, .ref av, .ref ap, .ref ax, .ref ay, .int (nI ec), .ref ad, .ref an, .ref ab, .int (nI vn), .ref ar, .ref ac, .int us, .int ro, .int pr, .ref at_, .int (nI tn), .ref as_, .int (nI sn), .ref aq, .int (nI (qn - k)), .int wa, .int (nI hp), .long z, .int (nI k), .int (zI (P ∧ (drF qF k (qn - k)) k2 = nI 47)), .int (zI (0 < qn - k))], aI G aq 100 (drF qF k (qn - k))] := hD
                      refine lv_iinc (v := (nI (k2 + 1))) (lv' := [(2, .int (nI (k2 + 1))), (1, .int (nI k)), (0, .ref x)]) hF.1 hF.2.1 dX8_takeName_133 hl (k := 0) rfl (nI_inc1 _) (by decide) rfl (fun ls hl => ?_)
                      refine lv_goto (tgt := 98) hF.1 hF.2.1 dX8_takeName_136 (by decide) ?_
                      exact ih_98 (k2 + 1) (P ∧ (drF qF k (qn - k)) k2 = nI 47) (by omega) (by omega) (by rw [hPq]; exact all47) H locs ls hP hD hS (lv_sub hl [0, 1, 2] rfl)
            exact loop_98 _ 0 True (Nat.lt_succ_self _) (by omega) (⟨fun _ => ⟨trivial, fun i hi => by omega⟩, fun _ => trivial⟩) _ _ _ hP hD hS (lv_sub hl [0, 1, 2] rfl)
          · refine lv_iconst (v := (nI 1)) hF.1 hF.2.1 dX8_takeName_83 (by decide) ?_
            refine lv_goto (tgt := 88) hF.1 hF.2.1 dX8_takeName_84 (by decide) ?_
            refine kTop (y := zI (0 < qn - k)) (first_z (by first | exact Or.inl ⟨rfl, by first | omega | exact ⟨by assumption, by assumption⟩⟩ | exact Or.inr ⟨rfl, by first | omega | exact fun h => absurd h.1 (by assumption) | exact fun h => absurd h.2 (by assumption)⟩)) ?_
            refine kPut (C := RX8) (T := TX8) (N := 29) (index := 101) (v := .int (zI (0 < qn - k))) hF hK hP hD hS (inT inBX8) tyX8_ok nmX8 0 rfl rfl 28 (by decide) rfl (List.mem_cons_of_mem _ mF_X8_101) rfl (zI_nar _) (zI_fit _) (Nat.le_of_ble_eq_true rfl) dX8_takeName_88 (fun H locs hP hD hS => ?_)
            have hP : PG G [oC x 8 [.ref ak, .ref am, .ref ao, .ref av, .ref ap, .ref ax, .ref ay, .int (nI ec), .ref ad, .ref an, .ref ab, .int (nI vn), .ref ar, .ref ac, .int us, .int ro, .int pr, .ref at_, .int (nI tn), .ref as_, .int (nI sn), .ref aq, .int (nI (qn - k)), .int wa, .int (nI hp), .long z, .int (nI k), .int (zI la), .int (zI (0 < qn - k))], aI G aq 100 (drF qF k (qn - k))] H := hP
            have hD : va_D A [oC x 8 [.ref ak, .ref am, .ref ao, .ref av, .ref ap, .ref ax, .ref ay, .int (nI ec), .ref ad, .ref an, .ref ab, .int (nI vn), .ref ar, .ref ac, .int us, .int ro, .int pr, .ref at_, .int (nI tn), .ref as_, .int (nI sn), .ref aq, .int (nI (qn - k)), .int wa, .int (nI hp), .long z, .int (nI k), .int (zI la), .int (zI (0 < qn - k))], aI G aq 100 (drF qF k (qn - k))] := hD
            refine lv_aload_n hF.1 hF.2.1 dX8_takeName_91 rfl (lv_at hl 1 rfl) ?_
            refine lv_iconst (v := (nI 1)) hF.1 hF.2.1 dX8_takeName_92 (by decide) ?_
            refine kTop (y := zI True) (zI_1 trivial) ?_
            refine kPut (C := RX8) (T := TX8) (N := 29) (index := 105) (v := .int (zI True)) hF hK hP hD hS (inT inBX8) tyX8_ok nmX8 0 rfl rfl 27 (by decide) rfl (List.mem_cons_of_mem _ mF_X8_105) rfl (zI_nar _) (zI_fit _) (Nat.le_of_ble_eq_true rfl) dX8_takeName_93 (fun H locs hP hD hS => ?_)
            have hP : PG G [oC x 8 [.ref ak, .ref am, .ref ao, .ref av, .ref ap, .ref ax, .ref ay, .int (nI ec), .ref ad, .ref an, .ref ab, .int (nI vn), .ref ar, .ref ac, .int us, .int ro, .int pr, .ref at_, .int (nI tn), .ref as_, .int (nI sn), .ref aq, .int (nI (qn - k)), .int wa, .int (nI hp), .long z, .int (nI k), .int (zI True), .int (zI (0 < qn - k))], aI G aq 100 (drF qF k (qn - k))] H := hP
            have hD : va_D A [oC x 8 [.ref ak, .ref am, .ref ao, .ref av, .ref ap, .ref ax, .ref ay, .int (nI ec), .ref ad, .ref an, .ref ab, .int (nI vn), .ref ar, .ref ac, .int us, .int ro, .int pr, .ref at_, .int (nI tn), .ref as_, .int (nI sn), .ref aq, .int (nI (qn - k)), .int wa, .int (nI hp), .long z, .int (nI k), .int (zI True), .int (zI (0 < qn - k))], aI G aq 100 (drF qF k (qn - k))] := hD
            refine lv_iconst (v := (nI 0)) hF.1 hF.2.1 dX8_takeName_96 (by decide) ?_
            refine lv_istore_n (lv' := [(2, .int (nI 0)), (1, .int (nI k)), (0, .ref x)]) hF.1 hF.2.1 dX8_takeName_97 rfl hl (by decide) rfl (fun ls hl => ?_)
            have loop_98 : ∀ (n_98 : Nat) (k2 : Nat) (P : Prop), qn - k - k2 < n_98 → (k2 ≤ qn - k) → (P ↔ (True ∧ ∀ i, i < k2 → drF qF k (qn - k) i = nI 47)) → ∀ (H : Heap) (locs : List Loc) (ls : Array Slot), PG G [oC x 8 [.ref ak, .ref am, .ref ao, .ref av, .ref ap, .ref ax, .ref ay, .int (nI ec), .ref ad, .ref an, .ref ab, .int (nI vn), .ref ar, .ref ac, .int us, .int ro, .int pr, .ref at_, .int (nI tn), .ref as_, .int (nI sn), .ref aq, .int (nI (qn - k)), .int wa, .int (nI hp), .long z, .int (nI k), .int (zI P), .int (zI (0 < qn - k))], aI G aq 100 (drF qF k (qn - k))] H → va_D A [oC x 8 [.ref ak, .ref am, .ref ao, .ref av, .ref ap, .ref ax, .ref ay, .int (nI ec), .ref ad, .ref an, .ref ab, .int (nI vn), .ref ar, .ref ac, .int us, .int ro, .int pr, .ref at_, .int (nI tn), .ref as_, .int (nI sn), .ref aq, .int (nI (qn - k)), .int wa, .int (nI hp), .long z, .int (nI k), .int (zI P), .int (zI (0 < qn - k))], aI G aq 100 (drF qF k (qn - k))] → va_S A s.heap H locs → lv_has ls 3 [(2, .int (nI k2)), (1, .int (nI k)), (0, .ref x)] → W p l e (Rm 1 0 0 22) s m args below meth c H locs 0 0 Q (F0 m 98 ls []) := by
              intro n_98
              induction n_98 with
              | zero => intro k2 P hm; exact absurd hm (Nat.not_lt_zero _)
              | succ n_98 ih_98 =>
                intro k2 P hm_98 hk2 hPq H locs ls hP hD hS hl
                refine lv_iload_n hF.1 hF.2.1 dX8_takeName_98 rfl (lv_at hl 0 rfl) ?_
                refine lv_aload_n hF.1 hF.2.1 dX8_takeName_99 rfl (lv_at hl 2 rfl) ?_
                refine kGet (C := RX8) (T := TX8) (N := 29) (index := 85) hF hK hP (inT inBX8) 0 rfl rfl 22 (by decide) rfl (List.mem_cons_of_mem _ mF_X8_85) rfl dX8_takeName_100 ?_
                refine kGeN (tgt := 139) hF dX8_takeName_103 (by decide) (by omega) (by omega) (fun c_16 => ?_) (fun c_16 => ?_)
                · have hPe : P = (∀ i, i < qn - k → drF qF k (qn - k) i = nI 47) := propext (hPq.trans ⟨fun h i hi => h.2 i (by omega), fun h => ⟨trivial, fun i hi => h i (by omega)⟩⟩)
                  rw [hPe] at hP hD
                  refine kRetV hF hr hlk hK hP hD hS hQ (k, z) [0, 1] (by decide) rfl (Nat.le_of_ble_eq_true rfl) (Nat.le_of_ble_eq_true rfl) dX8_takeName_139 ?_
                  exact ⟨hJ.symm, by omega, hZ⟩
                · refine lv_aload_n hF.1 hF.2.1 dX8_takeName_106 rfl (lv_at hl 2 rfl) ?_
                  refine lv_aload_n hF.1 hF.2.1 dX8_takeName_107 rfl (lv_at hl 2 rfl) ?_
                  refine kGet (C := RX8) (T := TX8) (N := 29) (index := 105) hF hK hP (inT inBX8) 0 rfl rfl 27 (by decide) rfl (List.mem_cons_of_mem _ mF_X8_105) rfl dX8_takeName_108 ?_
                  refine kIfEqZ (tgt := 129) hF dX8_takeName_111 (by decide) (fun c_17 => ?_) (fun c_17 => ?_)
                  · refine lv_iconst (v := (nI 0)) hF.1 hF.2.1 dX8_takeName_129 (by decide) ?_
                    refine kTop (y := zI (P ∧ (drF qF k (qn - k)) k2 = nI 47)) (first_z (by first | exact Or.inl ⟨rfl, by first | omega | exact ⟨by assumption, by assumption⟩⟩ | exact Or.inr ⟨rfl, by first | omega | exact fun h => absurd h.1 (by assumption) | exact fun h => absurd h.2 (by assumption)⟩)) ?_
                    refine kPut (C := RX8) (T := TX8) (N := 29) (index := 105) (v := .int (zI (P ∧ (drF qF k (qn - k)) k2 = nI 47))) hF hK hP hD hS (inT inBX8) tyX8_ok nmX8 0 rfl rfl 27 (by decide) rfl (List.mem_cons_of_mem _ mF_X8_105) rfl (zI_nar _) (zI_fit _) (Nat.le_of_ble_eq_true rfl) dX8_takeName_130 (fun H locs hP hD hS => ?_)
                    have hP : PG G [oC x 8 [.ref ak, .ref am, .ref ao, .ref av, .ref ap, .ref ax, .ref ay, .int (nI ec), .ref ad, .ref an, .ref ab, .int (nI vn), .ref ar, .ref ac, .int us, .int ro, .int pr, .ref at_, .int (nI tn), .ref as_, .int (nI sn), .ref aq, .int (nI (qn - k)), .int wa, .int (nI hp), .long z, .int (nI k), .int (zI (P ∧ (drF qF k (qn - k)) k2 = nI 47)), .int (zI (0 < qn - k))], aI G aq 100 (drF qF k (qn - k))] H := hP
                    have hD : va_D A [oC x 8 [.ref ak, .ref am, .ref ao, .ref av, .ref ap, .ref ax, .ref ay, .int (nI ec), .ref ad, .ref an, .ref ab, .int (nI vn), .ref ar, .ref ac, .int us, .int ro, .int pr, .ref at_, .int (nI tn), .ref as_, .int (nI sn), .ref aq, .int (nI (qn - k)), .int wa, .int (nI hp), .long z, .int (nI k), .int (zI (P ∧ (drF qF k (qn - k)) k2 = nI 47)), .int (zI (0 < qn - k))], aI G aq 100 (drF qF k (qn - k))] := hD
                    refine lv_iinc (v := (nI (k2 + 1))) (lv' := [(2, .int (nI (k2 + 1))), (1, .int (nI k)), (0, .ref x)]) hF.1 hF.2.1 dX8_takeName_133 hl (k := 0) rfl (nI_inc1 _) (by decide) rfl (fun ls hl => ?_)
                    refine lv_goto (tgt := 98) hF.1 hF.2.1 dX8_takeName_136 (by decide) ?_
                    exact ih_98 (k2 + 1) (P ∧ (drF qF k (qn - k)) k2 = nI 47) (by omega) (by omega) (by rw [hPq]; exact all47) H locs ls hP hD hS (lv_sub hl [0, 1, 2] rfl)
                  · refine lv_aload_n hF.1 hF.2.1 dX8_takeName_114 rfl (lv_at hl 2 rfl) ?_
                    refine kGet (C := RX8) (T := TX8) (N := 29) (index := 57) hF hK hP (inT inBX8) 0 rfl rfl 21 (by decide) rfl (List.mem_cons_of_mem _ mF_X8_57) rfl dX8_takeName_115 ?_
                    refine lv_iload_n hF.1 hF.2.1 dX8_takeName_118 rfl (lv_at hl 0 rfl) ?_
                    refine kIaldN hF hK hP 1 rfl (by omega) (by decide) dX8_takeName_119 ?_
                    refine lv_bipush (v := (nI 47)) hF.1 hF.2.1 dX8_takeName_120 (by decide) ?_
                    refine lv_icmp_ne (tgt := 129) hF.1 hF.2.1 dX8_takeName_122 (by decide) (fun c_18 => ?_) (fun c_18 => ?_)
                    · refine lv_iconst (v := (nI 0)) hF.1 hF.2.1 dX8_takeName_129 (by decide) ?_
                      refine kTop (y := zI (P ∧ (drF qF k (qn - k)) k2 = nI 47)) (first_z (by first | exact Or.inl ⟨rfl, by first | omega | exact ⟨by assumption, by assumption⟩⟩ | exact Or.inr ⟨rfl, by first | omega | exact fun h => absurd h.1 (by assumption) | exact fun h => absurd h.2 (by assumption)⟩)) ?_
                      refine kPut (C := RX8) (T := TX8) (N := 29) (index := 105) (v := .int (zI (P ∧ (drF qF k (qn - k)) k2 = nI 47))) hF hK hP hD hS (inT inBX8) tyX8_ok nmX8 0 rfl rfl 27 (by decide) rfl (List.mem_cons_of_mem _ mF_X8_105) rfl (zI_nar _) (zI_fit _) (Nat.le_of_ble_eq_true rfl) dX8_takeName_130 (fun H locs hP hD hS => ?_)
                      have hP : PG G [oC x 8 [.ref ak, .ref am, .ref ao, .ref av, .ref ap, .ref ax, .ref ay, .int (nI ec), .ref ad, .ref an, .ref ab, .int (nI vn), .ref ar, .ref ac, .int us, .int ro, .int pr, .ref at_, .int (nI tn), .ref as_, .int (nI sn), .ref aq, .int (nI (qn - k)), .int wa, .int (nI hp), .long z, .int (nI k), .int (zI (P ∧ (drF qF k (qn - k)) k2 = nI 47)), .int (zI (0 < qn - k))], aI G aq 100 (drF qF k (qn - k))] H := hP
                      have hD : va_D A [oC x 8 [.ref ak, .ref am, .ref ao, .ref av, .ref ap, .ref ax, .ref ay, .int (nI ec), .ref ad, .ref an, .ref ab, .int (nI vn), .ref ar, .ref ac, .int us, .int ro, .int pr, .ref at_, .int (nI tn), .ref as_, .int (nI sn), .ref aq, .int (nI (qn - k)), .int wa, .int (nI hp), .long z, .int (nI k), .int (zI (P ∧ (drF qF k (qn - k)) k2 = nI 47)), .int (zI (0 < qn - k))], aI G aq 100 (drF qF k (qn - k))] := hD
                      refine lv_iinc (v := (nI (k2 + 1))) (lv' := [(2, .int (nI (k2 + 1))), (1, .int (nI k)), (0, .ref x)]) hF.1 hF.2.1 dX8_takeName_133 hl (k := 0) rfl (nI_inc1 _) (by decide) rfl (fun ls hl => ?_)
                      refine lv_goto (tgt := 98) hF.1 hF.2.1 dX8_takeName_136 (by decide) ?_
                      exact ih_98 (k2 + 1) (P ∧ (drF qF k (qn - k)) k2 = nI 47) (by omega) (by omega) (by rw [hPq]; exact all47) H locs ls hP hD hS (lv_sub hl [0, 1, 2] rfl)
                    · refine lv_iconst (v := (nI 1)) hF.1 hF.2.1 dX8_takeName_125 (by decide) ?_
                      refine lv_goto (tgt := 130) hF.1 hF.2.1 dX8_takeName_126 (by decide) ?_
                      refine kTop (y := zI (P ∧ (drF qF k (qn - k)) k2 = nI 47)) (first_z (by first | exact Or.inl ⟨rfl, by first | omega | exact ⟨by assumption, by assumption⟩⟩ | exact Or.inr ⟨rfl, by first | omega | exact fun h => absurd h.1 (by assumption) | exact fun h => absurd h.2 (by assumption)⟩)) ?_
                      refine kPut (C := RX8) (T := TX8) (N := 29) (index := 105) (v := .int (zI (P ∧ (drF qF k (qn - k)) k2 = nI 47))) hF hK hP hD hS (inT inBX8) tyX8_ok nmX8 0 rfl rfl 27 (by decide) rfl (List.mem_cons_of_mem _ mF_X8_105) rfl (zI_nar _) (zI_fit _) (Nat.le_of_ble_eq_true rfl) dX8_takeName_130 (fun H locs hP hD hS => ?_)
                      have hP : PG G [oC x 8 [.ref ak, .ref am, .ref ao, .ref av, .ref ap, .ref ax, .ref ay, .int (nI ec), .ref ad, .ref an, .ref ab, .int (nI vn), .ref ar, .ref ac, .int us, .int ro, .int pr, .ref at_, .int (nI tn), .ref as_, .int (nI sn), .ref aq, .int (nI (qn - k)), .int wa, .int (nI hp), .long z, .int (nI k), .int (zI (P ∧ (drF qF k (qn - k)) k2 = nI 47)), .int (zI (0 < qn - k))], aI G aq 100 (drF qF k (qn - k))] H := hP
                      have hD : va_D A [oC x 8 [.ref ak, .ref am, .ref ao, .ref av, .ref ap, .ref ax, .ref ay, .int (nI ec), .ref ad, .ref an, .ref ab, .int (nI vn), .ref ar, .ref ac, .int us, .int ro, .int pr, .ref at_, .int (nI tn), .ref as_, .int (nI sn), .ref aq, .int (nI (qn - k)), .int wa, .int (nI hp), .long z, .int (nI k), .int (zI (P ∧ (drF qF k (qn - k)) k2 = nI 47)), .int (zI (0 < qn - k))], aI G aq 100 (drF qF k (qn - k))] := hD
                      refine lv_iinc (v := (nI (k2 + 1))) (lv' := [(2, .int (nI (k2 + 1))), (1, .int (nI k)), (0, .ref x)]) hF.1 hF.2.1 dX8_takeName_133 hl (k := 0) rfl (nI_inc1 _) (by decide) rfl (fun ls hl => ?_)
                      refine lv_goto (tgt := 98) hF.1 hF.2.1 dX8_takeName_136 (by decide) ?_
                      exact ih_98 (k2 + 1) (P ∧ (drF qF k (qn - k)) k2 = nI 47) (by omega) (by omega) (by rw [hPq]; exact all47) H locs ls hP hD hS (lv_sub hl [0, 1, 2] rfl)
            exact loop_98 _ 0 True (Nat.lt_succ_self _) (by omega) (⟨fun _ => ⟨trivial, fun i hi => by omega⟩, fun _ => trivial⟩) _ _ _ hP hD hS (lv_sub hl [0, 1, 2] rfl)
        · have hx3 : ¬ qF k = nI 47 := c_10
          have hlt : k < scan (noS qF) qn 0 := by rw [← hR, scan_t (p := noS qF) (n := qn) (by omega) (by simp [hx3])]; exact Nat.lt_of_lt_of_le (Nat.lt_succ_self k) (scan_le _ _).1
          refine lv_aload_n hF.1 hF.2.1 dX8_takeName_26 rfl (lv_at hl 1 rfl) ?_
          refine lv_iload_n hF.1 hF.2.1 dX8_takeName_27 rfl (lv_at hl 0 rfl) ?_
          refine lv_bipush (v := (nI 6)) hF.1 hF.2.1 dX8_takeName_28 (by decide) ?_
          refine kGeN (tgt := 52) hF dX8_takeName_30 (by decide) (by omega) (by omega) (fun c_19 => ?_) (fun c_19 => ?_)
          · refine lv_aload_n hF.1 hF.2.1 dX8_takeName_52 rfl (lv_at hl 1 rfl) ?_
            refine kGet (C := RX8) (T := TX8) (N := 29) (index := 92) hF hK hP (inT inBX8) 0 rfl rfl 25 (by decide) rfl (List.mem_cons_of_mem _ mF_X8_92) rfl dX8_takeName_53 ?_
            refine kPut (C := RX8) (T := TX8) (N := 29) (index := 92) (v := .long z) hF hK hP hD hS (inT inBX8) tyX8_ok nmX8 0 rfl rfl 25 (by decide) rfl (List.mem_cons_of_mem _ mF_X8_92) rfl rfl rfl (Nat.le_of_ble_eq_true rfl) dX8_takeName_56 (fun H locs hP hD hS => ?_)
            have hP : PG G [oC x 8 [.ref ak, .ref am, .ref ao, .ref av, .ref ap, .ref ax, .ref ay, .int (nI ec), .ref ad, .ref an, .ref ab, .int (nI vn), .ref ar, .ref ac, .int us, .int ro, .int pr, .ref at_, .int (nI tn), .ref as_, .int (nI sn), .ref aq, .int (nI qn), .int wa, .int (nI hp), .long z, .int (nI ns), .int (zI la), .int (zI sl)], aI G aq 100 qF] H := hP
            have hD : va_D A [oC x 8 [.ref ak, .ref am, .ref ao, .ref av, .ref ap, .ref ax, .ref ay, .int (nI ec), .ref ad, .ref an, .ref ab, .int (nI vn), .ref ar, .ref ac, .int us, .int ro, .int pr, .ref at_, .int (nI tn), .ref as_, .int (nI sn), .ref aq, .int (nI qn), .int wa, .int (nI hp), .long z, .int (nI ns), .int (zI la), .int (zI sl)], aI G aq 100 qF] := hD
            refine lv_iinc (v := (nI (k + 1))) (lv' := [(1, .int (nI (k + 1))), (0, .ref x)]) hF.1 hF.2.1 dX8_takeName_59 hl (k := 0) rfl (nI_inc1 _) (by decide) rfl (fun ls hl => ?_)
            refine lv_goto (tgt := 7) hF.1 hF.2.1 dX8_takeName_62 (by decide) ?_
            exact ih_7 (k + 1) z (by omega) (by omega) (by rw [← hR]; exact (scan_t (by omega) (by simp [hx3])).symm) (by rw [← hN]; first | exact (nmR_s hlt (by omega)).symm | exact (nmR_t hlt (by omega)).symm) H locs ls hP hD hS (lv_sub hl [0, 1] rfl)
          · refine lv_aload_n hF.1 hF.2.1 dX8_takeName_33 rfl (lv_at hl 1 rfl) ?_
            refine kGet (C := RX8) (T := TX8) (N := 29) (index := 92) hF hK hP (inT inBX8) 0 rfl rfl 25 (by decide) rfl (List.mem_cons_of_mem _ mF_X8_92) rfl dX8_takeName_34 ?_
            refine lv_ldc2 (v := lN 128) hF.1 hF.2.1 hF.2.2.2.1 (hF.2.2.2.2 _ (List.mem_cons_of_mem _ mG_X8_96)) dX8_takeName_37 ?_
            refine lv_lmul hF.1 hF.2.1 dX8_takeName_40 ?_
            refine lv_aload_n hF.1 hF.2.1 dX8_takeName_41 rfl (lv_at hl 1 rfl) ?_
            refine kGet (C := RX8) (T := TX8) (N := 29) (index := 57) hF hK hP (inT inBX8) 0 rfl rfl 21 (by decide) rfl (List.mem_cons_of_mem _ mF_X8_57) rfl dX8_takeName_42 ?_
            refine lv_iload_n hF.1 hF.2.1 dX8_takeName_45 rfl (lv_at hl 0 rfl) ?_
            refine kIaldN hF hK hP 1 rfl (by omega) (by decide) dX8_takeName_46 ?_
            refine lv_i2l hF.1 hF.2.1 dX8_takeName_47 rfl ?_
            refine lv_ladd hF.1 hF.2.1 dX8_takeName_48 ?_
            refine lv_goto (tgt := 56) hF.1 hF.2.1 dX8_takeName_49 (by decide) ?_
            refine kPut (C := RX8) (T := TX8) (N := 29) (index := 92) (v := .long ((z * (lN 128)) + ((qF k).toInt64))) hF hK hP hD hS (inT inBX8) tyX8_ok nmX8 0 rfl rfl 25 (by decide) rfl (List.mem_cons_of_mem _ mF_X8_92) rfl rfl rfl (Nat.le_of_ble_eq_true rfl) dX8_takeName_56 (fun H locs hP hD hS => ?_)
            have hP : PG G [oC x 8 [.ref ak, .ref am, .ref ao, .ref av, .ref ap, .ref ax, .ref ay, .int (nI ec), .ref ad, .ref an, .ref ab, .int (nI vn), .ref ar, .ref ac, .int us, .int ro, .int pr, .ref at_, .int (nI tn), .ref as_, .int (nI sn), .ref aq, .int (nI qn), .int wa, .int (nI hp), .long ((z * (lN 128)) + ((qF k).toInt64)), .int (nI ns), .int (zI la), .int (zI sl)], aI G aq 100 qF] H := hP
            have hD : va_D A [oC x 8 [.ref ak, .ref am, .ref ao, .ref av, .ref ap, .ref ax, .ref ay, .int (nI ec), .ref ad, .ref an, .ref ab, .int (nI vn), .ref ar, .ref ac, .int us, .int ro, .int pr, .ref at_, .int (nI tn), .ref as_, .int (nI sn), .ref aq, .int (nI qn), .int wa, .int (nI hp), .long ((z * (lN 128)) + ((qF k).toInt64)), .int (nI ns), .int (zI la), .int (zI sl)], aI G aq 100 qF] := hD
            refine lv_iinc (v := (nI (k + 1))) (lv' := [(1, .int (nI (k + 1))), (0, .ref x)]) hF.1 hF.2.1 dX8_takeName_59 hl (k := 0) rfl (nI_inc1 _) (by decide) rfl (fun ls hl => ?_)
            refine lv_goto (tgt := 7) hF.1 hF.2.1 dX8_takeName_62 (by decide) ?_
            exact ih_7 (k + 1) ((z * (lN 128)) + ((qF k).toInt64)) (by omega) (by omega) (by rw [← hR]; exact (scan_t (by omega) (by simp [hx3])).symm) (by rw [← hN]; first | exact (nmR_s hlt (by omega)).symm | exact (nmR_t hlt (by omega)).symm) H locs ls hP hD hS (lv_sub hl [0, 1] rfl)
  exact loop_7 _ 0 (lN 0) (Nat.lt_succ_self _) (by omega) (rfl) (rfl) _ _ _ hP hD hS (lv_sub hl [0, 1] rfl)
set_option maxHeartbeats 4000000 in
set_option maxRecDepth 100000 in
theorem c_X8_putBefore (l : Launch) (G : GG) (sz : Nat) (x : Nat) (ak : Nat) (am : Nat) (ao : Nat) (av : Nat) (ap : Nat) (ax : Nat) (ay : Nat) (ad : Nat) (an : Nat) (ab : Nat) (ar : Nat) (ac : Nat) (at_ : Nat) (as_ : Nat) (aq : Nat) (ec : Nat) (vn : Nat) (tn : Nat) (sn : Nat) (qn : Nat) (hp : Nat) (ns : Nat) (us : Int32) (ro : Int32) (pr : Int32) (wa : Int32) (nm : Int64) (la : Prop) (sl : Prop) (xF : Nat → Int32) (LN : Nat → Nat) (qF : Nat → Int32) (l0 : Int32) (hqn : qn ≤ 60) (hl0 : vp_in l0 40) (hll : LN (ix l0) ≤ 40) : CtV l G yX8_putBefore wsX8_putBefore 0 0 0 0 sz [.ref x, .int l0] [oC x 8 [.ref ak, .ref am, .ref ao, .ref av, .ref ap, .ref ax, .ref ay, .int (nI ec), .ref ad, .ref an, .ref ab, .int (nI vn), .ref ar, .ref ac, .int us, .int ro, .int pr, .ref at_, .int (nI tn), .ref as_, .int (nI sn), .ref aq, .int (nI qn), .int wa, .int (nI hp), .long nm, .int (nI ns), .int (zI la), .int (zI sl)], aI G ax 1600 xF, aI G ay 40 (fun lv => nI (LN lv)), aI G aq 100 qF] (fun (_ : Unit) => True) (fun (_ : Unit) => [oC x 8 [.ref ak, .ref am, .ref ao, .ref av, .ref ap, .ref ax, .ref ay, .int (nI ec), .ref ad, .ref an, .ref ab, .int (nI vn), .ref ar, .ref ac, .int us, .int ro, .int pr, .ref at_, .int (nI tn), .ref as_, .int (nI sn), .ref aq, .int (nI (qn + LN (ix l0))), .int wa, .int (nI hp), .long nm, .int (nI ns), .int (zI la), .int (zI sl)], aI G ax 1600 xF, aI G ay 40 (fun lv => nI (LN lv)), aI G aq 100 (va_cpy xF (shu qF (LN (ix l0)) 0 qn) (40 * ix l0) 0 (LN (ix l0)))]) := by
  refine kMet (Qc := fun A => va_Qv _ (Bw G A _) A) (cc := cX8_putBefore) (nL := 4) (ret := none) (by decide) rfl (Nat.le_of_ble_eq_true rfl) ?_
  intro p e s m args below meth c A Q hF hr hlk hnme hK hP hD hA hS hQ hsz ls hl
  have hl : lv_has ls 4 [(0, .ref x), (1, .int l0)] := hl
  refine lv_aload_n hF.1 hF.2.1 dX8_putBefore_0 rfl (lv_at hl 0 rfl) ?_
  refine kGet (C := RX8) (T := TX8) (N := 29) (index := 28) hF hK hP (inT inBX8) 0 rfl rfl 6 (by decide) rfl (List.mem_cons_of_mem _ mF_X8_28) rfl dX8_putBefore_1 ?_
  refine lv_iload_n hF.1 hF.2.1 dX8_putBefore_4 rfl (lv_at hl 1 rfl) ?_
  refine kIald hF hK hP 2 rfl (by assumption) dX8_putBefore_5 ?_
  refine kTop (y := nI (LN (ix l0))) rfl ?_
  have hix := vp_ix hl0
  refine lv_istore_n (lv' := [(2, .int (nI (LN (ix l0)))), (0, .ref x), (1, .int l0)]) hF.1 hF.2.1 dX8_putBefore_6 rfl hl (by decide) rfl (fun ls hl => ?_)
  refine lv_aload_n hF.1 hF.2.1 dX8_putBefore_7 rfl (lv_at hl 1 rfl) ?_
  refine kGet (C := RX8) (T := TX8) (N := 29) (index := 85) hF hK hP (inT inBX8) 0 rfl rfl 22 (by decide) rfl (List.mem_cons_of_mem _ mF_X8_85) rfl dX8_putBefore_8 ?_
  refine lv_iconst (v := (nI 1)) hF.1 hF.2.1 dX8_putBefore_11 (by decide) ?_
  refine lv_isub hF.1 hF.2.1 dX8_putBefore_12 ?_
  refine lv_istore_n (lv' := [(3, .int ((nI qn) - (nI 1))), (2, .int (nI (LN (ix l0)))), (0, .ref x), (1, .int l0)]) hF.1 hF.2.1 dX8_putBefore_13 rfl hl (by decide) rfl (fun ls hl => ?_)
  have loop_14 : ∀ (n_14 : Nat) (i : Nat) (q1 : Nat → Int32), i < n_14 → (i ≤ qn) → (q1 = shu qF (LN (ix l0)) i qn) → ∀ (H : Heap) (locs : List Loc) (ls : Array Slot), PG G [oC x 8 [.ref ak, .ref am, .ref ao, .ref av, .ref ap, .ref ax, .ref ay, .int (nI ec), .ref ad, .ref an, .ref ab, .int (nI vn), .ref ar, .ref ac, .int us, .int ro, .int pr, .ref at_, .int (nI tn), .ref as_, .int (nI sn), .ref aq, .int (nI qn), .int wa, .int (nI hp), .long nm, .int (nI ns), .int (zI la), .int (zI sl)], aI G ax 1600 xF, aI G ay 40 (fun lv => nI (LN lv)), aI G aq 100 q1] H → va_D A [oC x 8 [.ref ak, .ref am, .ref ao, .ref av, .ref ap, .ref ax, .ref ay, .int (nI ec), .ref ad, .ref an, .ref ab, .int (nI vn), .ref ar, .ref ac, .int us, .int ro, .int pr, .ref at_, .int (nI tn), .ref as_, .int (nI sn), .ref aq, .int (nI qn), .int wa, .int (nI hp), .long nm, .int (nI ns), .int (zI la), .int (zI sl)], aI G ax 1600 xF, aI G ay 40 (fun lv => nI (LN lv)), aI G aq 100 q1] → va_S A s.heap H locs → lv_has ls 4 [(3, .int ((nI i) - (nI 1))), (2, .int (nI (LN (ix l0)))), (0, .ref x), (1, .int l0)] → W p l e (Rm 0 0 0 0) s m args below meth c H locs 0 0 Q (F0 m 14 ls []) := by
    intro n_14
    induction n_14 with
    | zero => intro i q1 hm; exact absurd hm (Nat.not_lt_zero _)
    | succ n_14 ih_14 =>
      intro i q1 hm_14 hi hq1 H locs ls hP hD hS hl
      refine lv_iload_n hF.1 hF.2.1 dX8_putBefore_14 rfl (lv_at hl 0 rfl) ?_
      refine lv_if_lt (tgt := 38) hF.1 hF.2.1 dX8_putBefore_15 (by decide) (fun c_1 => ?_) (fun c_1 => ?_)
      · have c_1 := (nI_m1lt (by omega)).1 c_1
        refine lv_iconst (v := (nI 0)) hF.1 hF.2.1 dX8_putBefore_38 (by decide) ?_
        refine lv_istore_n (lv' := [(3, .int (nI 0)), (2, .int (nI (LN (ix l0)))), (0, .ref x), (1, .int l0)]) hF.1 hF.2.1 dX8_putBefore_39 rfl hl (by decide) rfl (fun ls hl => ?_)
        have loop_40 : ∀ (n_40 : Nat) (k : Nat) (q2 : Nat → Int32), LN (ix l0) - k < n_40 → (k ≤ LN (ix l0)) → (q2 = va_cpy xF (shu qF (LN (ix l0)) 0 qn) (40 * ix l0) 0 k) → ∀ (H : Heap) (locs : List Loc) (ls : Array Slot), PG G [oC x 8 [.ref ak, .ref am, .ref ao, .ref av, .ref ap, .ref ax, .ref ay, .int (nI ec), .ref ad, .ref an, .ref ab, .int (nI vn), .ref ar, .ref ac, .int us, .int ro, .int pr, .ref at_, .int (nI tn), .ref as_, .int (nI sn), .ref aq, .int (nI qn), .int wa, .int (nI hp), .long nm, .int (nI ns), .int (zI la), .int (zI sl)], aI G ax 1600 xF, aI G ay 40 (fun lv => nI (LN lv)), aI G aq 100 q2] H → va_D A [oC x 8 [.ref ak, .ref am, .ref ao, .ref av, .ref ap, .ref ax, .ref ay, .int (nI ec), .ref ad, .ref an, .ref ab, .int (nI vn), .ref ar, .ref ac, .int us, .int ro, .int pr, .ref at_, .int (nI tn), .ref as_, .int (nI sn), .ref aq, .int (nI qn), .int wa, .int (nI hp), .long nm, .int (nI ns), .int (zI la), .int (zI sl)], aI G ax 1600 xF, aI G ay 40 (fun lv => nI (LN lv)), aI G aq 100 q2] → va_S A s.heap H locs → lv_has ls 4 [(3, .int (nI k)), (2, .int (nI (LN (ix l0)))), (0, .ref x), (1, .int l0)] → W p l e (Rm 0 0 0 0) s m args below meth c H locs 0 0 Q (F0 m 40 ls []) := by
          intro n_40
          induction n_40 with
          | zero => intro k q2 hm; exact absurd hm (Nat.not_lt_zero _)
          | succ n_40 ih_40 =>
            intro k q2 hm_40 hk hq2 H locs ls hP hD hS hl
            refine lv_iload_n hF.1 hF.2.1 dX8_putBefore_40 rfl (lv_at hl 0 rfl) ?_
            refine lv_iload_n hF.1 hF.2.1 dX8_putBefore_41 rfl (lv_at hl 1 rfl) ?_
            refine kGeN (tgt := 68) hF dX8_putBefore_42 (by decide) (by omega) (by omega) (fun c_2 => ?_) (fun c_2 => ?_)
            · rw [hq2, show k = LN (ix l0) by omega] at hP hD
              refine lv_aload_n hF.1 hF.2.1 dX8_putBefore_68 rfl (lv_at hl 2 rfl) ?_
              refine lv_aload_n hF.1 hF.2.1 dX8_putBefore_69 rfl (lv_at hl 2 rfl) ?_
              refine kGet (C := RX8) (T := TX8) (N := 29) (index := 85) hF hK hP (inT inBX8) 0 rfl rfl 22 (by decide) rfl (List.mem_cons_of_mem _ mF_X8_85) rfl dX8_putBefore_70 ?_
              refine lv_iload_n hF.1 hF.2.1 dX8_putBefore_73 rfl (lv_at hl 1 rfl) ?_
              refine lv_iadd hF.1 hF.2.1 dX8_putBefore_74 ?_
              refine kTop (y := (nI (qn + (LN (ix l0))))) (nI_add _ _) ?_
              refine kPut (C := RX8) (T := TX8) (N := 29) (index := 85) (v := .int (nI (qn + (LN (ix l0))))) hF hK hP hD hS (inT inBX8) tyX8_ok nmX8 0 rfl rfl 22 (by decide) rfl (List.mem_cons_of_mem _ mF_X8_85) rfl rfl rfl (Nat.le_of_ble_eq_true rfl) dX8_putBefore_75 (fun H locs hP hD hS => ?_)
              have hP : PG G [oC x 8 [.ref ak, .ref am, .ref ao, .ref av, .ref ap, .ref ax, .ref ay, .int (nI ec), .ref ad, .ref an, .ref ab, .int (nI vn), .ref ar, .ref ac, .int us, .int ro, .int pr, .ref at_, .int (nI tn), .ref as_, .int (nI sn), .ref aq, .int (nI (qn + (LN (ix l0)))), .int wa, .int (nI hp), .long nm, .int (nI ns), .int (zI la), .int (zI sl)], aI G ax 1600 xF, aI G ay 40 (fun lv => nI (LN lv)), aI G aq 100 (va_cpy xF (shu qF (LN (ix l0)) 0 qn) (40 * ix l0) 0 (LN (ix l0)))] H := hP
              have hD : va_D A [oC x 8 [.ref ak, .ref am, .ref ao, .ref av, .ref ap, .ref ax, .ref ay, .int (nI ec), .ref ad, .ref an, .ref ab, .int (nI vn), .ref ar, .ref ac, .int us, .int ro, .int pr, .ref at_, .int (nI tn), .ref as_, .int (nI sn), .ref aq, .int (nI (qn + (LN (ix l0)))), .int wa, .int (nI hp), .long nm, .int (nI ns), .int (zI la), .int (zI sl)], aI G ax 1600 xF, aI G ay 40 (fun lv => nI (LN lv)), aI G aq 100 (va_cpy xF (shu qF (LN (ix l0)) 0 qn) (40 * ix l0) 0 (LN (ix l0)))] := hD
              refine kRetV hF hr hlk hK hP hD hS hQ () [0, 1, 2, 3] (by decide) rfl (Nat.le_of_ble_eq_true rfl) (Nat.le_of_ble_eq_true rfl) dX8_putBefore_78 ?_
              trivial
            · refine lv_aload_n hF.1 hF.2.1 dX8_putBefore_45 rfl (lv_at hl 2 rfl) ?_
              refine kGet (C := RX8) (T := TX8) (N := 29) (index := 57) hF hK hP (inT inBX8) 0 rfl rfl 21 (by decide) rfl (List.mem_cons_of_mem _ mF_X8_57) rfl dX8_putBefore_46 ?_
              refine lv_iload_n hF.1 hF.2.1 dX8_putBefore_49 rfl (lv_at hl 0 rfl) ?_
              refine lv_aload_n hF.1 hF.2.1 dX8_putBefore_50 rfl (lv_at hl 2 rfl) ?_
              refine kGet (C := RX8) (T := TX8) (N := 29) (index := 25) hF hK hP (inT inBX8) 0 rfl rfl 5 (by decide) rfl (List.mem_cons_of_mem _ mF_X8_25) rfl dX8_putBefore_51 ?_
              refine lv_bipush (v := (nI 40)) hF.1 hF.2.1 dX8_putBefore_54 (by decide) ?_
              refine lv_iload_n hF.1 hF.2.1 dX8_putBefore_56 rfl (lv_at hl 3 rfl) ?_
              refine lv_imul hF.1 hF.2.1 dX8_putBefore_57 ?_
              refine kTop (y := nI (40 * ix l0)) (mul40 hl0) ?_
              refine lv_iload_n hF.1 hF.2.1 dX8_putBefore_58 rfl (lv_at hl 0 rfl) ?_
              refine lv_iadd hF.1 hF.2.1 dX8_putBefore_59 ?_
              refine kTop (y := (nI ((40 * ix l0) + k))) (nI_add _ _) ?_
              refine kIaldN hF hK hP 1 rfl (by omega) (by decide) dX8_putBefore_60 ?_
              refine kIastN hF hK hP hD hS 3 rfl (by omega) (by decide) dX8_putBefore_61 (fun H locs hP hD hS => ?_)
              have hP : PG G [oC x 8 [.ref ak, .ref am, .ref ao, .ref av, .ref ap, .ref ax, .ref ay, .int (nI ec), .ref ad, .ref an, .ref ab, .int (nI vn), .ref ar, .ref ac, .int us, .int ro, .int pr, .ref at_, .int (nI tn), .ref as_, .int (nI sn), .ref aq, .int (nI qn), .int wa, .int (nI hp), .long nm, .int (nI ns), .int (zI la), .int (zI sl)], aI G ax 1600 xF, aI G ay 40 (fun lv => nI (LN lv)), aI G aq 100 (upd q2 k (xF ((40 * ix l0) + k)))] H := hP
              have hD : va_D A [oC x 8 [.ref ak, .ref am, .ref ao, .ref av, .ref ap, .ref ax, .ref ay, .int (nI ec), .ref ad, .ref an, .ref ab, .int (nI vn), .ref ar, .ref ac, .int us, .int ro, .int pr, .ref at_, .int (nI tn), .ref as_, .int (nI sn), .ref aq, .int (nI qn), .int wa, .int (nI hp), .long nm, .int (nI ns), .int (zI la), .int (zI sl)], aI G ax 1600 xF, aI G ay 40 (fun lv => nI (LN lv)), aI G aq 100 (upd q2 k (xF ((40 * ix l0) + k)))] := hD
              refine lv_iinc (v := (nI (k + 1))) (lv' := [(3, .int (nI (k + 1))), (2, .int (nI (LN (ix l0)))), (0, .ref x), (1, .int l0)]) hF.1 hF.2.1 dX8_putBefore_62 hl (k := 0) rfl (nI_inc1 _) (by decide) rfl (fun ls hl => ?_)
              refine lv_goto (tgt := 40) hF.1 hF.2.1 dX8_putBefore_65 (by decide) ?_
              exact ih_40 (k + 1) (upd q2 k (xF ((40 * ix l0) + k))) (by omega) (by omega) (by rw [hq2]; exact cpy_a) H locs ls hP hD hS (lv_sub hl [0, 1, 2, 3] rfl)
        exact loop_40 _ 0 q1 (Nat.lt_succ_self _) (by omega) (by rw [cpy_n, hq1, show i = 0 by omega]) _ _ _ hP hD hS (lv_sub hl [0, 1, 2, 3] rfl)
      · have c_1 : ¬ i = 0 := fun h => c_1 ((nI_m1lt (by omega)).2 h)
        rw [pk_sub (by omega)] at hl
        refine lv_aload_n hF.1 hF.2.1 dX8_putBefore_18 rfl (lv_at hl 2 rfl) ?_
        refine kGet (C := RX8) (T := TX8) (N := 29) (index := 57) hF hK hP (inT inBX8) 0 rfl rfl 21 (by decide) rfl (List.mem_cons_of_mem _ mF_X8_57) rfl dX8_putBefore_19 ?_
        refine lv_iload_n hF.1 hF.2.1 dX8_putBefore_22 rfl (lv_at hl 0 rfl) ?_
        refine lv_iload_n hF.1 hF.2.1 dX8_putBefore_23 rfl (lv_at hl 1 rfl) ?_
        refine lv_iadd hF.1 hF.2.1 dX8_putBefore_24 ?_
        refine kTop (y := (nI ((i - 1) + (LN (ix l0))))) (nI_add _ _) ?_
        refine lv_aload_n hF.1 hF.2.1 dX8_putBefore_25 rfl (lv_at hl 2 rfl) ?_
        refine kGet (C := RX8) (T := TX8) (N := 29) (index := 57) hF hK hP (inT inBX8) 0 rfl rfl 21 (by decide) rfl (List.mem_cons_of_mem _ mF_X8_57) rfl dX8_putBefore_26 ?_
        refine lv_iload_n hF.1 hF.2.1 dX8_putBefore_29 rfl (lv_at hl 0 rfl) ?_
        refine kIaldN hF hK hP 3 rfl (by omega) (by decide) dX8_putBefore_30 ?_
        refine kIastN hF hK hP hD hS 3 rfl (by omega) (by decide) dX8_putBefore_31 (fun H locs hP hD hS => ?_)
        have hP : PG G [oC x 8 [.ref ak, .ref am, .ref ao, .ref av, .ref ap, .ref ax, .ref ay, .int (nI ec), .ref ad, .ref an, .ref ab, .int (nI vn), .ref ar, .ref ac, .int us, .int ro, .int pr, .ref at_, .int (nI tn), .ref as_, .int (nI sn), .ref aq, .int (nI qn), .int wa, .int (nI hp), .long nm, .int (nI ns), .int (zI la), .int (zI sl)], aI G ax 1600 xF, aI G ay 40 (fun lv => nI (LN lv)), aI G aq 100 (upd q1 ((i - 1) + (LN (ix l0))) (q1 (i - 1)))] H := hP
        have hD : va_D A [oC x 8 [.ref ak, .ref am, .ref ao, .ref av, .ref ap, .ref ax, .ref ay, .int (nI ec), .ref ad, .ref an, .ref ab, .int (nI vn), .ref ar, .ref ac, .int us, .int ro, .int pr, .ref at_, .int (nI tn), .ref as_, .int (nI sn), .ref aq, .int (nI qn), .int wa, .int (nI hp), .long nm, .int (nI ns), .int (zI la), .int (zI sl)], aI G ax 1600 xF, aI G ay 40 (fun lv => nI (LN lv)), aI G aq 100 (upd q1 ((i - 1) + (LN (ix l0))) (q1 (i - 1)))] := hD
        refine lv_iinc (v := ((nI (i - 1)) - (nI 1))) (lv' := [(3, .int ((nI (i - 1)) - (nI 1))), (2, .int (nI (LN (ix l0)))), (0, .ref x), (1, .int l0)]) hF.1 hF.2.1 dX8_putBefore_32 hl (k := 0) rfl (nI_m1s _) (by decide) rfl (fun ls hl => ?_)
        refine lv_goto (tgt := 14) hF.1 hF.2.1 dX8_putBefore_35 (by decide) ?_
        exact ih_14 (i - 1) (upd q1 ((i - 1) + (LN (ix l0))) (q1 (i - 1))) (by omega) (by omega) (by rw [hq1]; exact shu_s (by omega) (by omega)) H locs ls hP hD hS (lv_sub hl [0, 1, 2, 3] rfl)
  exact loop_14 _ qn qF (Nat.lt_succ_self _) (by omega) (shu_0.symm) _ _ _ hP hD hS (lv_sub hl [0, 1, 2, 3] rfl)
set_option maxHeartbeats 4000000 in
set_option maxRecDepth 100000 in
theorem c_X8_begin0 (l : Launch) (G : GG) (sz : Nat) (x : Nat) (ak : Nat) (am : Nat) (ao : Nat) (av : Nat) (ap : Nat) (ax : Nat) (ay : Nat) (ad : Nat) (an : Nat) (ab : Nat) (ar : Nat) (ac : Nat) (at_ : Nat) (as_ : Nat) (aq : Nat) (ec : Nat) (vn : Nat) (tn : Nat) (sn : Nat) (qn : Nat) (hp : Nat) (ns : Nat) (us : Int32) (ro : Int32) (pr : Int32) (wa : Int32) (nm : Int64) (la : Prop) (sl : Prop) (tF : Nat → Int32) (qF : Nat → Int32) (hn : tn ≤ 40) : CtV l G yX8_begin wsX8_begin 0 0 0 0 sz [.ref x, .int (nI 0)] [oC x 8 [.ref ak, .ref am, .ref ao, .ref av, .ref ap, .ref ax, .ref ay, .int (nI ec), .ref ad, .ref an, .ref ab, .int (nI vn), .ref ar, .ref ac, .int us, .int ro, .int pr, .ref at_, .int (nI tn), .ref as_, .int (nI sn), .ref aq, .int (nI qn), .int wa, .int (nI hp), .long nm, .int (nI ns), .int (zI la), .int (zI sl)], aI G at_ 40 tF, aI G aq 100 qF] (fun (_ : Unit) => True) (fun (_ : Unit) => [oC x 8 [.ref ak, .ref am, .ref ao, .ref av, .ref ap, .ref ax, .ref ay, .int (nI ec), .ref ad, .ref an, .ref ab, .int (nI vn), .ref ar, .ref ac, .int us, .int ro, .int pr, .ref at_, .int (nI tn), .ref as_, .int (nI sn), .ref aq, .int (nI tn), .int (bgR tF tn ro pr), .int (nI 0), .long nm, .int (nI ns), .int (zI la), .int (zI sl)], aI G at_ 40 tF, aI G aq 100 (va_cpy tF qF 0 0 tn)]) := by
  refine kMet (Qc := fun A => va_Qv _ (Bw G A _) A) (cc := cX8_begin) (nL := 3) (ret := none) (by decide) rfl (Nat.le_of_ble_eq_true rfl) ?_
  intro p e s m args below meth c A Q hF hr hlk hnme hK hP hD hA hS hQ hsz ls hl
  have hl : lv_has ls 3 [(0, .ref x), (1, .int (nI 0))] := hl
  refine lv_aload_n hF.1 hF.2.1 dX8_begin_0 rfl (lv_at hl 0 rfl) ?_
  refine lv_iload_n hF.1 hF.2.1 dX8_begin_1 rfl (lv_at hl 1 rfl) ?_
  refine kIfEqN (tgt := 12) hF dX8_begin_2 (by decide) (by omega) (fun _ => ?_) (fun c => absurd c (by decide))
  refine lv_aload_n hF.1 hF.2.1 dX8_begin_12 rfl (lv_at hl 0 rfl) ?_
  refine kGet (C := RX8) (T := TX8) (N := 29) (index := 60) hF hK hP (inT inBX8) 0 rfl rfl 18 (by decide) rfl (List.mem_cons_of_mem _ mF_X8_60) rfl dX8_begin_13 ?_
  refine kPut (C := RX8) (T := TX8) (N := 29) (index := 85) (v := .int (nI tn)) hF hK hP hD hS (inT inBX8) tyX8_ok nmX8 0 rfl rfl 22 (by decide) rfl (List.mem_cons_of_mem _ mF_X8_85) rfl rfl rfl (Nat.le_of_ble_eq_true rfl) dX8_begin_16 (fun H locs hP hD hS => ?_)
  have hP : PG G [oC x 8 [.ref ak, .ref am, .ref ao, .ref av, .ref ap, .ref ax, .ref ay, .int (nI ec), .ref ad, .ref an, .ref ab, .int (nI vn), .ref ar, .ref ac, .int us, .int ro, .int pr, .ref at_, .int (nI tn), .ref as_, .int (nI sn), .ref aq, .int (nI tn), .int wa, .int (nI hp), .long nm, .int (nI ns), .int (zI la), .int (zI sl)], aI G at_ 40 tF, aI G aq 100 qF] H := hP
  have hD : va_D A [oC x 8 [.ref ak, .ref am, .ref ao, .ref av, .ref ap, .ref ax, .ref ay, .int (nI ec), .ref ad, .ref an, .ref ab, .int (nI vn), .ref ar, .ref ac, .int us, .int ro, .int pr, .ref at_, .int (nI tn), .ref as_, .int (nI sn), .ref aq, .int (nI tn), .int wa, .int (nI hp), .long nm, .int (nI ns), .int (zI la), .int (zI sl)], aI G at_ 40 tF, aI G aq 100 qF] := hD
  refine lv_iconst (v := (nI 0)) hF.1 hF.2.1 dX8_begin_19 (by decide) ?_
  refine lv_istore_n (lv' := [(2, .int (nI 0)), (0, .ref x), (1, .int (nI 0))]) hF.1 hF.2.1 dX8_begin_20 rfl hl (by decide) rfl (fun ls hl => ?_)
  have loop_21 : ∀ (n_21 : Nat) (k : Nat) (q1 : Nat → Int32), tn - k < n_21 → (k ≤ tn) → (q1 = va_cpy tF qF 0 0 k) → ∀ (H : Heap) (locs : List Loc) (ls : Array Slot), PG G [oC x 8 [.ref ak, .ref am, .ref ao, .ref av, .ref ap, .ref ax, .ref ay, .int (nI ec), .ref ad, .ref an, .ref ab, .int (nI vn), .ref ar, .ref ac, .int us, .int ro, .int pr, .ref at_, .int (nI tn), .ref as_, .int (nI sn), .ref aq, .int (nI tn), .int wa, .int (nI hp), .long nm, .int (nI ns), .int (zI la), .int (zI sl)], aI G at_ 40 tF, aI G aq 100 q1] H → va_D A [oC x 8 [.ref ak, .ref am, .ref ao, .ref av, .ref ap, .ref ax, .ref ay, .int (nI ec), .ref ad, .ref an, .ref ab, .int (nI vn), .ref ar, .ref ac, .int us, .int ro, .int pr, .ref at_, .int (nI tn), .ref as_, .int (nI sn), .ref aq, .int (nI tn), .int wa, .int (nI hp), .long nm, .int (nI ns), .int (zI la), .int (zI sl)], aI G at_ 40 tF, aI G aq 100 q1] → va_S A s.heap H locs → lv_has ls 3 [(2, .int (nI k)), (0, .ref x), (1, .int (nI 0))] → W p l e (Rm 0 0 0 0) s m args below meth c H locs 0 0 Q (F0 m 21 ls []) := by
    intro n_21
    induction n_21 with
    | zero => intro k q1 hm; exact absurd hm (Nat.not_lt_zero _)
    | succ n_21 ih_21 =>
      intro k q1 hm_21 hk hq1 H locs ls hP hD hS hl
      refine lv_iload_n hF.1 hF.2.1 dX8_begin_21 rfl (lv_at hl 0 rfl) ?_
      refine lv_aload_n hF.1 hF.2.1 dX8_begin_22 rfl (lv_at hl 1 rfl) ?_
      refine kGet (C := RX8) (T := TX8) (N := 29) (index := 85) hF hK hP (inT inBX8) 0 rfl rfl 22 (by decide) rfl (List.mem_cons_of_mem _ mF_X8_85) rfl dX8_begin_23 ?_
      refine kGeN (tgt := 60) hF dX8_begin_26 (by decide) (by omega) (by omega) (fun c_1 => ?_) (fun c_1 => ?_)
      · rw [hq1, show k = tn by omega] at hP hD
        refine lv_aload_n hF.1 hF.2.1 dX8_begin_60 rfl (lv_at hl 1 rfl) ?_
        refine lv_aload_n hF.1 hF.2.1 dX8_begin_61 rfl (lv_at hl 1 rfl) ?_
        refine kGet (C := RX8) (T := TX8) (N := 29) (index := 85) hF hK hP (inT inBX8) 0 rfl rfl 22 (by decide) rfl (List.mem_cons_of_mem _ mF_X8_85) rfl dX8_begin_62 ?_
        refine kIfLeN (tgt := 86) hF dX8_begin_65 (by decide) (by omega) (fun c_2 => ?_) (fun c_2 => ?_)
        · have hA1 : bgR tF tn ro pr = pr := if_neg (fun h => by omega)
          refine lv_aload_n hF.1 hF.2.1 dX8_begin_86 rfl (lv_at hl 1 rfl) ?_
          refine kGet (C := RX8) (T := TX8) (N := 29) (index := 111) hF hK hP (inT inBX8) 0 rfl rfl 16 (by decide) rfl (List.mem_cons_of_mem _ mF_X8_111) rfl dX8_begin_87 ?_
          refine kTop (y := bgR tF tn ro pr) hA1.symm ?_
          refine kPut (C := RX8) (T := TX8) (N := 29) (index := 114) (v := .int (bgR tF tn ro pr)) hF hK hP hD hS (inT inBX8) tyX8_ok nmX8 0 rfl rfl 23 (by decide) rfl (List.mem_cons_of_mem _ mF_X8_114) rfl rfl rfl (Nat.le_of_ble_eq_true rfl) dX8_begin_90 (fun H locs hP hD hS => ?_)
          have hP : PG G [oC x 8 [.ref ak, .ref am, .ref ao, .ref av, .ref ap, .ref ax, .ref ay, .int (nI ec), .ref ad, .ref an, .ref ab, .int (nI vn), .ref ar, .ref ac, .int us, .int ro, .int pr, .ref at_, .int (nI tn), .ref as_, .int (nI sn), .ref aq, .int (nI tn), .int (bgR tF tn ro pr), .int (nI hp), .long nm, .int (nI ns), .int (zI la), .int (zI sl)], aI G at_ 40 tF, aI G aq 100 (va_cpy tF qF 0 0 tn)] H := hP
          have hD : va_D A [oC x 8 [.ref ak, .ref am, .ref ao, .ref av, .ref ap, .ref ax, .ref ay, .int (nI ec), .ref ad, .ref an, .ref ab, .int (nI vn), .ref ar, .ref ac, .int us, .int ro, .int pr, .ref at_, .int (nI tn), .ref as_, .int (nI sn), .ref aq, .int (nI tn), .int (bgR tF tn ro pr), .int (nI hp), .long nm, .int (nI ns), .int (zI la), .int (zI sl)], aI G at_ 40 tF, aI G aq 100 (va_cpy tF qF 0 0 tn)] := hD
          refine lv_aload_n hF.1 hF.2.1 dX8_begin_93 rfl (lv_at hl 1 rfl) ?_
          refine lv_iconst (v := (nI 0)) hF.1 hF.2.1 dX8_begin_94 (by decide) ?_
          refine kPut (C := RX8) (T := TX8) (N := 29) (index := 117) (v := .int (nI 0)) hF hK hP hD hS (inT inBX8) tyX8_ok nmX8 0 rfl rfl 24 (by decide) rfl (List.mem_cons_of_mem _ mF_X8_117) rfl rfl rfl (Nat.le_of_ble_eq_true rfl) dX8_begin_95 (fun H locs hP hD hS => ?_)
          have hP : PG G [oC x 8 [.ref ak, .ref am, .ref ao, .ref av, .ref ap, .ref ax, .ref ay, .int (nI ec), .ref ad, .ref an, .ref ab, .int (nI vn), .ref ar, .ref ac, .int us, .int ro, .int pr, .ref at_, .int (nI tn), .ref as_, .int (nI sn), .ref aq, .int (nI tn), .int (bgR tF tn ro pr), .int (nI 0), .long nm, .int (nI ns), .int (zI la), .int (zI sl)], aI G at_ 40 tF, aI G aq 100 (va_cpy tF qF 0 0 tn)] H := hP
          have hD : va_D A [oC x 8 [.ref ak, .ref am, .ref ao, .ref av, .ref ap, .ref ax, .ref ay, .int (nI ec), .ref ad, .ref an, .ref ab, .int (nI vn), .ref ar, .ref ac, .int us, .int ro, .int pr, .ref at_, .int (nI tn), .ref as_, .int (nI sn), .ref aq, .int (nI tn), .int (bgR tF tn ro pr), .int (nI 0), .long nm, .int (nI ns), .int (zI la), .int (zI sl)], aI G at_ 40 tF, aI G aq 100 (va_cpy tF qF 0 0 tn)] := hD
          refine kRetV hF hr hlk hK hP hD hS hQ () [0, 1, 2] (by decide) rfl (Nat.le_of_ble_eq_true rfl) (Nat.le_of_ble_eq_true rfl) dX8_begin_98 ?_
          trivial
        · refine lv_aload_n hF.1 hF.2.1 dX8_begin_68 rfl (lv_at hl 1 rfl) ?_
          refine kGet (C := RX8) (T := TX8) (N := 29) (index := 57) hF hK hP (inT inBX8) 0 rfl rfl 21 (by decide) rfl (List.mem_cons_of_mem _ mF_X8_57) rfl dX8_begin_69 ?_
          refine lv_iconst (v := (nI 0)) hF.1 hF.2.1 dX8_begin_72 (by decide) ?_
          refine kIaldN hF hK hP 2 rfl (by omega) (by decide) dX8_begin_73 ?_
          refine lv_bipush (v := (nI 47)) hF.1 hF.2.1 dX8_begin_74 (by decide) ?_
          refine lv_icmp_ne (tgt := 86) hF.1 hF.2.1 dX8_begin_76 (by decide) (fun c_3 => ?_) (fun c_3 => ?_)
          · have hA1 : bgR tF tn ro pr = pr := if_neg (fun h => c_3 (by rw [cpy_00 (by omega)]; exact h.2))
            refine lv_aload_n hF.1 hF.2.1 dX8_begin_86 rfl (lv_at hl 1 rfl) ?_
            refine kGet (C := RX8) (T := TX8) (N := 29) (index := 111) hF hK hP (inT inBX8) 0 rfl rfl 16 (by decide) rfl (List.mem_cons_of_mem _ mF_X8_111) rfl dX8_begin_87 ?_
            refine kTop (y := bgR tF tn ro pr) hA1.symm ?_
            refine kPut (C := RX8) (T := TX8) (N := 29) (index := 114) (v := .int (bgR tF tn ro pr)) hF hK hP hD hS (inT inBX8) tyX8_ok nmX8 0 rfl rfl 23 (by decide) rfl (List.mem_cons_of_mem _ mF_X8_114) rfl rfl rfl (Nat.le_of_ble_eq_true rfl) dX8_begin_90 (fun H locs hP hD hS => ?_)
            have hP : PG G [oC x 8 [.ref ak, .ref am, .ref ao, .ref av, .ref ap, .ref ax, .ref ay, .int (nI ec), .ref ad, .ref an, .ref ab, .int (nI vn), .ref ar, .ref ac, .int us, .int ro, .int pr, .ref at_, .int (nI tn), .ref as_, .int (nI sn), .ref aq, .int (nI tn), .int (bgR tF tn ro pr), .int (nI hp), .long nm, .int (nI ns), .int (zI la), .int (zI sl)], aI G at_ 40 tF, aI G aq 100 (va_cpy tF qF 0 0 tn)] H := hP
            have hD : va_D A [oC x 8 [.ref ak, .ref am, .ref ao, .ref av, .ref ap, .ref ax, .ref ay, .int (nI ec), .ref ad, .ref an, .ref ab, .int (nI vn), .ref ar, .ref ac, .int us, .int ro, .int pr, .ref at_, .int (nI tn), .ref as_, .int (nI sn), .ref aq, .int (nI tn), .int (bgR tF tn ro pr), .int (nI hp), .long nm, .int (nI ns), .int (zI la), .int (zI sl)], aI G at_ 40 tF, aI G aq 100 (va_cpy tF qF 0 0 tn)] := hD
            refine lv_aload_n hF.1 hF.2.1 dX8_begin_93 rfl (lv_at hl 1 rfl) ?_
            refine lv_iconst (v := (nI 0)) hF.1 hF.2.1 dX8_begin_94 (by decide) ?_
            refine kPut (C := RX8) (T := TX8) (N := 29) (index := 117) (v := .int (nI 0)) hF hK hP hD hS (inT inBX8) tyX8_ok nmX8 0 rfl rfl 24 (by decide) rfl (List.mem_cons_of_mem _ mF_X8_117) rfl rfl rfl (Nat.le_of_ble_eq_true rfl) dX8_begin_95 (fun H locs hP hD hS => ?_)
            have hP : PG G [oC x 8 [.ref ak, .ref am, .ref ao, .ref av, .ref ap, .ref ax, .ref ay, .int (nI ec), .ref ad, .ref an, .ref ab, .int (nI vn), .ref ar, .ref ac, .int us, .int ro, .int pr, .ref at_, .int (nI tn), .ref as_, .int (nI sn), .ref aq, .int (nI tn), .int (bgR tF tn ro pr), .int (nI 0), .long nm, .int (nI ns), .int (zI la), .int (zI sl)], aI G at_ 40 tF, aI G aq 100 (va_cpy tF qF 0 0 tn)] H := hP
            have hD : va_D A [oC x 8 [.ref ak, .ref am, .ref ao, .ref av, .ref ap, .ref ax, .ref ay, .int (nI ec), .ref ad, .ref an, .ref ab, .int (nI vn), .ref ar, .ref ac, .int us, .int ro, .int pr, .ref at_, .int (nI tn), .ref as_, .int (nI sn), .ref aq, .int (nI tn), .int (bgR tF tn ro pr), .int (nI 0), .long nm, .int (nI ns), .int (zI la), .int (zI sl)], aI G at_ 40 tF, aI G aq 100 (va_cpy tF qF 0 0 tn)] := hD
            refine kRetV hF hr hlk hK hP hD hS hQ () [0, 1, 2] (by decide) rfl (Nat.le_of_ble_eq_true rfl) (Nat.le_of_ble_eq_true rfl) dX8_begin_98 ?_
            trivial
          · have hA1 : bgR tF tn ro pr = ro := if_pos ⟨by omega, by have h := c_3; rw [cpy_00 (by omega)] at h; exact h⟩
            refine lv_aload_n hF.1 hF.2.1 dX8_begin_79 rfl (lv_at hl 1 rfl) ?_
            refine kGet (C := RX8) (T := TX8) (N := 29) (index := 108) hF hK hP (inT inBX8) 0 rfl rfl 15 (by decide) rfl (List.mem_cons_of_mem _ mF_X8_108) rfl dX8_begin_80 ?_
            refine lv_goto (tgt := 90) hF.1 hF.2.1 dX8_begin_83 (by decide) ?_
            refine kTop (y := bgR tF tn ro pr) hA1.symm ?_
            refine kPut (C := RX8) (T := TX8) (N := 29) (index := 114) (v := .int (bgR tF tn ro pr)) hF hK hP hD hS (inT inBX8) tyX8_ok nmX8 0 rfl rfl 23 (by decide) rfl (List.mem_cons_of_mem _ mF_X8_114) rfl rfl rfl (Nat.le_of_ble_eq_true rfl) dX8_begin_90 (fun H locs hP hD hS => ?_)
            have hP : PG G [oC x 8 [.ref ak, .ref am, .ref ao, .ref av, .ref ap, .ref ax, .ref ay, .int (nI ec), .ref ad, .ref an, .ref ab, .int (nI vn), .ref ar, .ref ac, .int us, .int ro, .int pr, .ref at_, .int (nI tn), .ref as_, .int (nI sn), .ref aq, .int (nI tn), .int (bgR tF tn ro pr), .int (nI hp), .long nm, .int (nI ns), .int (zI la), .int (zI sl)], aI G at_ 40 tF, aI G aq 100 (va_cpy tF qF 0 0 tn)] H := hP
            have hD : va_D A [oC x 8 [.ref ak, .ref am, .ref ao, .ref av, .ref ap, .ref ax, .ref ay, .int (nI ec), .ref ad, .ref an, .ref ab, .int (nI vn), .ref ar, .ref ac, .int us, .int ro, .int pr, .ref at_, .int (nI tn), .ref as_, .int (nI sn), .ref aq, .int (nI tn), .int (bgR tF tn ro pr), .int (nI hp), .long nm, .int (nI ns), .int (zI la), .int (zI sl)], aI G at_ 40 tF, aI G aq 100 (va_cpy tF qF 0 0 tn)] := hD
            refine lv_aload_n hF.1 hF.2.1 dX8_begin_93 rfl (lv_at hl 1 rfl) ?_
            refine lv_iconst (v := (nI 0)) hF.1 hF.2.1 dX8_begin_94 (by decide) ?_
            refine kPut (C := RX8) (T := TX8) (N := 29) (index := 117) (v := .int (nI 0)) hF hK hP hD hS (inT inBX8) tyX8_ok nmX8 0 rfl rfl 24 (by decide) rfl (List.mem_cons_of_mem _ mF_X8_117) rfl rfl rfl (Nat.le_of_ble_eq_true rfl) dX8_begin_95 (fun H locs hP hD hS => ?_)
            have hP : PG G [oC x 8 [.ref ak, .ref am, .ref ao, .ref av, .ref ap, .ref ax, .ref ay, .int (nI ec), .ref ad, .ref an, .ref ab, .int (nI vn), .ref ar, .ref ac, .int us, .int ro, .int pr, .ref at_, .int (nI tn), .ref as_, .int (nI sn), .ref aq, .int (nI tn), .int (bgR tF tn ro pr), .int (nI 0), .long nm, .int (nI ns), .int (zI la), .int (zI sl)], aI G at_ 40 tF, aI G aq 100 (va_cpy tF qF 0 0 tn)] H := hP
            have hD : va_D A [oC x 8 [.ref ak, .ref am, .ref ao, .ref av, .ref ap, .ref ax, .ref ay, .int (nI ec), .ref ad, .ref an, .ref ab, .int (nI vn), .ref ar, .ref ac, .int us, .int ro, .int pr, .ref at_, .int (nI tn), .ref as_, .int (nI sn), .ref aq, .int (nI tn), .int (bgR tF tn ro pr), .int (nI 0), .long nm, .int (nI ns), .int (zI la), .int (zI sl)], aI G at_ 40 tF, aI G aq 100 (va_cpy tF qF 0 0 tn)] := hD
            refine kRetV hF hr hlk hK hP hD hS hQ () [0, 1, 2] (by decide) rfl (Nat.le_of_ble_eq_true rfl) (Nat.le_of_ble_eq_true rfl) dX8_begin_98 ?_
            trivial
      · refine lv_aload_n hF.1 hF.2.1 dX8_begin_29 rfl (lv_at hl 1 rfl) ?_
        refine kGet (C := RX8) (T := TX8) (N := 29) (index := 57) hF hK hP (inT inBX8) 0 rfl rfl 21 (by decide) rfl (List.mem_cons_of_mem _ mF_X8_57) rfl dX8_begin_30 ?_
        refine lv_iload_n hF.1 hF.2.1 dX8_begin_33 rfl (lv_at hl 0 rfl) ?_
        refine lv_iload_n hF.1 hF.2.1 dX8_begin_34 rfl (lv_at hl 2 rfl) ?_
        refine kIfEqN (tgt := 47) hF dX8_begin_35 (by decide) (by omega) (fun _ => ?_) (fun c => absurd c (by decide))
        refine lv_aload_n hF.1 hF.2.1 dX8_begin_47 rfl (lv_at hl 1 rfl) ?_
        refine kGet (C := RX8) (T := TX8) (N := 29) (index := 51) hF hK hP (inT inBX8) 0 rfl rfl 17 (by decide) rfl (List.mem_cons_of_mem _ mF_X8_51) rfl dX8_begin_48 ?_
        refine lv_iload_n hF.1 hF.2.1 dX8_begin_51 rfl (lv_at hl 0 rfl) ?_
        refine kIaldN hF hK hP 1 rfl (by omega) (by decide) dX8_begin_52 ?_
        refine kIastN hF hK hP hD hS 2 rfl (by omega) (by decide) dX8_begin_53 (fun H locs hP hD hS => ?_)
        have hP : PG G [oC x 8 [.ref ak, .ref am, .ref ao, .ref av, .ref ap, .ref ax, .ref ay, .int (nI ec), .ref ad, .ref an, .ref ab, .int (nI vn), .ref ar, .ref ac, .int us, .int ro, .int pr, .ref at_, .int (nI tn), .ref as_, .int (nI sn), .ref aq, .int (nI tn), .int wa, .int (nI hp), .long nm, .int (nI ns), .int (zI la), .int (zI sl)], aI G at_ 40 tF, aI G aq 100 (upd q1 k (tF k))] H := hP
        have hD : va_D A [oC x 8 [.ref ak, .ref am, .ref ao, .ref av, .ref ap, .ref ax, .ref ay, .int (nI ec), .ref ad, .ref an, .ref ab, .int (nI vn), .ref ar, .ref ac, .int us, .int ro, .int pr, .ref at_, .int (nI tn), .ref as_, .int (nI sn), .ref aq, .int (nI tn), .int wa, .int (nI hp), .long nm, .int (nI ns), .int (zI la), .int (zI sl)], aI G at_ 40 tF, aI G aq 100 (upd q1 k (tF k))] := hD
        refine lv_iinc (v := (nI (k + 1))) (lv' := [(2, .int (nI (k + 1))), (0, .ref x), (1, .int (nI 0))]) hF.1 hF.2.1 dX8_begin_54 hl (k := 0) rfl (nI_inc1 _) (by decide) rfl (fun ls hl => ?_)
        refine lv_goto (tgt := 21) hF.1 hF.2.1 dX8_begin_57 (by decide) ?_
        exact ih_21 (k + 1) (upd q1 k (tF k)) (by omega) (by omega) (by rw [hq1]; exact cpy_k) H locs ls hP hD hS (lv_sub hl [0, 1, 2] rfl)
  exact loop_21 _ 0 qF (Nat.lt_succ_self _) (by omega) (cpy_n.symm) _ _ _ hP hD hS (lv_sub hl [0, 1, 2] rfl)
set_option maxHeartbeats 4000000 in
set_option maxRecDepth 100000 in
theorem c_X8_begin1 (l : Launch) (G : GG) (sz : Nat) (x : Nat) (ak : Nat) (am : Nat) (ao : Nat) (av : Nat) (ap : Nat) (ax : Nat) (ay : Nat) (ad : Nat) (an : Nat) (ab : Nat) (ar : Nat) (ac : Nat) (at_ : Nat) (as_ : Nat) (aq : Nat) (ec : Nat) (vn : Nat) (tn : Nat) (sn : Nat) (qn : Nat) (hp : Nat) (ns : Nat) (us : Int32) (ro : Int32) (pr : Int32) (wa : Int32) (nm : Int64) (la : Prop) (sl : Prop) (sF : Nat → Int32) (qF : Nat → Int32) (hn : sn ≤ 40) : CtV l G yX8_begin wsX8_begin 0 0 0 0 sz [.ref x, .int (nI 1)] [oC x 8 [.ref ak, .ref am, .ref ao, .ref av, .ref ap, .ref ax, .ref ay, .int (nI ec), .ref ad, .ref an, .ref ab, .int (nI vn), .ref ar, .ref ac, .int us, .int ro, .int pr, .ref at_, .int (nI tn), .ref as_, .int (nI sn), .ref aq, .int (nI qn), .int wa, .int (nI hp), .long nm, .int (nI ns), .int (zI la), .int (zI sl)], aI G as_ 40 sF, aI G aq 100 qF] (fun (_ : Unit) => True) (fun (_ : Unit) => [oC x 8 [.ref ak, .ref am, .ref ao, .ref av, .ref ap, .ref ax, .ref ay, .int (nI ec), .ref ad, .ref an, .ref ab, .int (nI vn), .ref ar, .ref ac, .int us, .int ro, .int pr, .ref at_, .int (nI tn), .ref as_, .int (nI sn), .ref aq, .int (nI sn), .int (bgR sF sn ro pr), .int (nI 0), .long nm, .int (nI ns), .int (zI la), .int (zI sl)], aI G as_ 40 sF, aI G aq 100 (va_cpy sF qF 0 0 sn)]) := by
  refine kMet (Qc := fun A => va_Qv _ (Bw G A _) A) (cc := cX8_begin) (nL := 3) (ret := none) (by decide) rfl (Nat.le_of_ble_eq_true rfl) ?_
  intro p e s m args below meth c A Q hF hr hlk hnme hK hP hD hA hS hQ hsz ls hl
  have hl : lv_has ls 3 [(0, .ref x), (1, .int (nI 1))] := hl
  refine lv_aload_n hF.1 hF.2.1 dX8_begin_0 rfl (lv_at hl 0 rfl) ?_
  refine lv_iload_n hF.1 hF.2.1 dX8_begin_1 rfl (lv_at hl 1 rfl) ?_
  refine kIfEqN (tgt := 12) hF dX8_begin_2 (by decide) (by omega) (fun c => absurd c (by decide)) (fun _ => ?_)
  refine lv_aload_n hF.1 hF.2.1 dX8_begin_5 rfl (lv_at hl 0 rfl) ?_
  refine kGet (C := RX8) (T := TX8) (N := 29) (index := 63) hF hK hP (inT inBX8) 0 rfl rfl 20 (by decide) rfl (List.mem_cons_of_mem _ mF_X8_63) rfl dX8_begin_6 ?_
  refine lv_goto (tgt := 16) hF.1 hF.2.1 dX8_begin_9 (by decide) ?_
  refine kPut (C := RX8) (T := TX8) (N := 29) (index := 85) (v := .int (nI sn)) hF hK hP hD hS (inT inBX8) tyX8_ok nmX8 0 rfl rfl 22 (by decide) rfl (List.mem_cons_of_mem _ mF_X8_85) rfl rfl rfl (Nat.le_of_ble_eq_true rfl) dX8_begin_16 (fun H locs hP hD hS => ?_)
  have hP : PG G [oC x 8 [.ref ak, .ref am, .ref ao, .ref av, .ref ap, .ref ax, .ref ay, .int (nI ec), .ref ad, .ref an, .ref ab, .int (nI vn), .ref ar, .ref ac, .int us, .int ro, .int pr, .ref at_, .int (nI tn), .ref as_, .int (nI sn), .ref aq, .int (nI sn), .int wa, .int (nI hp), .long nm, .int (nI ns), .int (zI la), .int (zI sl)], aI G as_ 40 sF, aI G aq 100 qF] H := hP
  have hD : va_D A [oC x 8 [.ref ak, .ref am, .ref ao, .ref av, .ref ap, .ref ax, .ref ay, .int (nI ec), .ref ad, .ref an, .ref ab, .int (nI vn), .ref ar, .ref ac, .int us, .int ro, .int pr, .ref at_, .int (nI tn), .ref as_, .int (nI sn), .ref aq, .int (nI sn), .int wa, .int (nI hp), .long nm, .int (nI ns), .int (zI la), .int (zI sl)], aI G as_ 40 sF, aI G aq 100 qF] := hD
  refine lv_iconst (v := (nI 0)) hF.1 hF.2.1 dX8_begin_19 (by decide) ?_
  refine lv_istore_n (lv' := [(2, .int (nI 0)), (0, .ref x), (1, .int (nI 1))]) hF.1 hF.2.1 dX8_begin_20 rfl hl (by decide) rfl (fun ls hl => ?_)
  have loop_21 : ∀ (n_21 : Nat) (k : Nat) (q1 : Nat → Int32), sn - k < n_21 → (k ≤ sn) → (q1 = va_cpy sF qF 0 0 k) → ∀ (H : Heap) (locs : List Loc) (ls : Array Slot), PG G [oC x 8 [.ref ak, .ref am, .ref ao, .ref av, .ref ap, .ref ax, .ref ay, .int (nI ec), .ref ad, .ref an, .ref ab, .int (nI vn), .ref ar, .ref ac, .int us, .int ro, .int pr, .ref at_, .int (nI tn), .ref as_, .int (nI sn), .ref aq, .int (nI sn), .int wa, .int (nI hp), .long nm, .int (nI ns), .int (zI la), .int (zI sl)], aI G as_ 40 sF, aI G aq 100 q1] H → va_D A [oC x 8 [.ref ak, .ref am, .ref ao, .ref av, .ref ap, .ref ax, .ref ay, .int (nI ec), .ref ad, .ref an, .ref ab, .int (nI vn), .ref ar, .ref ac, .int us, .int ro, .int pr, .ref at_, .int (nI tn), .ref as_, .int (nI sn), .ref aq, .int (nI sn), .int wa, .int (nI hp), .long nm, .int (nI ns), .int (zI la), .int (zI sl)], aI G as_ 40 sF, aI G aq 100 q1] → va_S A s.heap H locs → lv_has ls 3 [(2, .int (nI k)), (0, .ref x), (1, .int (nI 1))] → W p l e (Rm 0 0 0 0) s m args below meth c H locs 0 0 Q (F0 m 21 ls []) := by
    intro n_21
    induction n_21 with
    | zero => intro k q1 hm; exact absurd hm (Nat.not_lt_zero _)
    | succ n_21 ih_21 =>
      intro k q1 hm_21 hk hq1 H locs ls hP hD hS hl
      refine lv_iload_n hF.1 hF.2.1 dX8_begin_21 rfl (lv_at hl 0 rfl) ?_
      refine lv_aload_n hF.1 hF.2.1 dX8_begin_22 rfl (lv_at hl 1 rfl) ?_
      refine kGet (C := RX8) (T := TX8) (N := 29) (index := 85) hF hK hP (inT inBX8) 0 rfl rfl 22 (by decide) rfl (List.mem_cons_of_mem _ mF_X8_85) rfl dX8_begin_23 ?_
      refine kGeN (tgt := 60) hF dX8_begin_26 (by decide) (by omega) (by omega) (fun c_1 => ?_) (fun c_1 => ?_)
      · rw [hq1, show k = sn by omega] at hP hD
        refine lv_aload_n hF.1 hF.2.1 dX8_begin_60 rfl (lv_at hl 1 rfl) ?_
        refine lv_aload_n hF.1 hF.2.1 dX8_begin_61 rfl (lv_at hl 1 rfl) ?_
        refine kGet (C := RX8) (T := TX8) (N := 29) (index := 85) hF hK hP (inT inBX8) 0 rfl rfl 22 (by decide) rfl (List.mem_cons_of_mem _ mF_X8_85) rfl dX8_begin_62 ?_
        refine kIfLeN (tgt := 86) hF dX8_begin_65 (by decide) (by omega) (fun c_2 => ?_) (fun c_2 => ?_)
        · have hA1 : bgR sF sn ro pr = pr := if_neg (fun h => by omega)
          refine lv_aload_n hF.1 hF.2.1 dX8_begin_86 rfl (lv_at hl 1 rfl) ?_
          refine kGet (C := RX8) (T := TX8) (N := 29) (index := 111) hF hK hP (inT inBX8) 0 rfl rfl 16 (by decide) rfl (List.mem_cons_of_mem _ mF_X8_111) rfl dX8_begin_87 ?_
          refine kTop (y := bgR sF sn ro pr) hA1.symm ?_
          refine kPut (C := RX8) (T := TX8) (N := 29) (index := 114) (v := .int (bgR sF sn ro pr)) hF hK hP hD hS (inT inBX8) tyX8_ok nmX8 0 rfl rfl 23 (by decide) rfl (List.mem_cons_of_mem _ mF_X8_114) rfl rfl rfl (Nat.le_of_ble_eq_true rfl) dX8_begin_90 (fun H locs hP hD hS => ?_)
          have hP : PG G [oC x 8 [.ref ak, .ref am, .ref ao, .ref av, .ref ap, .ref ax, .ref ay, .int (nI ec), .ref ad, .ref an, .ref ab, .int (nI vn), .ref ar, .ref ac, .int us, .int ro, .int pr, .ref at_, .int (nI tn), .ref as_, .int (nI sn), .ref aq, .int (nI sn), .int (bgR sF sn ro pr), .int (nI hp), .long nm, .int (nI ns), .int (zI la), .int (zI sl)], aI G as_ 40 sF, aI G aq 100 (va_cpy sF qF 0 0 sn)] H := hP
          have hD : va_D A [oC x 8 [.ref ak, .ref am, .ref ao, .ref av, .ref ap, .ref ax, .ref ay, .int (nI ec), .ref ad, .ref an, .ref ab, .int (nI vn), .ref ar, .ref ac, .int us, .int ro, .int pr, .ref at_, .int (nI tn), .ref as_, .int (nI sn), .ref aq, .int (nI sn), .int (bgR sF sn ro pr), .int (nI hp), .long nm, .int (nI ns), .int (zI la), .int (zI sl)], aI G as_ 40 sF, aI G aq 100 (va_cpy sF qF 0 0 sn)] := hD
          refine lv_aload_n hF.1 hF.2.1 dX8_begin_93 rfl (lv_at hl 1 rfl) ?_
          refine lv_iconst (v := (nI 0)) hF.1 hF.2.1 dX8_begin_94 (by decide) ?_
          refine kPut (C := RX8) (T := TX8) (N := 29) (index := 117) (v := .int (nI 0)) hF hK hP hD hS (inT inBX8) tyX8_ok nmX8 0 rfl rfl 24 (by decide) rfl (List.mem_cons_of_mem _ mF_X8_117) rfl rfl rfl (Nat.le_of_ble_eq_true rfl) dX8_begin_95 (fun H locs hP hD hS => ?_)
          have hP : PG G [oC x 8 [.ref ak, .ref am, .ref ao, .ref av, .ref ap, .ref ax, .ref ay, .int (nI ec), .ref ad, .ref an, .ref ab, .int (nI vn), .ref ar, .ref ac, .int us, .int ro, .int pr, .ref at_, .int (nI tn), .ref as_, .int (nI sn), .ref aq, .int (nI sn), .int (bgR sF sn ro pr), .int (nI 0), .long nm, .int (nI ns), .int (zI la), .int (zI sl)], aI G as_ 40 sF, aI G aq 100 (va_cpy sF qF 0 0 sn)] H := hP
          have hD : va_D A [oC x 8 [.ref ak, .ref am, .ref ao, .ref av, .ref ap, .ref ax, .ref ay, .int (nI ec), .ref ad, .ref an, .ref ab, .int (nI vn), .ref ar, .ref ac, .int us, .int ro, .int pr, .ref at_, .int (nI tn), .ref as_, .int (nI sn), .ref aq, .int (nI sn), .int (bgR sF sn ro pr), .int (nI 0), .long nm, .int (nI ns), .int (zI la), .int (zI sl)], aI G as_ 40 sF, aI G aq 100 (va_cpy sF qF 0 0 sn)] := hD
          refine kRetV hF hr hlk hK hP hD hS hQ () [0, 1, 2] (by decide) rfl (Nat.le_of_ble_eq_true rfl) (Nat.le_of_ble_eq_true rfl) dX8_begin_98 ?_
          trivial
        · refine lv_aload_n hF.1 hF.2.1 dX8_begin_68 rfl (lv_at hl 1 rfl) ?_
          refine kGet (C := RX8) (T := TX8) (N := 29) (index := 57) hF hK hP (inT inBX8) 0 rfl rfl 21 (by decide) rfl (List.mem_cons_of_mem _ mF_X8_57) rfl dX8_begin_69 ?_
          refine lv_iconst (v := (nI 0)) hF.1 hF.2.1 dX8_begin_72 (by decide) ?_
          refine kIaldN hF hK hP 2 rfl (by omega) (by decide) dX8_begin_73 ?_
          refine lv_bipush (v := (nI 47)) hF.1 hF.2.1 dX8_begin_74 (by decide) ?_
          refine lv_icmp_ne (tgt := 86) hF.1 hF.2.1 dX8_begin_76 (by decide) (fun c_3 => ?_) (fun c_3 => ?_)
          · have hA1 : bgR sF sn ro pr = pr := if_neg (fun h => c_3 (by rw [cpy_00 (by omega)]; exact h.2))
            refine lv_aload_n hF.1 hF.2.1 dX8_begin_86 rfl (lv_at hl 1 rfl) ?_
            refine kGet (C := RX8) (T := TX8) (N := 29) (index := 111) hF hK hP (inT inBX8) 0 rfl rfl 16 (by decide) rfl (List.mem_cons_of_mem _ mF_X8_111) rfl dX8_begin_87 ?_
            refine kTop (y := bgR sF sn ro pr) hA1.symm ?_
            refine kPut (C := RX8) (T := TX8) (N := 29) (index := 114) (v := .int (bgR sF sn ro pr)) hF hK hP hD hS (inT inBX8) tyX8_ok nmX8 0 rfl rfl 23 (by decide) rfl (List.mem_cons_of_mem _ mF_X8_114) rfl rfl rfl (Nat.le_of_ble_eq_true rfl) dX8_begin_90 (fun H locs hP hD hS => ?_)
            have hP : PG G [oC x 8 [.ref ak, .ref am, .ref ao, .ref av, .ref ap, .ref ax, .ref ay, .int (nI ec), .ref ad, .ref an, .ref ab, .int (nI vn), .ref ar, .ref ac, .int us, .int ro, .int pr, .ref at_, .int (nI tn), .ref as_, .int (nI sn), .ref aq, .int (nI sn), .int (bgR sF sn ro pr), .int (nI hp), .long nm, .int (nI ns), .int (zI la), .int (zI sl)], aI G as_ 40 sF, aI G aq 100 (va_cpy sF qF 0 0 sn)] H := hP
            have hD : va_D A [oC x 8 [.ref ak, .ref am, .ref ao, .ref av, .ref ap, .ref ax, .ref ay, .int (nI ec), .ref ad, .ref an, .ref ab, .int (nI vn), .ref ar, .ref ac, .int us, .int ro, .int pr, .ref at_, .int (nI tn), .ref as_, .int (nI sn), .ref aq, .int (nI sn), .int (bgR sF sn ro pr), .int (nI hp), .long nm, .int (nI ns), .int (zI la), .int (zI sl)], aI G as_ 40 sF, aI G aq 100 (va_cpy sF qF 0 0 sn)] := hD
            refine lv_aload_n hF.1 hF.2.1 dX8_begin_93 rfl (lv_at hl 1 rfl) ?_
            refine lv_iconst (v := (nI 0)) hF.1 hF.2.1 dX8_begin_94 (by decide) ?_
            refine kPut (C := RX8) (T := TX8) (N := 29) (index := 117) (v := .int (nI 0)) hF hK hP hD hS (inT inBX8) tyX8_ok nmX8 0 rfl rfl 24 (by decide) rfl (List.mem_cons_of_mem _ mF_X8_117) rfl rfl rfl (Nat.le_of_ble_eq_true rfl) dX8_begin_95 (fun H locs hP hD hS => ?_)
            have hP : PG G [oC x 8 [.ref ak, .ref am, .ref ao, .ref av, .ref ap, .ref ax, .ref ay, .int (nI ec), .ref ad, .ref an, .ref ab, .int (nI vn), .ref ar, .ref ac, .int us, .int ro, .int pr, .ref at_, .int (nI tn), .ref as_, .int (nI sn), .ref aq, .int (nI sn), .int (bgR sF sn ro pr), .int (nI 0), .long nm, .int (nI ns), .int (zI la), .int (zI sl)], aI G as_ 40 sF, aI G aq 100 (va_cpy sF qF 0 0 sn)] H := hP
            have hD : va_D A [oC x 8 [.ref ak, .ref am, .ref ao, .ref av, .ref ap, .ref ax, .ref ay, .int (nI ec), .ref ad, .ref an, .ref ab, .int (nI vn), .ref ar, .ref ac, .int us, .int ro, .int pr, .ref at_, .int (nI tn), .ref as_, .int (nI sn), .ref aq, .int (nI sn), .int (bgR sF sn ro pr), .int (nI 0), .long nm, .int (nI ns), .int (zI la), .int (zI sl)], aI G as_ 40 sF, aI G aq 100 (va_cpy sF qF 0 0 sn)] := hD
            refine kRetV hF hr hlk hK hP hD hS hQ () [0, 1, 2] (by decide) rfl (Nat.le_of_ble_eq_true rfl) (Nat.le_of_ble_eq_true rfl) dX8_begin_98 ?_
            trivial
          · have hA1 : bgR sF sn ro pr = ro := if_pos ⟨by omega, by have h := c_3; rw [cpy_00 (by omega)] at h; exact h⟩
            refine lv_aload_n hF.1 hF.2.1 dX8_begin_79 rfl (lv_at hl 1 rfl) ?_
            refine kGet (C := RX8) (T := TX8) (N := 29) (index := 108) hF hK hP (inT inBX8) 0 rfl rfl 15 (by decide) rfl (List.mem_cons_of_mem _ mF_X8_108) rfl dX8_begin_80 ?_
            refine lv_goto (tgt := 90) hF.1 hF.2.1 dX8_begin_83 (by decide) ?_
            refine kTop (y := bgR sF sn ro pr) hA1.symm ?_
            refine kPut (C := RX8) (T := TX8) (N := 29) (index := 114) (v := .int (bgR sF sn ro pr)) hF hK hP hD hS (inT inBX8) tyX8_ok nmX8 0 rfl rfl 23 (by decide) rfl (List.mem_cons_of_mem _ mF_X8_114) rfl rfl rfl (Nat.le_of_ble_eq_true rfl) dX8_begin_90 (fun H locs hP hD hS => ?_)
            have hP : PG G [oC x 8 [.ref ak, .ref am, .ref ao, .ref av, .ref ap, .ref ax, .ref ay, .int (nI ec), .ref ad, .ref an, .ref ab, .int (nI vn), .ref ar, .ref ac, .int us, .int ro, .int pr, .ref at_, .int (nI tn), .ref as_, .int (nI sn), .ref aq, .int (nI sn), .int (bgR sF sn ro pr), .int (nI hp), .long nm, .int (nI ns), .int (zI la), .int (zI sl)], aI G as_ 40 sF, aI G aq 100 (va_cpy sF qF 0 0 sn)] H := hP
            have hD : va_D A [oC x 8 [.ref ak, .ref am, .ref ao, .ref av, .ref ap, .ref ax, .ref ay, .int (nI ec), .ref ad, .ref an, .ref ab, .int (nI vn), .ref ar, .ref ac, .int us, .int ro, .int pr, .ref at_, .int (nI tn), .ref as_, .int (nI sn), .ref aq, .int (nI sn), .int (bgR sF sn ro pr), .int (nI hp), .long nm, .int (nI ns), .int (zI la), .int (zI sl)], aI G as_ 40 sF, aI G aq 100 (va_cpy sF qF 0 0 sn)] := hD
            refine lv_aload_n hF.1 hF.2.1 dX8_begin_93 rfl (lv_at hl 1 rfl) ?_
            refine lv_iconst (v := (nI 0)) hF.1 hF.2.1 dX8_begin_94 (by decide) ?_
            refine kPut (C := RX8) (T := TX8) (N := 29) (index := 117) (v := .int (nI 0)) hF hK hP hD hS (inT inBX8) tyX8_ok nmX8 0 rfl rfl 24 (by decide) rfl (List.mem_cons_of_mem _ mF_X8_117) rfl rfl rfl (Nat.le_of_ble_eq_true rfl) dX8_begin_95 (fun H locs hP hD hS => ?_)
            have hP : PG G [oC x 8 [.ref ak, .ref am, .ref ao, .ref av, .ref ap, .ref ax, .ref ay, .int (nI ec), .ref ad, .ref an, .ref ab, .int (nI vn), .ref ar, .ref ac, .int us, .int ro, .int pr, .ref at_, .int (nI tn), .ref as_, .int (nI sn), .ref aq, .int (nI sn), .int (bgR sF sn ro pr), .int (nI 0), .long nm, .int (nI ns), .int (zI la), .int (zI sl)], aI G as_ 40 sF, aI G aq 100 (va_cpy sF qF 0 0 sn)] H := hP
            have hD : va_D A [oC x 8 [.ref ak, .ref am, .ref ao, .ref av, .ref ap, .ref ax, .ref ay, .int (nI ec), .ref ad, .ref an, .ref ab, .int (nI vn), .ref ar, .ref ac, .int us, .int ro, .int pr, .ref at_, .int (nI tn), .ref as_, .int (nI sn), .ref aq, .int (nI sn), .int (bgR sF sn ro pr), .int (nI 0), .long nm, .int (nI ns), .int (zI la), .int (zI sl)], aI G as_ 40 sF, aI G aq 100 (va_cpy sF qF 0 0 sn)] := hD
            refine kRetV hF hr hlk hK hP hD hS hQ () [0, 1, 2] (by decide) rfl (Nat.le_of_ble_eq_true rfl) (Nat.le_of_ble_eq_true rfl) dX8_begin_98 ?_
            trivial
      · refine lv_aload_n hF.1 hF.2.1 dX8_begin_29 rfl (lv_at hl 1 rfl) ?_
        refine kGet (C := RX8) (T := TX8) (N := 29) (index := 57) hF hK hP (inT inBX8) 0 rfl rfl 21 (by decide) rfl (List.mem_cons_of_mem _ mF_X8_57) rfl dX8_begin_30 ?_
        refine lv_iload_n hF.1 hF.2.1 dX8_begin_33 rfl (lv_at hl 0 rfl) ?_
        refine lv_iload_n hF.1 hF.2.1 dX8_begin_34 rfl (lv_at hl 2 rfl) ?_
        refine kIfEqN (tgt := 47) hF dX8_begin_35 (by decide) (by omega) (fun c => absurd c (by decide)) (fun _ => ?_)
        refine lv_aload_n hF.1 hF.2.1 dX8_begin_38 rfl (lv_at hl 1 rfl) ?_
        refine kGet (C := RX8) (T := TX8) (N := 29) (index := 54) hF hK hP (inT inBX8) 0 rfl rfl 19 (by decide) rfl (List.mem_cons_of_mem _ mF_X8_54) rfl dX8_begin_39 ?_
        refine lv_iload_n hF.1 hF.2.1 dX8_begin_42 rfl (lv_at hl 0 rfl) ?_
        refine kIaldN hF hK hP 1 rfl (by omega) (by decide) dX8_begin_43 ?_
        refine lv_goto (tgt := 53) hF.1 hF.2.1 dX8_begin_44 (by decide) ?_
        refine kIastN hF hK hP hD hS 2 rfl (by omega) (by decide) dX8_begin_53 (fun H locs hP hD hS => ?_)
        have hP : PG G [oC x 8 [.ref ak, .ref am, .ref ao, .ref av, .ref ap, .ref ax, .ref ay, .int (nI ec), .ref ad, .ref an, .ref ab, .int (nI vn), .ref ar, .ref ac, .int us, .int ro, .int pr, .ref at_, .int (nI tn), .ref as_, .int (nI sn), .ref aq, .int (nI sn), .int wa, .int (nI hp), .long nm, .int (nI ns), .int (zI la), .int (zI sl)], aI G as_ 40 sF, aI G aq 100 (upd q1 k (sF k))] H := hP
        have hD : va_D A [oC x 8 [.ref ak, .ref am, .ref ao, .ref av, .ref ap, .ref ax, .ref ay, .int (nI ec), .ref ad, .ref an, .ref ab, .int (nI vn), .ref ar, .ref ac, .int us, .int ro, .int pr, .ref at_, .int (nI tn), .ref as_, .int (nI sn), .ref aq, .int (nI sn), .int wa, .int (nI hp), .long nm, .int (nI ns), .int (zI la), .int (zI sl)], aI G as_ 40 sF, aI G aq 100 (upd q1 k (sF k))] := hD
        refine lv_iinc (v := (nI (k + 1))) (lv' := [(2, .int (nI (k + 1))), (0, .ref x), (1, .int (nI 1))]) hF.1 hF.2.1 dX8_begin_54 hl (k := 0) rfl (nI_inc1 _) (by decide) rfl (fun ls hl => ?_)
        refine lv_goto (tgt := 21) hF.1 hF.2.1 dX8_begin_57 (by decide) ?_
        exact ih_21 (k + 1) (upd q1 k (sF k)) (by omega) (by omega) (by rw [hq1]; exact cpy_k) H locs ls hP hD hS (lv_sub hl [0, 1, 2] rfl)
  exact loop_21 _ 0 qF (Nat.lt_succ_self _) (by omega) (cpy_n.symm) _ _ _ hP hD hS (lv_sub hl [0, 1, 2] rfl)
set_option maxHeartbeats 4000000 in
set_option maxRecDepth 100000 in
theorem c_X8_against (l : Launch) (G : GG) (sz : Nat) (x : Nat) (ak : Nat) (am : Nat) (ao : Nat) (av : Nat) (ap : Nat) (ax : Nat) (ay : Nat) (ad : Nat) (an : Nat) (ab : Nat) (ar : Nat) (ac : Nat) (at_ : Nat) (as_ : Nat) (aq : Nat) (ec : Nat) (vn : Nat) (tn : Nat) (sn : Nat) (qn : Nat) (hp : Nat) (ns : Nat) (us : Int32) (ro : Int32) (pr : Int32) (wa : Int32) (nm : Int64) (la : Prop) (sl : Prop) (kF : Nat → Int32) (mF : Nat → Int32) (oF : Nat → Int32) (hwa : vp_in wa 40) (hns : ns ≤ 100) : CtI l G yX8_against wsX8_against 1 23 0 0 sz [.ref x] [oC x 8 [.ref ak, .ref am, .ref ao, .ref av, .ref ap, .ref ax, .ref ay, .int (nI ec), .ref ad, .ref an, .ref ab, .int (nI vn), .ref ar, .ref ac, .int us, .int ro, .int pr, .ref at_, .int (nI tn), .ref as_, .int (nI sn), .ref aq, .int (nI qn), .int wa, .int (nI hp), .long nm, .int (nI ns), .int (zI la), .int (zI sl)], aI G ak 40 kF, aI G am 40 mF, aI G ao 40 oF] (fun r (_ : Unit) => r = (agR kF mF oF us wa ns)) (fun (_ : Unit) => [oC x 8 [.ref ak, .ref am, .ref ao, .ref av, .ref ap, .ref ax, .ref ay, .int (nI ec), .ref ad, .ref an, .ref ab, .int (nI vn), .ref ar, .ref ac, .int us, .int ro, .int pr, .ref at_, .int (nI tn), .ref as_, .int (nI sn), .ref aq, .int (nI qn), .int wa, .int (nI hp), .long nm, .int (nI ns), .int (zI la), .int (zI sl)], aI G ak 40 kF, aI G am 40 mF, aI G ao 40 oF]) := by
  refine kMet (Qc := fun A => va_Qi _ (Bw G A _) A) (cc := cX8_against) (nL := 1) (ret := some (.int)) (by decide) rfl (Nat.le_of_ble_eq_true rfl) ?_
  intro p e s m args below meth c A Q hF hr hlk hnme hK hP hD hA hS hQ hsz ls hl
  have hl : lv_has ls 1 [(0, .ref x)] := hl
  refine lv_aload_n hF.1 hF.2.1 dX8_against_0 rfl (lv_at hl 0 rfl) ?_
  refine kGet (C := RX8) (T := TX8) (N := 29) (index := 7) hF hK hP (inT inBX8) 0 rfl rfl 0 (by decide) rfl (List.mem_cons_of_mem _ mF_X8_7) rfl dX8_against_1 ?_
  refine lv_aload_n hF.1 hF.2.1 dX8_against_4 rfl (lv_at hl 0 rfl) ?_
  refine kGet (C := RX8) (T := TX8) (N := 29) (index := 114) hF hK hP (inT inBX8) 0 rfl rfl 23 (by decide) rfl (List.mem_cons_of_mem _ mF_X8_114) rfl dX8_against_5 ?_
  refine kIald hF hK hP 1 rfl (by assumption) dX8_against_8 ?_
  refine lv_iconst (v := (nI 1)) hF.1 hF.2.1 dX8_against_9 (by decide) ?_
  refine lv_icmp_eq (tgt := 16) hF.1 hF.2.1 dX8_against_10 (by decide) (fun c_1 => ?_) (fun c_1 => ?_)
  · refine lv_aload_n hF.1 hF.2.1 dX8_against_16 rfl (lv_at hl 0 rfl) ?_
    refine lv_aload_n hF.1 hF.2.1 dX8_against_17 rfl (lv_at hl 0 rfl) ?_
    refine kGet (C := RX8) (T := TX8) (N := 29) (index := 114) hF hK hP (inT inBX8) 0 rfl rfl 23 (by decide) rfl (List.mem_cons_of_mem _ mF_X8_114) rfl dX8_against_18 ?_
    refine lv_iconst (v := (nI 0)) hF.1 hF.2.1 dX8_against_21 (by decide) ?_
    refine kCallI (wr := [aI G ak 40 kF]) (va_runV (As := [.int wa, .int (nI 0)]) (rest := []) hF (c_X8_may l G _ x ak am ao av ap ax ay ad an ab ar ac at_ as_ aq ec vn tn sn qn hp ns us ro pr wa nm la sl mF oF wa (nI 0) (by first | assumption | omega)) (cwVB 2 hF rfl mL_X8_120 mI_X8_may mS_X8_may mN_X8 mC_X8_may rfl hd_X8_may rfl rfl ⟨Nat.le_of_ble_eq_true rfl, Nat.le_of_ble_eq_true rfl⟩) (kPre hK hP hD [0, 2, 3] (by decide) rfl (q0 := 0) (ci := 8) rfl rfl rfl) rfl rfl hl.1 rfl (lv_room (Nat.le_of_ble_eq_true rfl)) dX8_against_22 ⟨Nat.le_of_ble_eq_true rfl, Nat.le_of_ble_eq_true rfl⟩) hP hD hS hA [0, 2, 3] [1] rfl rfl (by decide) (by decide) (fun r u H locs hw_2 hP hD hS => ?_)
    have hw_2 := hw_2.symm
    subst hw_2
    have hP : PG G [oC x 8 [.ref ak, .ref am, .ref ao, .ref av, .ref ap, .ref ax, .ref ay, .int (nI ec), .ref ad, .ref an, .ref ab, .int (nI vn), .ref ar, .ref ac, .int us, .int ro, .int pr, .ref at_, .int (nI tn), .ref as_, .int (nI sn), .ref aq, .int (nI qn), .int wa, .int (nI hp), .long nm, .int (nI ns), .int (zI la), .int (zI sl)], aI G ak 40 kF, aI G am 40 mF, aI G ao 40 oF] H := va_P.sub hP [1, 0, 2, 3] rfl
    have hD : va_D A [oC x 8 [.ref ak, .ref am, .ref ao, .ref av, .ref ap, .ref ax, .ref ay, .int (nI ec), .ref ad, .ref an, .ref ab, .int (nI vn), .ref ar, .ref ac, .int us, .int ro, .int pr, .ref at_, .int (nI tn), .ref as_, .int (nI sn), .ref aq, .int (nI qn), .int wa, .int (nI hp), .long nm, .int (nI ns), .int (zI la), .int (zI sl)], aI G ak 40 kF, aI G am 40 mF, aI G ao 40 oF] := va_D.sub hD [1, 0, 2, 3] (by decide) rfl
    refine kIfNeZ (tgt := 31) hF dX8_against_25 (by decide) (fun c_3 => ?_) (fun c_3 => ?_)
    · refine lv_aload_n hF.1 hF.2.1 dX8_against_31 rfl (lv_at hl 0 rfl) ?_
      refine kGet (C := RX8) (T := TX8) (N := 29) (index := 98) hF hK hP (inT inBX8) 0 rfl rfl 26 (by decide) rfl (List.mem_cons_of_mem _ mF_X8_98) rfl dX8_against_32 ?_
      refine lv_bipush (v := (nI 6)) hF.1 hF.2.1 dX8_against_35 (by decide) ?_
      refine kLeN (tgt := 45) hF dX8_against_37 (by decide) (by omega) (by omega) (fun c_4 => ?_) (fun c_4 => ?_)
      · refine lv_iconst (v := (nI 0)) hF.1 hF.2.1 dX8_against_45 (by decide) ?_
        refine kRetI (v := (nI 0)) hF hr hlk hK hP hD hS hQ rfl () [0, 1, 2, 3] (by decide) rfl (Nat.le_of_ble_eq_true rfl) (Nat.le_of_ble_eq_true rfl) dX8_against_46 ?_
        unfold agR
        first | rw [if_neg (by assumption)] | (rw [if_pos (by assumption)]; first | rw [pI_f (by assumption)] | (rw [pI_t (by assumption)]; first | rw [if_pos (by omega)] | rw [if_neg (by omega)]))
      · refine lv_bipush (v := (-5)) hF.1 hF.2.1 dX8_against_40 (by decide) ?_
        refine lv_goto (tgt := 46) hF.1 hF.2.1 dX8_against_42 (by decide) ?_
        refine kRetI (v := (-5)) hF hr hlk hK hP hD hS hQ rfl () [0, 1, 2, 3] (by decide) rfl (Nat.le_of_ble_eq_true rfl) (Nat.le_of_ble_eq_true rfl) dX8_against_46 ?_
        unfold agR
        first | rw [if_neg (by assumption)] | (rw [if_pos (by assumption)]; first | rw [pI_f (by assumption)] | (rw [pI_t (by assumption)]; first | rw [if_pos (by omega)] | rw [if_neg (by omega)]))
    · refine lv_bipush (v := (-3)) hF.1 hF.2.1 dX8_against_28 (by decide) ?_
      refine kRetI (v := (-3)) hF hr hlk hK hP hD hS hQ rfl () [0, 1, 2, 3] (by decide) rfl (Nat.le_of_ble_eq_true rfl) (Nat.le_of_ble_eq_true rfl) dX8_against_30 ?_
      unfold agR
      first | rw [if_neg (by assumption)] | (rw [if_pos (by assumption)]; first | rw [pI_f (by assumption)] | (rw [pI_t (by assumption)]; first | rw [if_pos (by omega)] | rw [if_neg (by omega)]))
  · refine lv_bipush (v := (-2)) hF.1 hF.2.1 dX8_against_13 (by decide) ?_
    refine kRetI (v := (-2)) hF hr hlk hK hP hD hS hQ rfl () [0, 1, 2, 3] (by decide) rfl (Nat.le_of_ble_eq_true rfl) (Nat.le_of_ble_eq_true rfl) dX8_against_15 ?_
    unfold agR
    first | rw [if_neg (by assumption)] | (rw [if_pos (by assumption)]; first | rw [pI_f (by assumption)] | (rw [pI_t (by assumption)]; first | rw [if_pos (by omega)] | rw [if_neg (by omega)]))
set_option maxHeartbeats 4000000 in
set_option maxRecDepth 100000 in
theorem c_X8_dots (l : Launch) (G : GG) (sz : Nat) (x : Nat) (ak : Nat) (am : Nat) (ao : Nat) (av : Nat) (ap : Nat) (ax : Nat) (ay : Nat) (ad : Nat) (an : Nat) (ab : Nat) (ar : Nat) (ac : Nat) (at_ : Nat) (as_ : Nat) (aq : Nat) (ec : Nat) (vn : Nat) (tn : Nat) (sn : Nat) (qn : Nat) (hp : Nat) (ns : Nat) (us : Int32) (ro : Int32) (pr : Int32) (wa : Int32) (nm : Int64) (la : Prop) (sl : Prop) : CtI l G yX8_dots wsX8_dots 0 0 0 0 sz [.ref x] [oC x 8 [.ref ak, .ref am, .ref ao, .ref av, .ref ap, .ref ax, .ref ay, .int (nI ec), .ref ad, .ref an, .ref ab, .int (nI vn), .ref ar, .ref ac, .int us, .int ro, .int pr, .ref at_, .int (nI tn), .ref as_, .int (nI sn), .ref aq, .int (nI qn), .int wa, .int (nI hp), .long nm, .int (nI ns), .int (zI la), .int (zI sl)]] (fun r (_ : Unit) => r = (zI (nm = lN 46 ∨ nm = lN 5934))) (fun (_ : Unit) => [oC x 8 [.ref ak, .ref am, .ref ao, .ref av, .ref ap, .ref ax, .ref ay, .int (nI ec), .ref ad, .ref an, .ref ab, .int (nI vn), .ref ar, .ref ac, .int us, .int ro, .int pr, .ref at_, .int (nI tn), .ref as_, .int (nI sn), .ref aq, .int (nI qn), .int wa, .int (nI hp), .long nm, .int (nI ns), .int (zI la), .int (zI sl)]]) := by
  refine kMet (Qc := fun A => va_Qi _ (Bw G A _) A) (cc := cX8_dots) (nL := 1) (ret := some (.boolean)) (by decide) rfl (Nat.le_of_ble_eq_true rfl) ?_
  intro p e s m args below meth c A Q hF hr hlk hnme hK hP hD hA hS hQ hsz ls hl
  have hl : lv_has ls 1 [(0, .ref x)] := hl
  refine lv_aload_n hF.1 hF.2.1 dX8_dots_0 rfl (lv_at hl 0 rfl) ?_
  refine kGet (C := RX8) (T := TX8) (N := 29) (index := 92) hF hK hP (inT inBX8) 0 rfl rfl 25 (by decide) rfl (List.mem_cons_of_mem _ mF_X8_92) rfl dX8_dots_1 ?_
  refine lv_ldc2 (v := lN 46) hF.1 hF.2.1 hF.2.2.2.1 (hF.2.2.2.2 _ (List.mem_cons_of_mem _ mG_X8_130)) dX8_dots_4 ?_
  refine W.lcmp hF.1 hF.2.1 dX8_dots_7 ?_
  refine kIfEqC (tgt := 22) hF dX8_dots_8 (by decide) (fun c_1 => ?_) (fun c_1 => ?_)
  · refine lv_iconst (v := (nI 1)) hF.1 hF.2.1 dX8_dots_22 (by decide) ?_
    refine lv_goto (tgt := 27) hF.1 hF.2.1 dX8_dots_23 (by decide) ?_
    refine kRetI (v := (nI 1)) hF hr hlk hK hP hD hS hQ rfl () [0] (by decide) rfl (Nat.le_of_ble_eq_true rfl) (Nat.le_of_ble_eq_true rfl) dX8_dots_27 ?_
    exact zI_1 (by first | exact Or.inl (by assumption) | exact Or.inr (by assumption))
  · refine lv_aload_n hF.1 hF.2.1 dX8_dots_11 rfl (lv_at hl 0 rfl) ?_
    refine kGet (C := RX8) (T := TX8) (N := 29) (index := 92) hF hK hP (inT inBX8) 0 rfl rfl 25 (by decide) rfl (List.mem_cons_of_mem _ mF_X8_92) rfl dX8_dots_12 ?_
    refine lv_ldc2 (v := lN 5934) hF.1 hF.2.1 hF.2.2.2.1 (hF.2.2.2.2 _ (List.mem_cons_of_mem _ mG_X8_124)) dX8_dots_15 ?_
    refine W.lcmp hF.1 hF.2.1 dX8_dots_18 ?_
    refine kIfNeC (tgt := 26) hF dX8_dots_19 (by decide) (fun c_2 => ?_) (fun c_2 => ?_)
    · refine lv_iconst (v := (nI 0)) hF.1 hF.2.1 dX8_dots_26 (by decide) ?_
      refine kRetI (v := (nI 0)) hF hr hlk hK hP hD hS hQ rfl () [0] (by decide) rfl (Nat.le_of_ble_eq_true rfl) (Nat.le_of_ble_eq_true rfl) dX8_dots_27 ?_
      exact zI_0 (fun h => by rcases h with h | h <;> contradiction)
    · refine lv_iconst (v := (nI 1)) hF.1 hF.2.1 dX8_dots_22 (by decide) ?_
      refine lv_goto (tgt := 27) hF.1 hF.2.1 dX8_dots_23 (by decide) ?_
      refine kRetI (v := (nI 1)) hF hr hlk hK hP hD hS hQ rfl () [0] (by decide) rfl (Nat.le_of_ble_eq_true rfl) (Nat.le_of_ble_eq_true rfl) dX8_dots_27 ?_
      exact zI_1 (by first | exact Or.inl (by assumption) | exact Or.inr (by assumption))
set_option maxHeartbeats 4000000 in
set_option maxRecDepth 100000 in
theorem c_X8_addEntry (l : Launch) (G : GG) (sz : Nat) (x : Nat) (ak : Nat) (am : Nat) (ao : Nat) (av : Nat) (ap : Nat) (ax : Nat) (ay : Nat) (ad : Nat) (an : Nat) (ab : Nat) (ar : Nat) (ac : Nat) (at_ : Nat) (as_ : Nat) (aq : Nat) (ec : Nat) (vn : Nat) (tn : Nat) (sn : Nat) (qn : Nat) (hp : Nat) (ns : Nat) (us : Int32) (ro : Int32) (pr : Int32) (wa : Int32) (nm : Int64) (la : Prop) (sl : Prop) (dF : Nat → Int32) (nF : Nat → Int64) (bF : Nat → Int32) (o : Int32) (hec : ec < 80) : CtI l G yX8_addEntry wsX8_addEntry 0 0 0 0 sz [.ref x, .int o] [oC x 8 [.ref ak, .ref am, .ref ao, .ref av, .ref ap, .ref ax, .ref ay, .int (nI ec), .ref ad, .ref an, .ref ab, .int (nI vn), .ref ar, .ref ac, .int us, .int ro, .int pr, .ref at_, .int (nI tn), .ref as_, .int (nI sn), .ref aq, .int (nI qn), .int wa, .int (nI hp), .long nm, .int (nI ns), .int (zI la), .int (zI sl)], aI G ad 80 dF, aJ G an 80 nF, aI G ab 80 bF] (fun r (_ : Unit) => r = o) (fun (_ : Unit) => [oC x 8 [.ref ak, .ref am, .ref ao, .ref av, .ref ap, .ref ax, .ref ay, .int (nI (ec + 1)), .ref ad, .ref an, .ref ab, .int (nI vn), .ref ar, .ref ac, .int us, .int ro, .int pr, .ref at_, .int (nI tn), .ref as_, .int (nI sn), .ref aq, .int (nI qn), .int wa, .int (nI hp), .long nm, .int (nI ns), .int (zI la), .int (zI sl)], aI G ad 80 (upd dF ec wa), aJ G an 80 (vp_updL nF ec nm), aI G ab 80 (upd bF ec o)]) := by
  refine kMet (Qc := fun A => va_Qi _ (Bw G A _) A) (cc := cX8_addEntry) (nL := 2) (ret := some (.int)) (by decide) rfl (Nat.le_of_ble_eq_true rfl) ?_
  intro p e s m args below meth c A Q hF hr hlk hnme hK hP hD hA hS hQ hsz ls hl
  have hl : lv_has ls 2 [(0, .ref x), (1, .int o)] := hl
  refine lv_aload_n hF.1 hF.2.1 dX8_addEntry_0 rfl (lv_at hl 0 rfl) ?_
  refine kGet (C := RX8) (T := TX8) (N := 29) (index := 31) hF hK hP (inT inBX8) 0 rfl rfl 8 (by decide) rfl (List.mem_cons_of_mem _ mF_X8_31) rfl dX8_addEntry_1 ?_
  refine lv_aload_n hF.1 hF.2.1 dX8_addEntry_4 rfl (lv_at hl 0 rfl) ?_
  refine kGet (C := RX8) (T := TX8) (N := 29) (index := 82) hF hK hP (inT inBX8) 0 rfl rfl 7 (by decide) rfl (List.mem_cons_of_mem _ mF_X8_82) rfl dX8_addEntry_5 ?_
  refine lv_aload_n hF.1 hF.2.1 dX8_addEntry_8 rfl (lv_at hl 0 rfl) ?_
  refine kGet (C := RX8) (T := TX8) (N := 29) (index := 114) hF hK hP (inT inBX8) 0 rfl rfl 23 (by decide) rfl (List.mem_cons_of_mem _ mF_X8_114) rfl dX8_addEntry_9 ?_
  refine kIastN hF hK hP hD hS 1 rfl (by omega) (by decide) dX8_addEntry_12 (fun H locs hP hD hS => ?_)
  have hP : PG G [oC x 8 [.ref ak, .ref am, .ref ao, .ref av, .ref ap, .ref ax, .ref ay, .int (nI ec), .ref ad, .ref an, .ref ab, .int (nI vn), .ref ar, .ref ac, .int us, .int ro, .int pr, .ref at_, .int (nI tn), .ref as_, .int (nI sn), .ref aq, .int (nI qn), .int wa, .int (nI hp), .long nm, .int (nI ns), .int (zI la), .int (zI sl)], aI G ad 80 (upd dF ec wa), aJ G an 80 nF, aI G ab 80 bF] H := hP
  have hD : va_D A [oC x 8 [.ref ak, .ref am, .ref ao, .ref av, .ref ap, .ref ax, .ref ay, .int (nI ec), .ref ad, .ref an, .ref ab, .int (nI vn), .ref ar, .ref ac, .int us, .int ro, .int pr, .ref at_, .int (nI tn), .ref as_, .int (nI sn), .ref aq, .int (nI qn), .int wa, .int (nI hp), .long nm, .int (nI ns), .int (zI la), .int (zI sl)], aI G ad 80 (upd dF ec wa), aJ G an 80 nF, aI G ab 80 bF] := hD
  refine lv_aload_n hF.1 hF.2.1 dX8_addEntry_13 rfl (lv_at hl 0 rfl) ?_
  refine kGet (C := RX8) (T := TX8) (N := 29) (index := 34) hF hK hP (inT inBX8) 0 rfl rfl 9 (by decide) rfl (List.mem_cons_of_mem _ mF_X8_34) rfl dX8_addEntry_14 ?_
  refine lv_aload_n hF.1 hF.2.1 dX8_addEntry_17 rfl (lv_at hl 0 rfl) ?_
  refine kGet (C := RX8) (T := TX8) (N := 29) (index := 82) hF hK hP (inT inBX8) 0 rfl rfl 7 (by decide) rfl (List.mem_cons_of_mem _ mF_X8_82) rfl dX8_addEntry_18 ?_
  refine lv_aload_n hF.1 hF.2.1 dX8_addEntry_21 rfl (lv_at hl 0 rfl) ?_
  refine kGet (C := RX8) (T := TX8) (N := 29) (index := 92) hF hK hP (inT inBX8) 0 rfl rfl 25 (by decide) rfl (List.mem_cons_of_mem _ mF_X8_92) rfl dX8_addEntry_22 ?_
  refine kLastN hF hK hP hD hS 2 rfl (by omega) (by decide) dX8_addEntry_25 (fun H locs hP hD hS => ?_)
  have hP : PG G [oC x 8 [.ref ak, .ref am, .ref ao, .ref av, .ref ap, .ref ax, .ref ay, .int (nI ec), .ref ad, .ref an, .ref ab, .int (nI vn), .ref ar, .ref ac, .int us, .int ro, .int pr, .ref at_, .int (nI tn), .ref as_, .int (nI sn), .ref aq, .int (nI qn), .int wa, .int (nI hp), .long nm, .int (nI ns), .int (zI la), .int (zI sl)], aI G ad 80 (upd dF ec wa), aJ G an 80 (vp_updL nF ec nm), aI G ab 80 bF] H := hP
  have hD : va_D A [oC x 8 [.ref ak, .ref am, .ref ao, .ref av, .ref ap, .ref ax, .ref ay, .int (nI ec), .ref ad, .ref an, .ref ab, .int (nI vn), .ref ar, .ref ac, .int us, .int ro, .int pr, .ref at_, .int (nI tn), .ref as_, .int (nI sn), .ref aq, .int (nI qn), .int wa, .int (nI hp), .long nm, .int (nI ns), .int (zI la), .int (zI sl)], aI G ad 80 (upd dF ec wa), aJ G an 80 (vp_updL nF ec nm), aI G ab 80 bF] := hD
  refine lv_aload_n hF.1 hF.2.1 dX8_addEntry_26 rfl (lv_at hl 0 rfl) ?_
  refine kGet (C := RX8) (T := TX8) (N := 29) (index := 38) hF hK hP (inT inBX8) 0 rfl rfl 10 (by decide) rfl (List.mem_cons_of_mem _ mF_X8_38) rfl dX8_addEntry_27 ?_
  refine lv_aload_n hF.1 hF.2.1 dX8_addEntry_30 rfl (lv_at hl 0 rfl) ?_
  refine kGet (C := RX8) (T := TX8) (N := 29) (index := 82) hF hK hP (inT inBX8) 0 rfl rfl 7 (by decide) rfl (List.mem_cons_of_mem _ mF_X8_82) rfl dX8_addEntry_31 ?_
  refine lv_iload_n hF.1 hF.2.1 dX8_addEntry_34 rfl (lv_at hl 1 rfl) ?_
  refine kIastN hF hK hP hD hS 3 rfl (by omega) (by decide) dX8_addEntry_35 (fun H locs hP hD hS => ?_)
  have hP : PG G [oC x 8 [.ref ak, .ref am, .ref ao, .ref av, .ref ap, .ref ax, .ref ay, .int (nI ec), .ref ad, .ref an, .ref ab, .int (nI vn), .ref ar, .ref ac, .int us, .int ro, .int pr, .ref at_, .int (nI tn), .ref as_, .int (nI sn), .ref aq, .int (nI qn), .int wa, .int (nI hp), .long nm, .int (nI ns), .int (zI la), .int (zI sl)], aI G ad 80 (upd dF ec wa), aJ G an 80 (vp_updL nF ec nm), aI G ab 80 (upd bF ec o)] H := hP
  have hD : va_D A [oC x 8 [.ref ak, .ref am, .ref ao, .ref av, .ref ap, .ref ax, .ref ay, .int (nI ec), .ref ad, .ref an, .ref ab, .int (nI vn), .ref ar, .ref ac, .int us, .int ro, .int pr, .ref at_, .int (nI tn), .ref as_, .int (nI sn), .ref aq, .int (nI qn), .int wa, .int (nI hp), .long nm, .int (nI ns), .int (zI la), .int (zI sl)], aI G ad 80 (upd dF ec wa), aJ G an 80 (vp_updL nF ec nm), aI G ab 80 (upd bF ec o)] := hD
  refine lv_aload_n hF.1 hF.2.1 dX8_addEntry_36 rfl (lv_at hl 0 rfl) ?_
  refine lv_aload_n hF.1 hF.2.1 dX8_addEntry_37 rfl (lv_at hl 0 rfl) ?_
  refine kGet (C := RX8) (T := TX8) (N := 29) (index := 82) hF hK hP (inT inBX8) 0 rfl rfl 7 (by decide) rfl (List.mem_cons_of_mem _ mF_X8_82) rfl dX8_addEntry_38 ?_
  refine lv_iconst (v := (nI 1)) hF.1 hF.2.1 dX8_addEntry_41 (by decide) ?_
  refine lv_iadd hF.1 hF.2.1 dX8_addEntry_42 ?_
  refine kTop (y := (nI (ec + 1))) (nI_add _ _) ?_
  refine kPut (C := RX8) (T := TX8) (N := 29) (index := 82) (v := .int (nI (ec + 1))) hF hK hP hD hS (inT inBX8) tyX8_ok nmX8 0 rfl rfl 7 (by decide) rfl (List.mem_cons_of_mem _ mF_X8_82) rfl rfl rfl (Nat.le_of_ble_eq_true rfl) dX8_addEntry_43 (fun H locs hP hD hS => ?_)
  have hP : PG G [oC x 8 [.ref ak, .ref am, .ref ao, .ref av, .ref ap, .ref ax, .ref ay, .int (nI (ec + 1)), .ref ad, .ref an, .ref ab, .int (nI vn), .ref ar, .ref ac, .int us, .int ro, .int pr, .ref at_, .int (nI tn), .ref as_, .int (nI sn), .ref aq, .int (nI qn), .int wa, .int (nI hp), .long nm, .int (nI ns), .int (zI la), .int (zI sl)], aI G ad 80 (upd dF ec wa), aJ G an 80 (vp_updL nF ec nm), aI G ab 80 (upd bF ec o)] H := hP
  have hD : va_D A [oC x 8 [.ref ak, .ref am, .ref ao, .ref av, .ref ap, .ref ax, .ref ay, .int (nI (ec + 1)), .ref ad, .ref an, .ref ab, .int (nI vn), .ref ar, .ref ac, .int us, .int ro, .int pr, .ref at_, .int (nI tn), .ref as_, .int (nI sn), .ref aq, .int (nI qn), .int wa, .int (nI hp), .long nm, .int (nI ns), .int (zI la), .int (zI sl)], aI G ad 80 (upd dF ec wa), aJ G an 80 (vp_updL nF ec nm), aI G ab 80 (upd bF ec o)] := hD
  refine lv_iload_n hF.1 hF.2.1 dX8_addEntry_46 rfl (lv_at hl 1 rfl) ?_
  refine kRetI (v := o) hF hr hlk hK hP hD hS hQ rfl () [0, 1, 2, 3] (by decide) rfl (Nat.le_of_ble_eq_true rfl) (Nat.le_of_ble_eq_true rfl) dX8_addEntry_47 ?_
  exact (by first | rfl | trivial | exact zI_1 (by first | assumption | omega) | exact zI_0 (by first | assumption | omega) | (simp_all; done))
set_option maxHeartbeats 4000000 in
set_option maxRecDepth 100000 in
theorem c_X8_entriesFor (l : Launch) (G : GG) (sz : Nat) (x : Nat) (ak : Nat) (am : Nat) (ao : Nat) (av : Nat) (ap : Nat) (ax : Nat) (ay : Nat) (ad : Nat) (an : Nat) (ab : Nat) (ar : Nat) (ac : Nat) (at_ : Nat) (as_ : Nat) (aq : Nat) (ec : Nat) (vn : Nat) (tn : Nat) (sn : Nat) (qn : Nat) (hp : Nat) (ns : Nat) (us : Int32) (ro : Int32) (pr : Int32) (wa : Int32) (nm : Int64) (la : Prop) (sl : Prop) (bF : Nat → Int32) (o : Int32) (hec : ec ≤ 80) : CtI l G yX8_entriesFor wsX8_entriesFor 0 0 0 0 sz [.ref x, .int o] [oC x 8 [.ref ak, .ref am, .ref ao, .ref av, .ref ap, .ref ax, .ref ay, .int (nI ec), .ref ad, .ref an, .ref ab, .int (nI vn), .ref ar, .ref ac, .int us, .int ro, .int pr, .ref at_, .int (nI tn), .ref as_, .int (nI sn), .ref aq, .int (nI qn), .int wa, .int (nI hp), .long nm, .int (nI ns), .int (zI la), .int (zI sl)], aI G ab 80 bF] (fun r (_ : Unit) => r = (nI (cntB (fun j => decide (bF j = o)) ec))) (fun (_ : Unit) => [oC x 8 [.ref ak, .ref am, .ref ao, .ref av, .ref ap, .ref ax, .ref ay, .int (nI ec), .ref ad, .ref an, .ref ab, .int (nI vn), .ref ar, .ref ac, .int us, .int ro, .int pr, .ref at_, .int (nI tn), .ref as_, .int (nI sn), .ref aq, .int (nI qn), .int wa, .int (nI hp), .long nm, .int (nI ns), .int (zI la), .int (zI sl)], aI G ab 80 bF]) := by
  refine kMet (Qc := fun A => va_Qi _ (Bw G A _) A) (cc := cX8_entriesFor) (nL := 4) (ret := some (.int)) (by decide) rfl (Nat.le_of_ble_eq_true rfl) ?_
  intro p e s m args below meth c A Q hF hr hlk hnme hK hP hD hA hS hQ hsz ls hl
  have hl : lv_has ls 4 [(0, .ref x), (1, .int o)] := hl
  refine lv_iconst (v := (nI 0)) hF.1 hF.2.1 dX8_entriesFor_0 (by decide) ?_
  refine lv_istore_n (lv' := [(2, .int (nI 0)), (0, .ref x), (1, .int o)]) hF.1 hF.2.1 dX8_entriesFor_1 rfl hl (by decide) rfl (fun ls hl => ?_)
  refine lv_iconst (v := (nI 0)) hF.1 hF.2.1 dX8_entriesFor_2 (by decide) ?_
  refine lv_istore_n (lv' := [(3, .int (nI 0)), (2, .int (nI 0)), (0, .ref x), (1, .int o)]) hF.1 hF.2.1 dX8_entriesFor_3 rfl hl (by decide) rfl (fun ls hl => ?_)
  have loop_4 : ∀ (n_4 : Nat) (k fd : Nat), ec - k < n_4 → (k ≤ ec ∧ fd ≤ k) → (fd = cntB (fun j => decide (bF j = o)) k) → ∀ (H : Heap) (locs : List Loc) (ls : Array Slot), PG G [oC x 8 [.ref ak, .ref am, .ref ao, .ref av, .ref ap, .ref ax, .ref ay, .int (nI ec), .ref ad, .ref an, .ref ab, .int (nI vn), .ref ar, .ref ac, .int us, .int ro, .int pr, .ref at_, .int (nI tn), .ref as_, .int (nI sn), .ref aq, .int (nI qn), .int wa, .int (nI hp), .long nm, .int (nI ns), .int (zI la), .int (zI sl)], aI G ab 80 bF] H → va_D A [oC x 8 [.ref ak, .ref am, .ref ao, .ref av, .ref ap, .ref ax, .ref ay, .int (nI ec), .ref ad, .ref an, .ref ab, .int (nI vn), .ref ar, .ref ac, .int us, .int ro, .int pr, .ref at_, .int (nI tn), .ref as_, .int (nI sn), .ref aq, .int (nI qn), .int wa, .int (nI hp), .long nm, .int (nI ns), .int (zI la), .int (zI sl)], aI G ab 80 bF] → va_S A s.heap H locs → lv_has ls 4 [(3, .int (nI k)), (2, .int (nI fd)), (0, .ref x), (1, .int o)] → W p l e (Rm 0 0 0 0) s m args below meth c H locs 0 0 Q (F0 m 4 ls []) := by
    intro n_4
    induction n_4 with
    | zero => intro k fd hm; exact absurd hm (Nat.not_lt_zero _)
    | succ n_4 ih_4 =>
      intro k fd hm_4 hk hc H locs ls hP hD hS hl
      refine lv_iload_n hF.1 hF.2.1 dX8_entriesFor_4 rfl (lv_at hl 0 rfl) ?_
      refine lv_aload_n hF.1 hF.2.1 dX8_entriesFor_5 rfl (lv_at hl 2 rfl) ?_
      refine kGet (C := RX8) (T := TX8) (N := 29) (index := 82) hF hK hP (inT inBX8) 0 rfl rfl 7 (by decide) rfl (List.mem_cons_of_mem _ mF_X8_82) rfl dX8_entriesFor_6 ?_
      refine kGeN (tgt := 36) hF dX8_entriesFor_9 (by decide) (by omega) (by omega) (fun c_1 => ?_) (fun c_1 => ?_)
      · refine lv_iload_n hF.1 hF.2.1 dX8_entriesFor_36 rfl (lv_at hl 1 rfl) ?_
        refine kRetI (v := (nI fd)) hF hr hlk hK hP hD hS hQ rfl () [0, 1] (by decide) rfl (Nat.le_of_ble_eq_true rfl) (Nat.le_of_ble_eq_true rfl) dX8_entriesFor_37 ?_
        rw [hc, show k = ec by omega]
      · refine lv_aload_n hF.1 hF.2.1 dX8_entriesFor_12 rfl (lv_at hl 2 rfl) ?_
        refine kGet (C := RX8) (T := TX8) (N := 29) (index := 38) hF hK hP (inT inBX8) 0 rfl rfl 10 (by decide) rfl (List.mem_cons_of_mem _ mF_X8_38) rfl dX8_entriesFor_13 ?_
        refine lv_iload_n hF.1 hF.2.1 dX8_entriesFor_16 rfl (lv_at hl 0 rfl) ?_
        refine kIaldN hF hK hP 1 rfl (by omega) (by decide) dX8_entriesFor_17 ?_
        refine lv_iload_n hF.1 hF.2.1 dX8_entriesFor_18 rfl (lv_at hl 3 rfl) ?_
        refine lv_icmp_ne (tgt := 28) hF.1 hF.2.1 dX8_entriesFor_19 (by decide) (fun c_2 => ?_) (fun c_2 => ?_)
        · refine lv_iload_n hF.1 hF.2.1 dX8_entriesFor_28 rfl (lv_at hl 1 rfl) ?_
          refine lv_istore_n (lv' := [(2, .int (nI fd)), (3, .int (nI k)), (0, .ref x), (1, .int o)]) hF.1 hF.2.1 dX8_entriesFor_29 rfl hl (by decide) rfl (fun ls hl => ?_)
          refine lv_iinc (v := (nI (k + 1))) (lv' := [(3, .int (nI (k + 1))), (2, .int (nI fd)), (0, .ref x), (1, .int o)]) hF.1 hF.2.1 dX8_entriesFor_30 hl (k := 1) rfl (nI_inc1 _) (by decide) rfl (fun ls hl => ?_)
          refine lv_goto (tgt := 4) hF.1 hF.2.1 dX8_entriesFor_33 (by decide) ?_
          exact ih_4 (k + 1) fd (by omega) (by omega) (by first | (rw [cntB_t (p := fun j => decide (bF j = o)) (decide_eq_true (by assumption))]; omega) | (rw [cntB_f (p := fun j => decide (bF j = o)) (decide_eq_false (by assumption))]; omega)) H locs ls hP hD hS (lv_sub hl [0, 1, 2, 3] rfl)
        · refine lv_iload_n hF.1 hF.2.1 dX8_entriesFor_22 rfl (lv_at hl 1 rfl) ?_
          refine lv_iconst (v := (nI 1)) hF.1 hF.2.1 dX8_entriesFor_23 (by decide) ?_
          refine lv_iadd hF.1 hF.2.1 dX8_entriesFor_24 ?_
          refine kTop (y := (nI (fd + 1))) (nI_add _ _) ?_
          refine lv_goto (tgt := 29) hF.1 hF.2.1 dX8_entriesFor_25 (by decide) ?_
          refine lv_istore_n (lv' := [(2, .int (nI (fd + 1))), (3, .int (nI k)), (0, .ref x), (1, .int o)]) hF.1 hF.2.1 dX8_entriesFor_29 rfl hl (by decide) rfl (fun ls hl => ?_)
          refine lv_iinc (v := (nI (k + 1))) (lv' := [(3, .int (nI (k + 1))), (2, .int (nI (fd + 1))), (0, .ref x), (1, .int o)]) hF.1 hF.2.1 dX8_entriesFor_30 hl (k := 1) rfl (nI_inc1 _) (by decide) rfl (fun ls hl => ?_)
          refine lv_goto (tgt := 4) hF.1 hF.2.1 dX8_entriesFor_33 (by decide) ?_
          exact ih_4 (k + 1) (fd + 1) (by omega) (by omega) (by first | (rw [cntB_t (p := fun j => decide (bF j = o)) (decide_eq_true (by assumption))]; omega) | (rw [cntB_f (p := fun j => decide (bF j = o)) (decide_eq_false (by assumption))]; omega)) H locs ls hP hD hS (lv_sub hl [0, 1, 2, 3] rfl)
  exact loop_4 _ 0 0 (Nat.lt_succ_self _) (by omega) (rfl) _ _ _ hP hD hS (lv_sub hl [0, 1, 2, 3] rfl)
set_option maxHeartbeats 4000000 in
set_option maxRecDepth 100000 in
theorem c_X8_entriesOf (l : Launch) (G : GG) (sz : Nat) (x : Nat) (ak : Nat) (am : Nat) (ao : Nat) (av : Nat) (ap : Nat) (ax : Nat) (ay : Nat) (ad : Nat) (an : Nat) (ab : Nat) (ar : Nat) (ac : Nat) (at_ : Nat) (as_ : Nat) (aq : Nat) (ec : Nat) (vn : Nat) (tn : Nat) (sn : Nat) (qn : Nat) (hp : Nat) (ns : Nat) (us : Int32) (ro : Int32) (pr : Int32) (wa : Int32) (nm : Int64) (la : Prop) (sl : Prop) (dF : Nat → Int32) (o : Int32) (hec : ec ≤ 80) : CtI l G yX8_entriesOf wsX8_entriesOf 0 0 0 0 sz [.ref x, .int o] [oC x 8 [.ref ak, .ref am, .ref ao, .ref av, .ref ap, .ref ax, .ref ay, .int (nI ec), .ref ad, .ref an, .ref ab, .int (nI vn), .ref ar, .ref ac, .int us, .int ro, .int pr, .ref at_, .int (nI tn), .ref as_, .int (nI sn), .ref aq, .int (nI qn), .int wa, .int (nI hp), .long nm, .int (nI ns), .int (zI la), .int (zI sl)], aI G ad 80 dF] (fun r (_ : Unit) => r = (nI (cntB (fun j => decide (dF j = o)) ec))) (fun (_ : Unit) => [oC x 8 [.ref ak, .ref am, .ref ao, .ref av, .ref ap, .ref ax, .ref ay, .int (nI ec), .ref ad, .ref an, .ref ab, .int (nI vn), .ref ar, .ref ac, .int us, .int ro, .int pr, .ref at_, .int (nI tn), .ref as_, .int (nI sn), .ref aq, .int (nI qn), .int wa, .int (nI hp), .long nm, .int (nI ns), .int (zI la), .int (zI sl)], aI G ad 80 dF]) := by
  refine kMet (Qc := fun A => va_Qi _ (Bw G A _) A) (cc := cX8_entriesOf) (nL := 4) (ret := some (.int)) (by decide) rfl (Nat.le_of_ble_eq_true rfl) ?_
  intro p e s m args below meth c A Q hF hr hlk hnme hK hP hD hA hS hQ hsz ls hl
  have hl : lv_has ls 4 [(0, .ref x), (1, .int o)] := hl
  refine lv_iconst (v := (nI 0)) hF.1 hF.2.1 dX8_entriesOf_0 (by decide) ?_
  refine lv_istore_n (lv' := [(2, .int (nI 0)), (0, .ref x), (1, .int o)]) hF.1 hF.2.1 dX8_entriesOf_1 rfl hl (by decide) rfl (fun ls hl => ?_)
  refine lv_iconst (v := (nI 0)) hF.1 hF.2.1 dX8_entriesOf_2 (by decide) ?_
  refine lv_istore_n (lv' := [(3, .int (nI 0)), (2, .int (nI 0)), (0, .ref x), (1, .int o)]) hF.1 hF.2.1 dX8_entriesOf_3 rfl hl (by decide) rfl (fun ls hl => ?_)
  have loop_4 : ∀ (n_4 : Nat) (k fd : Nat), ec - k < n_4 → (k ≤ ec ∧ fd ≤ k) → (fd = cntB (fun j => decide (dF j = o)) k) → ∀ (H : Heap) (locs : List Loc) (ls : Array Slot), PG G [oC x 8 [.ref ak, .ref am, .ref ao, .ref av, .ref ap, .ref ax, .ref ay, .int (nI ec), .ref ad, .ref an, .ref ab, .int (nI vn), .ref ar, .ref ac, .int us, .int ro, .int pr, .ref at_, .int (nI tn), .ref as_, .int (nI sn), .ref aq, .int (nI qn), .int wa, .int (nI hp), .long nm, .int (nI ns), .int (zI la), .int (zI sl)], aI G ad 80 dF] H → va_D A [oC x 8 [.ref ak, .ref am, .ref ao, .ref av, .ref ap, .ref ax, .ref ay, .int (nI ec), .ref ad, .ref an, .ref ab, .int (nI vn), .ref ar, .ref ac, .int us, .int ro, .int pr, .ref at_, .int (nI tn), .ref as_, .int (nI sn), .ref aq, .int (nI qn), .int wa, .int (nI hp), .long nm, .int (nI ns), .int (zI la), .int (zI sl)], aI G ad 80 dF] → va_S A s.heap H locs → lv_has ls 4 [(3, .int (nI k)), (2, .int (nI fd)), (0, .ref x), (1, .int o)] → W p l e (Rm 0 0 0 0) s m args below meth c H locs 0 0 Q (F0 m 4 ls []) := by
    intro n_4
    induction n_4 with
    | zero => intro k fd hm; exact absurd hm (Nat.not_lt_zero _)
    | succ n_4 ih_4 =>
      intro k fd hm_4 hk hc H locs ls hP hD hS hl
      refine lv_iload_n hF.1 hF.2.1 dX8_entriesOf_4 rfl (lv_at hl 0 rfl) ?_
      refine lv_aload_n hF.1 hF.2.1 dX8_entriesOf_5 rfl (lv_at hl 2 rfl) ?_
      refine kGet (C := RX8) (T := TX8) (N := 29) (index := 82) hF hK hP (inT inBX8) 0 rfl rfl 7 (by decide) rfl (List.mem_cons_of_mem _ mF_X8_82) rfl dX8_entriesOf_6 ?_
      refine kGeN (tgt := 36) hF dX8_entriesOf_9 (by decide) (by omega) (by omega) (fun c_1 => ?_) (fun c_1 => ?_)
      · refine lv_iload_n hF.1 hF.2.1 dX8_entriesOf_36 rfl (lv_at hl 1 rfl) ?_
        refine kRetI (v := (nI fd)) hF hr hlk hK hP hD hS hQ rfl () [0, 1] (by decide) rfl (Nat.le_of_ble_eq_true rfl) (Nat.le_of_ble_eq_true rfl) dX8_entriesOf_37 ?_
        rw [hc, show k = ec by omega]
      · refine lv_aload_n hF.1 hF.2.1 dX8_entriesOf_12 rfl (lv_at hl 2 rfl) ?_
        refine kGet (C := RX8) (T := TX8) (N := 29) (index := 31) hF hK hP (inT inBX8) 0 rfl rfl 8 (by decide) rfl (List.mem_cons_of_mem _ mF_X8_31) rfl dX8_entriesOf_13 ?_
        refine lv_iload_n hF.1 hF.2.1 dX8_entriesOf_16 rfl (lv_at hl 0 rfl) ?_
        refine kIaldN hF hK hP 1 rfl (by omega) (by decide) dX8_entriesOf_17 ?_
        refine lv_iload_n hF.1 hF.2.1 dX8_entriesOf_18 rfl (lv_at hl 3 rfl) ?_
        refine lv_icmp_ne (tgt := 28) hF.1 hF.2.1 dX8_entriesOf_19 (by decide) (fun c_2 => ?_) (fun c_2 => ?_)
        · refine lv_iload_n hF.1 hF.2.1 dX8_entriesOf_28 rfl (lv_at hl 1 rfl) ?_
          refine lv_istore_n (lv' := [(2, .int (nI fd)), (3, .int (nI k)), (0, .ref x), (1, .int o)]) hF.1 hF.2.1 dX8_entriesOf_29 rfl hl (by decide) rfl (fun ls hl => ?_)
          refine lv_iinc (v := (nI (k + 1))) (lv' := [(3, .int (nI (k + 1))), (2, .int (nI fd)), (0, .ref x), (1, .int o)]) hF.1 hF.2.1 dX8_entriesOf_30 hl (k := 1) rfl (nI_inc1 _) (by decide) rfl (fun ls hl => ?_)
          refine lv_goto (tgt := 4) hF.1 hF.2.1 dX8_entriesOf_33 (by decide) ?_
          exact ih_4 (k + 1) fd (by omega) (by omega) (by first | (rw [cntB_t (p := fun j => decide (dF j = o)) (decide_eq_true (by assumption))]; omega) | (rw [cntB_f (p := fun j => decide (dF j = o)) (decide_eq_false (by assumption))]; omega)) H locs ls hP hD hS (lv_sub hl [0, 1, 2, 3] rfl)
        · refine lv_iload_n hF.1 hF.2.1 dX8_entriesOf_22 rfl (lv_at hl 1 rfl) ?_
          refine lv_iconst (v := (nI 1)) hF.1 hF.2.1 dX8_entriesOf_23 (by decide) ?_
          refine lv_iadd hF.1 hF.2.1 dX8_entriesOf_24 ?_
          refine kTop (y := (nI (fd + 1))) (nI_add _ _) ?_
          refine lv_goto (tgt := 29) hF.1 hF.2.1 dX8_entriesOf_25 (by decide) ?_
          refine lv_istore_n (lv' := [(2, .int (nI (fd + 1))), (3, .int (nI k)), (0, .ref x), (1, .int o)]) hF.1 hF.2.1 dX8_entriesOf_29 rfl hl (by decide) rfl (fun ls hl => ?_)
          refine lv_iinc (v := (nI (k + 1))) (lv' := [(3, .int (nI (k + 1))), (2, .int (nI (fd + 1))), (0, .ref x), (1, .int o)]) hF.1 hF.2.1 dX8_entriesOf_30 hl (k := 1) rfl (nI_inc1 _) (by decide) rfl (fun ls hl => ?_)
          refine lv_goto (tgt := 4) hF.1 hF.2.1 dX8_entriesOf_33 (by decide) ?_
          exact ih_4 (k + 1) (fd + 1) (by omega) (by omega) (by first | (rw [cntB_t (p := fun j => decide (dF j = o)) (decide_eq_true (by assumption))]; omega) | (rw [cntB_f (p := fun j => decide (dF j = o)) (decide_eq_false (by assumption))]; omega)) H locs ls hP hD hS (lv_sub hl [0, 1, 2, 3] rfl)
  exact loop_4 _ 0 0 (Nat.lt_succ_self _) (by omega) (rfl) _ _ _ hP hD hS (lv_sub hl [0, 1, 2, 3] rfl)
set_option maxHeartbeats 4000000 in
set_option maxRecDepth 100000 in
theorem c_X8_user (l : Launch) (G : GG) (sz : Nat) (x : Nat) (ak : Nat) (am : Nat) (ao : Nat) (av : Nat) (ap : Nat) (ax : Nat) (ay : Nat) (ad : Nat) (an : Nat) (ab : Nat) (ar : Nat) (ac : Nat) (at_ : Nat) (as_ : Nat) (aq : Nat) (ec : Nat) (vn : Nat) (tn : Nat) (sn : Nat) (qn : Nat) (hp : Nat) (ns : Nat) (us : Int32) (ro : Int32) (pr : Int32) (wa : Int32) (nm : Int64) (la : Prop) (sl : Prop) (uu : Int32) : CtI l G yX8_user wsX8_user 0 0 0 0 sz [.ref x, .int uu] [oC x 8 [.ref ak, .ref am, .ref ao, .ref av, .ref ap, .ref ax, .ref ay, .int (nI ec), .ref ad, .ref an, .ref ab, .int (nI vn), .ref ar, .ref ac, .int us, .int ro, .int pr, .ref at_, .int (nI tn), .ref as_, .int (nI sn), .ref aq, .int (nI qn), .int wa, .int (nI hp), .long nm, .int (nI ns), .int (zI la), .int (zI sl)]] (fun r (u : Int32) => match u with | (u2) => r = (zI (¬ uu < 0 ∧ ¬ nI 3 < uu)) ∧ u2 = pI (¬ uu < 0 ∧ ¬ nI 3 < uu) uu us) (fun (u : Int32) => match u with | (u2) => [oC x 8 [.ref ak, .ref am, .ref ao, .ref av, .ref ap, .ref ax, .ref ay, .int (nI ec), .ref ad, .ref an, .ref ab, .int (nI vn), .ref ar, .ref ac, .int u2, .int ro, .int pr, .ref at_, .int (nI tn), .ref as_, .int (nI sn), .ref aq, .int (nI qn), .int wa, .int (nI hp), .long nm, .int (nI ns), .int (zI la), .int (zI sl)]]) := by
  refine kMet (Qc := fun A => va_Qi _ (Bw G A _) A) (cc := cX8_user) (nL := 2) (ret := some (.boolean)) (by decide) rfl (Nat.le_of_ble_eq_true rfl) ?_
  intro p e s m args below meth c A Q hF hr hlk hnme hK hP hD hA hS hQ hsz ls hl
  have hl : lv_has ls 2 [(0, .ref x), (1, .int uu)] := hl
  refine lv_iload_n hF.1 hF.2.1 dX8_user_0 rfl (lv_at hl 1 rfl) ?_
  refine lv_if_lt (tgt := 9) hF.1 hF.2.1 dX8_user_1 (by decide) (fun c_1 => ?_) (fun c_1 => ?_)
  · refine lv_iconst (v := (nI 0)) hF.1 hF.2.1 dX8_user_9 (by decide) ?_
    refine kRetI (v := (nI 0)) hF hr hlk hK hP hD hS hQ rfl (us) [0] (by decide) rfl (Nat.le_of_ble_eq_true rfl) (Nat.le_of_ble_eq_true rfl) dX8_user_10 ?_
    exact ⟨zI_0 (fun h => by first | exact absurd (by assumption) h.1 | exact absurd (Int32.not_le.mp (by assumption)) h.2), (pI_f (fun h => by first | exact absurd (by assumption) h.1 | exact absurd (Int32.not_le.mp (by assumption)) h.2)).symm⟩
  · refine lv_iload_n hF.1 hF.2.1 dX8_user_4 rfl (lv_at hl 1 rfl) ?_
    refine lv_iconst (v := (nI 3)) hF.1 hF.2.1 dX8_user_5 (by decide) ?_
    refine lv_icmp_le (tgt := 11) hF.1 hF.2.1 dX8_user_6 (by decide) (fun c_2 => ?_) (fun c_2 => ?_)
    · refine lv_aload_n hF.1 hF.2.1 dX8_user_11 rfl (lv_at hl 0 rfl) ?_
      refine lv_iload_n hF.1 hF.2.1 dX8_user_12 rfl (lv_at hl 1 rfl) ?_
      refine kPut (C := RX8) (T := TX8) (N := 29) (index := 66) (v := .int uu) hF hK hP hD hS (inT inBX8) tyX8_ok nmX8 0 rfl rfl 14 (by decide) rfl (List.mem_cons_of_mem _ mF_X8_66) rfl rfl rfl (Nat.le_of_ble_eq_true rfl) dX8_user_13 (fun H locs hP hD hS => ?_)
      have hP : PG G [oC x 8 [.ref ak, .ref am, .ref ao, .ref av, .ref ap, .ref ax, .ref ay, .int (nI ec), .ref ad, .ref an, .ref ab, .int (nI vn), .ref ar, .ref ac, .int uu, .int ro, .int pr, .ref at_, .int (nI tn), .ref as_, .int (nI sn), .ref aq, .int (nI qn), .int wa, .int (nI hp), .long nm, .int (nI ns), .int (zI la), .int (zI sl)]] H := hP
      have hD : va_D A [oC x 8 [.ref ak, .ref am, .ref ao, .ref av, .ref ap, .ref ax, .ref ay, .int (nI ec), .ref ad, .ref an, .ref ab, .int (nI vn), .ref ar, .ref ac, .int uu, .int ro, .int pr, .ref at_, .int (nI tn), .ref as_, .int (nI sn), .ref aq, .int (nI qn), .int wa, .int (nI hp), .long nm, .int (nI ns), .int (zI la), .int (zI sl)]] := hD
      refine lv_iconst (v := (nI 1)) hF.1 hF.2.1 dX8_user_16 (by decide) ?_
      refine kRetI (v := (nI 1)) hF hr hlk hK hP hD hS hQ rfl (uu) [0] (by decide) rfl (Nat.le_of_ble_eq_true rfl) (Nat.le_of_ble_eq_true rfl) dX8_user_17 ?_
      exact ⟨zI_1 ⟨by assumption, Int32.not_lt.mpr (by assumption)⟩, (pI_t ⟨by assumption, Int32.not_lt.mpr (by assumption)⟩).symm⟩
    · refine lv_iconst (v := (nI 0)) hF.1 hF.2.1 dX8_user_9 (by decide) ?_
      refine kRetI (v := (nI 0)) hF hr hlk hK hP hD hS hQ rfl (us) [0] (by decide) rfl (Nat.le_of_ble_eq_true rfl) (Nat.le_of_ble_eq_true rfl) dX8_user_10 ?_
      exact ⟨zI_0 (fun h => by first | exact absurd (by assumption) h.1 | exact absurd (Int32.not_le.mp (by assumption)) h.2), (pI_f (fun h => by first | exact absurd (by assumption) h.1 | exact absurd (Int32.not_le.mp (by assumption)) h.2)).symm⟩
set_option maxHeartbeats 4000000 in
set_option maxRecDepth 100000 in
theorem c_X8_kind (l : Launch) (G : GG) (sz : Nat) (x : Nat) (ak : Nat) (am : Nat) (ao : Nat) (av : Nat) (ap : Nat) (ax : Nat) (ay : Nat) (ad : Nat) (an : Nat) (ab : Nat) (ar : Nat) (ac : Nat) (at_ : Nat) (as_ : Nat) (aq : Nat) (ec : Nat) (vn : Nat) (tn : Nat) (sn : Nat) (qn : Nat) (hp : Nat) (ns : Nat) (us : Int32) (ro : Int32) (pr : Int32) (wa : Int32) (nm : Int64) (la : Prop) (sl : Prop) (kF : Nat → Int32) (i : Int32) : CtI l G yX8_kind wsX8_kind 1 21 0 0 sz [.ref x, .int i] [oC x 8 [.ref ak, .ref am, .ref ao, .ref av, .ref ap, .ref ax, .ref ay, .int (nI ec), .ref ad, .ref an, .ref ab, .int (nI vn), .ref ar, .ref ac, .int us, .int ro, .int pr, .ref at_, .int (nI tn), .ref as_, .int (nI sn), .ref aq, .int (nI qn), .int wa, .int (nI hp), .long nm, .int (nI ns), .int (zI la), .int (zI sl)], aI G ak 40 kF] (fun r (_ : Unit) => r = (knC kF i)) (fun (_ : Unit) => [oC x 8 [.ref ak, .ref am, .ref ao, .ref av, .ref ap, .ref ax, .ref ay, .int (nI ec), .ref ad, .ref an, .ref ab, .int (nI vn), .ref ar, .ref ac, .int us, .int ro, .int pr, .ref at_, .int (nI tn), .ref as_, .int (nI sn), .ref aq, .int (nI qn), .int wa, .int (nI hp), .long nm, .int (nI ns), .int (zI la), .int (zI sl)], aI G ak 40 kF]) := by
  refine kMet (Qc := fun A => va_Qi _ (Bw G A _) A) (cc := cX8_kind) (nL := 2) (ret := some (.int)) (by decide) rfl (Nat.le_of_ble_eq_true rfl) ?_
  intro p e s m args below meth c A Q hF hr hlk hnme hK hP hD hA hS hQ hsz ls hl
  have hl : lv_has ls 2 [(0, .ref x), (1, .int i)] := hl
  refine lv_aload_n hF.1 hF.2.1 dX8_kind_0 rfl (lv_at hl 0 rfl) ?_
  refine lv_iload_n hF.1 hF.2.1 dX8_kind_1 rfl (lv_at hl 1 rfl) ?_
  refine kCallI (wr := []) (va_runV (As := [.int i]) (rest := []) hF (c_X8_there l G _ x ak am ao av ap ax ay ad an ab ar ac at_ as_ aq ec vn tn sn qn hp ns us ro pr wa nm la sl kF i) (cwVB 1 hF rfl mL_X8_199 mI_X8_there mS_X8_there mN_X8 mC_X8_there rfl hd_X8_there rfl rfl ⟨Nat.le_of_ble_eq_true rfl, Nat.le_of_ble_eq_true rfl⟩) (kPre hK hP hD [0, 1] (by decide) rfl (q0 := 0) (ci := 8) rfl rfl rfl) rfl rfl hl.1 rfl (lv_room (Nat.le_of_ble_eq_true rfl)) dX8_kind_2 ⟨Nat.le_of_ble_eq_true rfl, Nat.le_of_ble_eq_true rfl⟩) hP hD hS hA [0, 1] [] rfl rfl (by decide) (by decide) (fun r u H locs hw_1 hP hD hS => ?_)
  have hw_1 := hw_1.symm
  subst hw_1
  have hP : PG G [oC x 8 [.ref ak, .ref am, .ref ao, .ref av, .ref ap, .ref ax, .ref ay, .int (nI ec), .ref ad, .ref an, .ref ab, .int (nI vn), .ref ar, .ref ac, .int us, .int ro, .int pr, .ref at_, .int (nI tn), .ref as_, .int (nI sn), .ref aq, .int (nI qn), .int wa, .int (nI hp), .long nm, .int (nI ns), .int (zI la), .int (zI sl)], aI G ak 40 kF] H := hP
  have hD : va_D A [oC x 8 [.ref ak, .ref am, .ref ao, .ref av, .ref ap, .ref ax, .ref ay, .int (nI ec), .ref ad, .ref an, .ref ab, .int (nI vn), .ref ar, .ref ac, .int us, .int ro, .int pr, .ref at_, .int (nI tn), .ref as_, .int (nI sn), .ref aq, .int (nI qn), .int wa, .int (nI hp), .long nm, .int (nI ns), .int (zI la), .int (zI sl)], aI G ak 40 kF] := hD
  refine kIfEqZ (tgt := 17) hF dX8_kind_5 (by decide) (fun c_2 => ?_) (fun c_2 => ?_)
  · refine lv_iconst (v := (nI 0)) hF.1 hF.2.1 dX8_kind_17 (by decide) ?_
    refine kRetI (v := (nI 0)) hF hr hlk hK hP hD hS hQ rfl () [0, 1] (by decide) rfl (Nat.le_of_ble_eq_true rfl) (Nat.le_of_ble_eq_true rfl) dX8_kind_18 ?_
    exact (show knC kF i = nI 0 from Classical.not_not.mp (by assumption)).symm
  · refine lv_aload_n hF.1 hF.2.1 dX8_kind_8 rfl (lv_at hl 0 rfl) ?_
    refine kGet (C := RX8) (T := TX8) (N := 29) (index := 7) hF hK hP (inT inBX8) 0 rfl rfl 0 (by decide) rfl (List.mem_cons_of_mem _ mF_X8_7) rfl dX8_kind_9 ?_
    refine lv_iload_n hF.1 hF.2.1 dX8_kind_12 rfl (lv_at hl 1 rfl) ?_
    refine kIald hF hK hP 1 rfl (knC_in (by assumption)) dX8_kind_13 ?_
    refine lv_goto (tgt := 18) hF.1 hF.2.1 dX8_kind_14 (by decide) ?_
    refine kRetI (v := (kF (ix i))) hF hr hlk hK hP hD hS hQ rfl () [0, 1] (by decide) rfl (Nat.le_of_ble_eq_true rfl) (Nat.le_of_ble_eq_true rfl) dX8_kind_18 ?_
    exact (knC_v (by assumption)).symm
