/-! the law: its start -/
theorem updZ : upd (fun _ => nI 0) (ix (nI 0)) (nI 0) = (fun _ => nI 0) := by funext j; unfold upd; split <;> rfl
theorem updZ0 : upd (fun _ => nI 0) 0 (nI 0) = (fun _ => nI 0) := by funext j; unfold upd; split <;> rfl
abbrev kF0 : Nat → Int32 := upd (fun _ => nI 0) 0 (nI 1)
abbrev mF0 : Nat → Int32 := upd (fun _ => nI 0) 0 (nI 15)
abbrev zF0 : Nat → Int32 := fun _ => nI 0
abbrev cF0 : Nat → Int32 := flF (fun _ => nI 0) 4 (-1)
abbrev nF0 : Nat → Int64 := fun _ => lN 0
theorem z_in : vp_in (nI 0) 40 := vp_in_nI (by decide) (by decide)
theorem kF0_1 {i : Nat} (h : kF0 i = nI 1) : i = 0 := by
  by_cases e : i = 0
  · exact e
  · have h2 : kF0 i = nI 0 := updN e
    rw [h2] at h; exact absurd h (by decide)
theorem TI0 : TI kF0 zF0 zF0 zF0 cF0 1 zF0 zF0 0 := by
  have hc : ∀ v, v < 4 → cF0 v = -1 := fun v hv => if_pos hv
  refine ⟨⟨by omega, by omega⟩, by omega, fun v hv => Or.inl (hc v hv), fun v _ => z_in, fun i _ => z_in, fun v hv => ?_, rfl, fun k hk => by omega, fun i hi h => Or.inl ⟨0, by omega, by rw [kF0_1 h]⟩, fun i hi h => ⟨0, by omega, rfl⟩, fun w h1 h2 => by omega, fun v h1 h2 => hc v h2, fun v w h1 h2 => by omega, ⟨fun _ => 0, fun w u h1 h2 => by omega⟩, fun _ => 0, fun i hi h1 h2 => ?_, fun w h1 h2 => by omega⟩
  · have e : v = 0 := by omega
    subst e
    exact ⟨by rw [ix_nI (by decide)]; exact updS, rfl, rfl⟩
  · exact absurd (by rw [kF0_1 h1]) (h2 0 (by omega))
theorem JI0 {LF : Nat → Nat → Int32} : JI kF0 zF0 zF0 zF0 zF0 cF0 1 zF0 nF0 nF0 zF0 0 (fun _ => 0) (fun _ => 0) LF zF0 (nI 0) (nI 0) := by
  refine ⟨TI0, ⟨TI0.zeroOK, ⟨0, rfl⟩, ⟨0, rfl⟩⟩, fun k hk => by omega, fun i _ => z_in, fun i _ _ => rfl, fun i _ => Nat.zero_le _, fun i hi h => ?_⟩
  by_cases e : i = 0
  · rw [e] at h
    have h2 : kF0 0 = nI 1 := updS
    rw [h2] at h; exact absurd h (by decide)
  · have h2 : kF0 i = nI 0 := updN e
    rw [h2] at h; exact absurd h (by decide)
theorem nk3 : ∀ i, ¬ kF0 i = nI 3 := fun i h => by
  by_cases e : i = 0
  · rw [e] at h
    have h2 : kF0 0 = nI 1 := updS
    rw [h2] at h; exact absurd h (by decide)
  · have h2 : kF0 i = nI 0 := updN e
    rw [h2] at h; exact absurd h (by decide)
theorem TX0z {f g : Nat → Int32} : TX 0 f g := ⟨by omega, fun j hj => by omega⟩
theorem Pool0 {G : GG} {LC : Nat → Nat} {LF : Nat → Nat → Int32} : PoolOK G (fun _ => none) [] LC LF := ⟨fun _ => 0, fun i hi y h => (by cases h), fun i j hi hj hn y z h => (by cases h)⟩
set_option maxHeartbeats 4000000 in
set_option maxRecDepth 100000 in
theorem whole_start {p : Program} {e : Env} {s : State} {m : MethodId} {below : List Frame} {meth : Method} {c : Code} (l : Launch) {b L : Nat} {xs : Nat → Int32} (hL : L ≤ 1536) (C0 : lw_At p s m meth c b L xs) : W p l e room_1 s m #[Value.ref b] below meth c s.heap [] 0 0 (lw_Z below #[Value.ref b] s) (entryFrame m ([Value.ref b] : List Value).toArray 4) := by
  obtain ⟨hx, hb, hr, hml, hown, hts, hX, hbl, hlocks, hgv⟩ := C0
  have hF : CallFix p m c code 4 s #[Value.ref b] lw_tbl RL := ⟨hx, hb, hml, hown, hts⟩
  obtain ⟨G, hK⟩ := lKnow hts
  obtain ⟨A, hAe⟩ : ∃ A : Nat → Prop, A = fun q : Nat => s.heap.size ≤ q := ⟨_, rfl⟩
  have hA : ∀ q, s.heap.size ≤ q → A q := fun q h => by rw [hAe]; exact h
  have hA2 : ∀ q, A q → s.heap.size ≤ q := fun q h => by rw [hAe] at h; exact h
  have hbA : ¬ A b := fun h => Nat.not_le.mpr hbl (hA2 b h)
  have hS : va_S A s.heap s.heap [] := va_S.rf
  have hP : PG G [] s.heap := fun k q h => by simp at h
  have hD : va_D A [] := ⟨fun i j p q h => by simp at h, fun k q h => by simp at h⟩
  have hl := lv_entry ([.ref b]) (n := 4) (Nat.le_of_ble_eq_true rfl)
  rw [lg_entry_eq]
  generalize (lg_sl ([.ref b]) ++ List.replicate (4 - (lg_sl ([.ref b])).length) Slot.unset).toArray = ls at hl ⊢
  have hl : lv_has ls 4 [(0, .ref b)] := hl
  refine kNew (ci := 7) (fs := [.null, .null, .null, .null, .null, .null, .null, .null]) (C := RX7) (T := TX7) (N := 8) (ty := tyX7) (index := 7) hF hK hP hD hS hA (fun w hw => bigT (inBX7 w hw)) tyX7_ok (bigT mQ_L_7) (bigT mK_X7) (bigT mN_X7) rfl (by decide) (Nat.le_of_ble_eq_true rfl) (Nat.le_of_ble_eq_true rfl) d_law_0 (fun x H hP hD hS => ?_)
  have hP : PG G [oC x 7 [.null, .null, .null, .null, .null, .null, .null, .null]] H := hP
  have hD : va_D A [oC x 7 [.null, .null, .null, .null, .null, .null, .null, .null]] := hD
  refine W.widen (k := 1) (n := 8) (by omega) (by omega) ?_
  refine lv_dup hF.1 hF.2.1 d_law_3 rfl ?_
  refine kCallV (wr := []) (va_runI (As := []) (rest := [.ref x]) hF (c_X7_init l G H.size x) (cwIL 0 hF rfl mL_L_9 mI_X7_init mN_X7 mC_X7_init rfl hd_X7_init rfl rfl ⟨Nat.le_of_ble_eq_true rfl, Nat.le_of_ble_eq_true rfl⟩) (kPreS hK hP hD [0] (by decide) rfl) rfl rfl hl.1 rfl (lv_room (Nat.le_of_ble_eq_true rfl)) d_law_4 ⟨Nat.le_of_ble_eq_true rfl, Nat.le_of_ble_eq_true rfl⟩) hP hD hS hA [0] [] rfl rfl (by decide) (by decide) (fun u H locs hw hP hD hS => ?_)
  obtain ⟨xa, xb, ya, yb, za, zb, t, tk, tm, to_, tv, tp, tl, en, ed, em, eo, vo, vr, vc, se, wk, rs, ra⟩ := u
  have hP : PG G [oC x 7 [.ref xa, .ref ya, .ref za, .ref t, .ref en, .ref vo, .ref se, .ref wk], oC xa 1 [.ref xb, .int (nI 0)], aC G xb 40 (fun _ => nI 0), oC ya 1 [.ref yb, .int (nI 0)], aC G yb 40 (fun _ => nI 0), oC za 2 [.ref zb, .int (nI 60)], aC G zb 60 (fun _ => nI 0), oC t 4 [.ref tk, .ref tm, .ref to_, .ref tv, .ref tp, .ref tl], aI G tk 40 (upd (fun _ => nI 0) (ix (nI 0)) (nI 1)), aI G tm 40 (upd (fun _ => nI 0) (ix (nI 0)) (nI 15)), aI G to_ 40 (upd (fun _ => nI 0) (ix (nI 0)) (nI 0)), aI G tv 40 (upd (fun _ => nI 0) (ix (nI 0)) (nI 0)), aI G tp 40 (upd (fun _ => nI 0) (ix (nI 0)) (nI 0)), aL G tl 40 (fun _ => none), oC en 0 [.ref ed, .ref em, .ref eo, .int (nI 0)], aI G ed 80 (fun _ => nI 0), aJ G em 80 (fun _ => lN 0), aI G eo 80 (fun _ => nI 0), oC vo 5 [.ref t, .ref vr, .ref vc, .int (nI (0 + 1))], aI G vr 4 (upd (fun _ => nI 0) 0 (nI 0)), aI G vc 4 (flF (fun _ => nI 0) 4 (-1)), oC se 3 [.ref t, .int (nI 0), .int (nI 0), .int (nI 0)], oC wk 6 [.ref t, .ref en, .ref vo, .ref se, .ref rs, .int (nI 0), .int (nI 0), .long 0, .int (nI 0), .int (nI 0)], oC rs 2 [.ref ra, .int (nI 60)], aC G ra 60 (fun _ => nI 0)] H := hP
  have hD : va_D A [oC x 7 [.ref xa, .ref ya, .ref za, .ref t, .ref en, .ref vo, .ref se, .ref wk], oC xa 1 [.ref xb, .int (nI 0)], aC G xb 40 (fun _ => nI 0), oC ya 1 [.ref yb, .int (nI 0)], aC G yb 40 (fun _ => nI 0), oC za 2 [.ref zb, .int (nI 60)], aC G zb 60 (fun _ => nI 0), oC t 4 [.ref tk, .ref tm, .ref to_, .ref tv, .ref tp, .ref tl], aI G tk 40 (upd (fun _ => nI 0) (ix (nI 0)) (nI 1)), aI G tm 40 (upd (fun _ => nI 0) (ix (nI 0)) (nI 15)), aI G to_ 40 (upd (fun _ => nI 0) (ix (nI 0)) (nI 0)), aI G tv 40 (upd (fun _ => nI 0) (ix (nI 0)) (nI 0)), aI G tp 40 (upd (fun _ => nI 0) (ix (nI 0)) (nI 0)), aL G tl 40 (fun _ => none), oC en 0 [.ref ed, .ref em, .ref eo, .int (nI 0)], aI G ed 80 (fun _ => nI 0), aJ G em 80 (fun _ => lN 0), aI G eo 80 (fun _ => nI 0), oC vo 5 [.ref t, .ref vr, .ref vc, .int (nI (0 + 1))], aI G vr 4 (upd (fun _ => nI 0) 0 (nI 0)), aI G vc 4 (flF (fun _ => nI 0) 4 (-1)), oC se 3 [.ref t, .int (nI 0), .int (nI 0), .int (nI 0)], oC wk 6 [.ref t, .ref en, .ref vo, .ref se, .ref rs, .int (nI 0), .int (nI 0), .long 0, .int (nI 0), .int (nI 0)], oC rs 2 [.ref ra, .int (nI 60)], aC G ra 60 (fun _ => nI 0)] := hD
  refine W.widen (k := 25) (n := 732) (by omega) (by omega) ?_
  refine lv_astore_n (lv' := [(1, .ref x), (0, .ref b)]) hF.1 hF.2.1 d_law_7 rfl hl (by decide) rfl (fun ls hl => ?_)
  refine kNew (ci := 8) (fs := [.null, .null, .null, .null, .null, .null, .null, .int (nI 0), .null, .null, .null, .int (nI 0), .null, .null, .int (nI 0), .int (nI 0), .int (nI 0), .null, .int (nI 0), .null, .int (nI 0), .null, .int (nI 0), .int (nI 0), .int (nI 0), .long 0, .int (nI 0), .int (nI 0), .int (nI 0)]) (C := RX8) (T := TX8) (N := 29) (ty := tyX8) (index := 10) hF hK hP hD hS hA (fun w hw => bigT (inBX8 w hw)) tyX8_ok (bigT mQ_L_10) (bigT mK_X8) (bigT mN_X8) rfl (by decide) (Nat.le_of_ble_eq_true rfl) (Nat.le_of_ble_eq_true rfl) d_law_8 (fun y H hP hD hS => ?_)
  have hP : PG G [oC x 7 [.ref xa, .ref ya, .ref za, .ref t, .ref en, .ref vo, .ref se, .ref wk], oC xa 1 [.ref xb, .int (nI 0)], aC G xb 40 (fun _ => nI 0), oC ya 1 [.ref yb, .int (nI 0)], aC G yb 40 (fun _ => nI 0), oC za 2 [.ref zb, .int (nI 60)], aC G zb 60 (fun _ => nI 0), oC t 4 [.ref tk, .ref tm, .ref to_, .ref tv, .ref tp, .ref tl], aI G tk 40 (upd (fun _ => nI 0) (ix (nI 0)) (nI 1)), aI G tm 40 (upd (fun _ => nI 0) (ix (nI 0)) (nI 15)), aI G to_ 40 (upd (fun _ => nI 0) (ix (nI 0)) (nI 0)), aI G tv 40 (upd (fun _ => nI 0) (ix (nI 0)) (nI 0)), aI G tp 40 (upd (fun _ => nI 0) (ix (nI 0)) (nI 0)), aL G tl 40 (fun _ => none), oC en 0 [.ref ed, .ref em, .ref eo, .int (nI 0)], aI G ed 80 (fun _ => nI 0), aJ G em 80 (fun _ => lN 0), aI G eo 80 (fun _ => nI 0), oC vo 5 [.ref t, .ref vr, .ref vc, .int (nI (0 + 1))], aI G vr 4 (upd (fun _ => nI 0) 0 (nI 0)), aI G vc 4 (flF (fun _ => nI 0) 4 (-1)), oC se 3 [.ref t, .int (nI 0), .int (nI 0), .int (nI 0)], oC wk 6 [.ref t, .ref en, .ref vo, .ref se, .ref rs, .int (nI 0), .int (nI 0), .long 0, .int (nI 0), .int (nI 0)], oC rs 2 [.ref ra, .int (nI 60)], aC G ra 60 (fun _ => nI 0), oC y 8 [.null, .null, .null, .null, .null, .null, .null, .int (nI 0), .null, .null, .null, .int (nI 0), .null, .null, .int (nI 0), .int (nI 0), .int (nI 0), .null, .int (nI 0), .null, .int (nI 0), .null, .int (nI 0), .int (nI 0), .int (nI 0), .long 0, .int (nI 0), .int (nI 0), .int (nI 0)]] H := hP
  have hD : va_D A [oC x 7 [.ref xa, .ref ya, .ref za, .ref t, .ref en, .ref vo, .ref se, .ref wk], oC xa 1 [.ref xb, .int (nI 0)], aC G xb 40 (fun _ => nI 0), oC ya 1 [.ref yb, .int (nI 0)], aC G yb 40 (fun _ => nI 0), oC za 2 [.ref zb, .int (nI 60)], aC G zb 60 (fun _ => nI 0), oC t 4 [.ref tk, .ref tm, .ref to_, .ref tv, .ref tp, .ref tl], aI G tk 40 (upd (fun _ => nI 0) (ix (nI 0)) (nI 1)), aI G tm 40 (upd (fun _ => nI 0) (ix (nI 0)) (nI 15)), aI G to_ 40 (upd (fun _ => nI 0) (ix (nI 0)) (nI 0)), aI G tv 40 (upd (fun _ => nI 0) (ix (nI 0)) (nI 0)), aI G tp 40 (upd (fun _ => nI 0) (ix (nI 0)) (nI 0)), aL G tl 40 (fun _ => none), oC en 0 [.ref ed, .ref em, .ref eo, .int (nI 0)], aI G ed 80 (fun _ => nI 0), aJ G em 80 (fun _ => lN 0), aI G eo 80 (fun _ => nI 0), oC vo 5 [.ref t, .ref vr, .ref vc, .int (nI (0 + 1))], aI G vr 4 (upd (fun _ => nI 0) 0 (nI 0)), aI G vc 4 (flF (fun _ => nI 0) 4 (-1)), oC se 3 [.ref t, .int (nI 0), .int (nI 0), .int (nI 0)], oC wk 6 [.ref t, .ref en, .ref vo, .ref se, .ref rs, .int (nI 0), .int (nI 0), .long 0, .int (nI 0), .int (nI 0)], oC rs 2 [.ref ra, .int (nI 60)], aC G ra 60 (fun _ => nI 0), oC y 8 [.null, .null, .null, .null, .null, .null, .null, .int (nI 0), .null, .null, .null, .int (nI 0), .null, .null, .int (nI 0), .int (nI 0), .int (nI 0), .null, .int (nI 0), .null, .int (nI 0), .null, .int (nI 0), .int (nI 0), .int (nI 0), .long 0, .int (nI 0), .int (nI 0), .int (nI 0)]] := hD
  refine W.widen (k := 26) (n := 761) (by omega) (by omega) ?_
  refine lv_dup hF.1 hF.2.1 d_law_11 rfl ?_
  refine kCallV (wr := [oC x 7 [.ref xa, .ref ya, .ref za, .ref t, .ref en, .ref vo, .ref se, .ref wk], oC xa 1 [.ref xb, .int (nI 0)], aC G xb 40 (fun _ => nI 0), oC ya 1 [.ref yb, .int (nI 0)], aC G yb 40 (fun _ => nI 0), oC za 2 [.ref zb, .int (nI 60)], aC G zb 60 (fun _ => nI 0), oC t 4 [.ref tk, .ref tm, .ref to_, .ref tv, .ref tp, .ref tl], aI G tk 40 (upd (fun _ => nI 0) (ix (nI 0)) (nI 1)), aI G tm 40 (upd (fun _ => nI 0) (ix (nI 0)) (nI 15)), aI G to_ 40 (upd (fun _ => nI 0) (ix (nI 0)) (nI 0)), aI G tv 40 (upd (fun _ => nI 0) (ix (nI 0)) (nI 0)), aI G tp 40 (upd (fun _ => nI 0) (ix (nI 0)) (nI 0)), aL G tl 40 (fun _ => none), oC en 0 [.ref ed, .ref em, .ref eo, .int (nI 0)], aI G ed 80 (fun _ => nI 0), aJ G em 80 (fun _ => lN 0), aI G eo 80 (fun _ => nI 0), oC vo 5 [.ref t, .ref vr, .ref vc, .int (nI (0 + 1))], aI G vr 4 (upd (fun _ => nI 0) 0 (nI 0)), aI G vc 4 (flF (fun _ => nI 0) 4 (-1)), oC se 3 [.ref t, .int (nI 0), .int (nI 0), .int (nI 0)], oC wk 6 [.ref t, .ref en, .ref vo, .ref se, .ref rs, .int (nI 0), .int (nI 0), .long 0, .int (nI 0), .int (nI 0)], oC rs 2 [.ref ra, .int (nI 60)], aC G ra 60 (fun _ => nI 0)]) (va_runI (As := []) (rest := [.ref y]) hF (c_X8_init l G H.size y) (cwIL 0 hF rfl mL_L_12 mI_X8_init mN_X8 mC_X8_init rfl hd_X8_init rfl rfl ⟨Nat.le_of_ble_eq_true rfl, Nat.le_of_ble_eq_true rfl⟩) (kPreS hK hP hD [25] (by decide) rfl) rfl rfl hl.1 rfl (lv_room (Nat.le_of_ble_eq_true rfl)) d_law_12 ⟨Nat.le_of_ble_eq_true rfl, Nat.le_of_ble_eq_true rfl⟩) hP hD hS hA [25] [0, 1, 2, 3, 4, 5, 6, 7, 8, 9, 10, 11, 12, 13, 14, 15, 16, 17, 18, 19, 20, 21, 22, 23, 24] rfl rfl (by decide) (by decide) (fun u H locs hw hP hD hS => ?_)
  obtain ⟨ak, am, ao, av, ap, ax, ay, ad, an, ab, ar, ac, at_, as_, aq⟩ := u
  replace hP : PG G ([oC x 7 [.ref xa, .ref ya, .ref za, .ref t, .ref en, .ref vo, .ref se, .ref wk], oC xa 1 [.ref xb, .int (nI 0)], aC G xb 40 (fun _ => nI 0), oC ya 1 [.ref yb, .int (nI 0)], aC G yb 40 (fun _ => nI 0), oC za 2 [.ref zb, .int (nI 60)], aC G zb 60 (fun _ => nI 0), oC wk 6 [.ref t, .ref en, .ref vo, .ref se, .ref rs, .int (nI 0), .int (nI 0), .long 0, .int (nI 0), .int (nI 0)], oC rs 2 [.ref ra, .int (nI 60)], aC G ra 60 (fun _ => nI 0), oC se 3 [.ref t, .int (nI 0), .int (nI 0), .int (nI 0)], oC t 4 [.ref tk, .ref tm, .ref to_, .ref tv, .ref tp, .ref tl], aI G tk 40 (upd (fun _ => nI 0) (ix (nI 0)) (nI 1)), aI G tm 40 (upd (fun _ => nI 0) (ix (nI 0)) (nI 15)), aI G to_ 40 (upd (fun _ => nI 0) (ix (nI 0)) (nI 0)), aI G tv 40 (upd (fun _ => nI 0) (ix (nI 0)) (nI 0)), aI G tp 40 (upd (fun _ => nI 0) (ix (nI 0)) (nI 0)), aL G tl 40 (fun _ => none), oC en 0 [.ref ed, .ref em, .ref eo, .int (nI 0)], aI G ed 80 (fun _ => nI 0), aJ G em 80 (fun _ => lN 0), aI G eo 80 (fun _ => nI 0), oC vo 5 [.ref t, .ref vr, .ref vc, .int (nI (0 + 1))], aI G vr 4 (upd (fun _ => nI 0) 0 (nI 0)), aI G vc 4 (flF (fun _ => nI 0) 4 (-1)), oC y 8 [.ref ak, .ref am, .ref ao, .ref av, .ref ap, .ref ax, .ref ay, .int (nI 0), .ref ad, .ref an, .ref ab, .int (nI 1), .ref ar, .ref ac, .int (nI 0), .int (nI 0), .int (nI 0), .ref at_, .int (nI 0), .ref as_, .int (nI 0), .ref aq, .int (nI 0), .int (nI 0), .int (nI 0), .long 0, .int (nI 0), .int (nI 0), .int (nI 0)], aI G ak 40 (upd (fun _ => nI 0) 0 (nI 1)), aI G am 40 (upd (fun _ => nI 0) 0 (nI 15)), aI G ao 40 (fun _ => nI 0), aI G av 40 (fun _ => nI 0), aI G ap 40 (fun _ => nI 0), aI G ax 1600 (fun _ => nI 0), aI G ay 40 (fun _ => nI 0), aI G ad 80 (fun _ => nI 0), aJ G an 80 (fun _ => lN 0), aI G ab 80 (fun _ => nI 0), aI G ar 4 (fun _ => nI 0), aI G ac 4 (flF (fun _ => nI 0) 4 (-1)), aI G at_ 40 (fun _ => nI 0), aI G as_ 40 (fun _ => nI 0), aI G aq 100 (fun _ => nI 0)] ++ []) H := va_P.sub hP [0, 1, 2, 3, 4, 5, 6, 22, 23, 24, 21, 7, 8, 9, 10, 11, 12, 13, 14, 15, 16, 17, 18, 19, 20, 25, 26, 27, 28, 29, 30, 31, 32, 33, 34, 35, 36, 37, 38, 39, 40] rfl
  replace hD : va_D A ([oC x 7 [.ref xa, .ref ya, .ref za, .ref t, .ref en, .ref vo, .ref se, .ref wk], oC xa 1 [.ref xb, .int (nI 0)], aC G xb 40 (fun _ => nI 0), oC ya 1 [.ref yb, .int (nI 0)], aC G yb 40 (fun _ => nI 0), oC za 2 [.ref zb, .int (nI 60)], aC G zb 60 (fun _ => nI 0), oC wk 6 [.ref t, .ref en, .ref vo, .ref se, .ref rs, .int (nI 0), .int (nI 0), .long 0, .int (nI 0), .int (nI 0)], oC rs 2 [.ref ra, .int (nI 60)], aC G ra 60 (fun _ => nI 0), oC se 3 [.ref t, .int (nI 0), .int (nI 0), .int (nI 0)], oC t 4 [.ref tk, .ref tm, .ref to_, .ref tv, .ref tp, .ref tl], aI G tk 40 (upd (fun _ => nI 0) (ix (nI 0)) (nI 1)), aI G tm 40 (upd (fun _ => nI 0) (ix (nI 0)) (nI 15)), aI G to_ 40 (upd (fun _ => nI 0) (ix (nI 0)) (nI 0)), aI G tv 40 (upd (fun _ => nI 0) (ix (nI 0)) (nI 0)), aI G tp 40 (upd (fun _ => nI 0) (ix (nI 0)) (nI 0)), aL G tl 40 (fun _ => none), oC en 0 [.ref ed, .ref em, .ref eo, .int (nI 0)], aI G ed 80 (fun _ => nI 0), aJ G em 80 (fun _ => lN 0), aI G eo 80 (fun _ => nI 0), oC vo 5 [.ref t, .ref vr, .ref vc, .int (nI (0 + 1))], aI G vr 4 (upd (fun _ => nI 0) 0 (nI 0)), aI G vc 4 (flF (fun _ => nI 0) 4 (-1)), oC y 8 [.ref ak, .ref am, .ref ao, .ref av, .ref ap, .ref ax, .ref ay, .int (nI 0), .ref ad, .ref an, .ref ab, .int (nI 1), .ref ar, .ref ac, .int (nI 0), .int (nI 0), .int (nI 0), .ref at_, .int (nI 0), .ref as_, .int (nI 0), .ref aq, .int (nI 0), .int (nI 0), .int (nI 0), .long 0, .int (nI 0), .int (nI 0), .int (nI 0)], aI G ak 40 (upd (fun _ => nI 0) 0 (nI 1)), aI G am 40 (upd (fun _ => nI 0) 0 (nI 15)), aI G ao 40 (fun _ => nI 0), aI G av 40 (fun _ => nI 0), aI G ap 40 (fun _ => nI 0), aI G ax 1600 (fun _ => nI 0), aI G ay 40 (fun _ => nI 0), aI G ad 80 (fun _ => nI 0), aJ G an 80 (fun _ => lN 0), aI G ab 80 (fun _ => nI 0), aI G ar 4 (fun _ => nI 0), aI G ac 4 (flF (fun _ => nI 0) 4 (-1)), aI G at_ 40 (fun _ => nI 0), aI G as_ 40 (fun _ => nI 0), aI G aq 100 (fun _ => nI 0)] ++ []) := va_D.sub hD [0, 1, 2, 3, 4, 5, 6, 22, 23, 24, 21, 7, 8, 9, 10, 11, 12, 13, 14, 15, 16, 17, 18, 19, 20, 25, 26, 27, 28, 29, 30, 31, 32, 33, 34, 35, 36, 37, 38, 39, 40] (by decide) rfl
  have zF : nI 0 = zI False := zI_0 (fun h => h)
  have i0 : ix (nI 0) = 0 := ix_nI (by decide)
  rw [updZ, updZ0, i0] at hP hD
  have hP : PG G ([oC x 7 [.ref xa, .ref ya, .ref za, .ref t, .ref en, .ref vo, .ref se, .ref wk], oC xa 1 [.ref xb, .int (nI 0)], aC G xb 40 zF0, oC ya 1 [.ref yb, .int (nI 0)], aC G yb 40 zF0, oC za 2 [.ref zb, .int (nI 60)], aC G zb 60 zF0, oC wk 6 [.ref t, .ref en, .ref vo, .ref se, .ref rs, .int (nI 0), .int (nI 0), .long 0, .int (zI False), .int (zI False)], oC rs 2 [.ref ra, .int (nI 60)], aC G ra 60 zF0, oC se 3 [.ref t, .int (nI 0), .int (nI 0), .int (nI 0)], oC t 4 [.ref tk, .ref tm, .ref to_, .ref tv, .ref tp, .ref tl], aI G tk 40 kF0, aI G tm 40 mF0, aI G to_ 40 zF0, aI G tv 40 zF0, aI G tp 40 zF0, aL G tl 40 (fun _ => none), oC en 0 [.ref ed, .ref em, .ref eo, .int (nI 0)], aI G ed 80 zF0, aJ G em 80 nF0, aI G eo 80 zF0, oC vo 5 [.ref t, .ref vr, .ref vc, .int (nI 1)], aI G vr 4 zF0, aI G vc 4 cF0, oC y 8 [.ref ak, .ref am, .ref ao, .ref av, .ref ap, .ref ax, .ref ay, .int (nI 0), .ref ad, .ref an, .ref ab, .int (nI 1), .ref ar, .ref ac, .int (nI 0), .int (nI 0), .int (nI 0), .ref at_, .int (nI 0), .ref as_, .int (nI 0), .ref aq, .int (nI 0), .int (nI 0), .int (nI 0), .long 0, .int (nI 0), .int (zI False), .int (zI False)], aI G ak 40 kF0, aI G am 40 mF0, aI G ao 40 zF0, aI G av 40 zF0, aI G ap 40 zF0, aI G ax 1600 zF0, aI G ay 40 (fun lv => nI ((fun _ => 0) lv)), aI G ad 80 zF0, aJ G an 80 nF0, aI G ab 80 zF0, aI G ar 4 zF0, aI G ac 4 cF0, aI G at_ 40 zF0, aI G as_ 40 zF0, aI G aq 100 zF0] ++ []) H := by rw [← zF]; exact hP
  have hD : va_D A ([oC x 7 [.ref xa, .ref ya, .ref za, .ref t, .ref en, .ref vo, .ref se, .ref wk], oC xa 1 [.ref xb, .int (nI 0)], aC G xb 40 zF0, oC ya 1 [.ref yb, .int (nI 0)], aC G yb 40 zF0, oC za 2 [.ref zb, .int (nI 60)], aC G zb 60 zF0, oC wk 6 [.ref t, .ref en, .ref vo, .ref se, .ref rs, .int (nI 0), .int (nI 0), .long 0, .int (zI False), .int (zI False)], oC rs 2 [.ref ra, .int (nI 60)], aC G ra 60 zF0, oC se 3 [.ref t, .int (nI 0), .int (nI 0), .int (nI 0)], oC t 4 [.ref tk, .ref tm, .ref to_, .ref tv, .ref tp, .ref tl], aI G tk 40 kF0, aI G tm 40 mF0, aI G to_ 40 zF0, aI G tv 40 zF0, aI G tp 40 zF0, aL G tl 40 (fun _ => none), oC en 0 [.ref ed, .ref em, .ref eo, .int (nI 0)], aI G ed 80 zF0, aJ G em 80 nF0, aI G eo 80 zF0, oC vo 5 [.ref t, .ref vr, .ref vc, .int (nI 1)], aI G vr 4 zF0, aI G vc 4 cF0, oC y 8 [.ref ak, .ref am, .ref ao, .ref av, .ref ap, .ref ax, .ref ay, .int (nI 0), .ref ad, .ref an, .ref ab, .int (nI 1), .ref ar, .ref ac, .int (nI 0), .int (nI 0), .int (nI 0), .ref at_, .int (nI 0), .ref as_, .int (nI 0), .ref aq, .int (nI 0), .int (nI 0), .int (nI 0), .long 0, .int (nI 0), .int (zI False), .int (zI False)], aI G ak 40 kF0, aI G am 40 mF0, aI G ao 40 zF0, aI G av 40 zF0, aI G ap 40 zF0, aI G ax 1600 zF0, aI G ay 40 (fun lv => nI ((fun _ => 0) lv)), aI G ad 80 zF0, aJ G an 80 nF0, aI G ab 80 zF0, aI G ar 4 zF0, aI G ac 4 cF0, aI G at_ 40 zF0, aI G as_ 40 zF0, aI G aq 100 zF0] ++ []) := by rw [← zF]; exact hD
  refine W.widen (k := 41) (n := 3029) (by omega) (by omega) ?_
  refine lv_astore_n (lv' := [(2, .ref y), (1, .ref x), (0, .ref b)]) hF.1 hF.2.1 d_law_15 rfl hl (by decide) rfl (fun ls hl => ?_)
  refine lv_iconst (v := nI 0) hF.1 hF.2.1 d_law_16 (by decide) ?_
  refine lv_istore_n (lv' := [(3, .int (nI 0)), (2, .ref y), (1, .ref x), (0, .ref b)]) hF.1 hF.2.1 d_law_17 rfl hl (by decide) rfl (fun ls hl => ?_)
  refine W.widen (k := 100 + 2 * 0) (n := 4000 + 42 * 0) (by omega) (by omega) ?_
  exact law_loop hF hr hlocks hK hA hA2 hX hbl hbA hL (L + 1) 0 (Nat.zero_le L) (by omega) H locs xa ya za t en vo se wk xb yb zb rs ra tk tm to_ tv tp tl ed em eo vr vc ak am ao av ap ax ay ad an ab ar ac at_ as_ aq 0 0 60 60 0 0 1 0 0 0 (nI 0) (nI 0) (nI 0) (nI 0) (nI 0) 0 0 False False False False zF0 zF0 zF0 zF0 kF0 mF0 zF0 zF0 zF0 zF0 zF0 zF0 cF0 zF0 zF0 zF0 zF0 zF0 nF0 nF0 (fun _ => none) (fun _ => 0) (fun _ => 0) (fun _ _ => nI 0) [] ⟨hP, hD, hS, JI0, Pool0, fun i _ h => absurd h (nk3 i), TX0z, TX0z, fun _ => okC_n (by decide), fun _ => okC_n (by decide), fun _ => okC_n (by decide), fun _ => okC_n (by decide)⟩ ls (lv_sub hl [3, 2, 1, 0] rfl)
set_option maxHeartbeats 4000000 in
theorem lw_walk (l : Launch) (b : Addr) (xs : List Int32) : MetFree l x (headSpec (Jvm.Cond.code x code maxLocals ret :: tables_1) room_1) (lw_P b xs) (fun _ _ _ _ _ => True) lw_Q := by
  refine MetFree.of_bodyS (code := code) (maxLocals := maxLocals) (ret := ret) (by decide) ?_ ?_
  · intro args s m h hn
    obtain ⟨meth, c, h1, h2, h3, h4, h5, h6, -, -⟩ := Cond.code_spec hn (atoms_spec (ws := Jvm.Cond.code x code maxLocals ret :: tables_1) h _ List.mem_cons_self)
    exact ⟨meth, c, h1, h2, h3, h4, h5, h6⟩
  · intro p e s m args below meth c s₁ B hml0 hP _
    obtain ⟨rfl, hx, hbd, hgv⟩ := hP
    obtain ⟨scr, harrAt, hlist, hof, hsmall⟩ := hx
    obtain ⟨hcb, hkn, -, -⟩ := State.arrayAt?_spec harrAt
    have hown : s.vm.findClass R_law = some m.cls := findClass_of_methodNamed B.named
    have hts0 : ∀ c ∈ (Jvm.Cond.code x code maxLocals ret :: tables_1), c.before #[Value.ref b] s = true := atoms_spec (ws := Jvm.Cond.code x code maxLocals ret :: tables_1) B.pre
    have hts : ∀ w ∈ lw_tbl, w.before #[Value.ref b] s = true := k2_hts_sels lw_privs (fun w hw => hts0 w (List.mem_cons_of_mem _ hw)) lw_privs_ok
    have hml : c.maxLocals = 4 := B.maxLocals_eq (hts0 _ List.mem_cons_self)
    have X₀ : Stand p l e room_1 s m #[Value.ref b] below meth c s₁ [] 0 0 := Stand.of_body B
    have hh0 : s₁.heap = s.heap := by rw [B.state]; rfl
    have hsz : scr.slots.size = xs.length := by rw [← Array.length_toList, hlist, List.length_map]
    have hval : ∀ j : Nat, j < xs.length → scr.slots[j]? = some (.int (xs.getD j 0)) := fun j hj => by
      rw [← Array.getElem?_toList, hlist]
      simp [hj]
    have hbl : b < s.heap.size := (Array.getElem?_eq_some_iff.mp hcb).1
    have hX : va_X b xs.length (fun j => xs.getD j 0) s s.heap := ⟨scr, hcb, hof, hkn, hsz, hval⟩
    have K : W p l e room_1 s m #[Value.ref b] below meth c s₁.heap [] 0 0 (lw_Z below #[Value.ref b] s) (entryFrame m ([Value.ref b] : List Value).toArray 4) := by
      rw [hh0]
      exact whole_start l hbd ⟨B.exec, B.bytes, B.returns, hml, hown, hts, hX, hbl, B.notSynchronized, hgv⟩
    obtain ⟨t, a1, o, b1, b2, b3⟩ := K s₁ rfl X₀
    exact ⟨t, o, a1, b1, b2, b3⟩
theorem lw_pre_spec {args : Array Value} {s : State} (h : (Jvm.Cond.and given_1 narrow_1).before args s = true) (hr : rest_1_c.before args s = true) : ∃ (b : Addr) (xs : List Int32), lw_P b xs args s := by
  have hs := flat_of_before _ h
  have hq := flat_of_before _ hr
  have hc : (Cond.count 1).before args s = true := hs _ (by decide +kernel)
  have harr : (Cond.arrayOf (.arg 0) .int).before args s = true := hs _ (by decide +kernel)
  have hle : (Cond.le (.length (.arg 0)) (.int 1536)).before args s = true := hs _ (by decide +kernel)
  have hlen : (Cond.isInt (.length (.arg 0))).before args s = true := hq _ (by decide +kernel)
  have hall : (Cond.all (.arg 0) (.isInt (.elem (.arg 0) (.index 0)))).before args s = true := hq _ (by decide +kernel)
  obtain ⟨b, xs, hb, hx⟩ := State.ints_of_pre rfl harr hlen hall
  have hsm : xs.length < 2 ^ 31 := hx.choose_spec.2.2.2
  have hev : (Term.length (.arg 0)).eval args s none [] s = some (.int xs.length.toInt32) := hx.length_eval hb
  have hv := Cond.le_ints hev (show (Term.int 1536).eval args s none [] s = some (.int 1536) from rfl)
  have hd : xs.length.toInt32 ≤ 1536 := by
    simpa [Cond.before, Cond.holds, hv] using hle
  have hN : xs.length ≤ 1536 := (Int32.ofNat_le_ofNat hsm (by decide)).mp (show Int32.ofNat xs.length ≤ Int32.ofNat 1536 from hd)
  exact ⟨b, xs, Cond.one_arg hc (show args[0]? = some (.ref b) from hb), hx, hN, h⟩
theorem lw_comes (l : Launch) : Comes l x (Jvm.Cond.code x code maxLocals ret :: tables_1) room_1 (fun tb e args s => Calls_1 tb e args s ∧ rest_1 tb e args s ∧ Pre_1 tb e args s)
    (fun _ _ args s o t => lw_Q args s o t) := by
  intro p e ha hc hk s m args below hf hfit hheap happ hpre
  obtain ⟨b, xs, hP⟩ := lw_pre_spec hpre.2.2 hpre.2.1
  obtain ⟨k, o, h1, h2, h3, hQ⟩ := lw_walk l b xs p e ha hc hk s m args below hf ((Spec.applies_iff_loose hf).mp happ).1 hP trivial
  exact ⟨k, o, h1, h2, h3, hQ⟩
theorem lw_frame {s t : State} {o : Outcome} {args : Array Value} (h : Framed s o t [] 600000 7302250) :
    Framed s o t (fieldLocs frame_1_writes args s ++ arrayLocs frame_1_arrays args s ++ staticLocs frame_1_statics s) 600000 7302250 := h
theorem lw_limb (L : Cond) (hL : ∀ (args : Array Value) (s t : State), L.after args s (.returned (some (.int 1))) t = true) :
    ArmFor flags0 classFile x code maxLocals ret World_1 tables_1 room_1 Calls_1 rest_1 Pre_1
      (fun tb e a s o t => postC L tb e a s o t ∧ Framed s o t (fieldLocs frame_1_writes a s ++ arrayLocs frame_1_arrays a s ++ staticLocs frame_1_statics s) 600000 7302250) := by
  intro l _ _ _ p e ha hc hk s m args below hf hfit hheap happ hpre
  obtain ⟨k, o, h1, h2, h3, rfl, hF⟩ := lw_comes l p e ha hc hk s m args below hf hfit hheap happ hpre
  exact ⟨k, _, h1, h2, h3, hL args s _, lw_frame hF⟩
theorem i_vc : Claimed_1_1 ∧ Claimed_1_2 := ⟨lw_limb limb_1_1 (fun args s t => by simp [limb_1_1, Cond.after, Cond.holds, Cond.value]), lw_limb limb_1_2 (fun args s t => Cond.after_iff.mpr (by
  first | (rw [show limb_1_2 = Cond.eq .result (.int 1) from rfl, Cond.eq_ints (x := 1) (y := 1) rfl rfl]; simp; done) | (simp [limb_1_2, Cond.value, Term.eval]; done)))⟩
