/-! the law: its loop -/
theorem lIx {L i : Nat} (hL : L ≤ 1536) (hi : i ≤ L) (h : ¬ (nI L - nI 3 < nI i)) : i + 2 < L := by
  by_cases h3 : 3 ≤ L
  · have e : nI L - nI 3 = nI (L - 3) := by
      have : nI L = nI (L - 3) + nI 3 := by rw [nI_add, show L - 3 + 3 = L by omega]
      rw [this, Int32.add_sub_cancel]
    rw [e, nI_ltI (by omega) (by omega)] at h
    omega
  · exfalso
    apply h
    rcases (show L = 0 ∨ L = 1 ∨ L = 2 by omega) with rfl | rfl | rfl
    · rcases (show i = 0 by omega) with rfl; decide
    · rcases (show i = 0 ∨ i = 1 by omega) with rfl | rfl <;> decide
    · rcases (show i = 0 ∨ i = 1 ∨ i = 2 by omega) with rfl | rfl | rfl <;> decide
theorem lTab (z : Int32) : (∃ k, k ≤ 18 ∧ z = nI k) ∨ (z.toInt < 0 ∨ 18 < z.toInt) := by
  by_cases h1 : z.toInt < 0
  · exact Or.inr (Or.inl h1)
  · by_cases h2 : 18 < z.toInt
    · exact Or.inr (Or.inr h2)
    · refine Or.inl ⟨z.toInt.toNat, by omega, ?_⟩
      rw [← Int32.toInt_inj, nI_toInt (by omega)]; omega
theorem lArr {args : Array Value} {s : State} {ty : FieldType} (h : (Cond.arrayClass ty).before args s = true) : ∃ cA : ClassId, ArrOfT s cA ty ∧ s.vm.findClass ("[" ++ ty.toString) = some cA := by
  obtain ⟨c0, k, comp, h1, h2, h3⟩ := Cond.arrayClass_spec h
  exact ⟨c0, fun n z => ⟨fun k h => (by cases h), k, h2, comp, h3⟩, h1⟩
theorem lKnow {args : Array Value} {s : State} (hts : ∀ w ∈ lw_tbl, w.before args s = true) : ∃ G : GG, KG G s := by
  obtain ⟨c0, i0, k0⟩ := u_known (C := RX0) (T := TX0) (N := 4) (n := 4) hts (fun w hw => bigT (inBX0 w hw)) (hts _ (bigT mK_X0))
  obtain ⟨c1, i1, k1⟩ := u_known (C := RX1) (T := TX1) (N := 2) (n := 2) hts (fun w hw => bigT (inBX1 w hw)) (hts _ (bigT mK_X1))
  obtain ⟨c2, i2, k2⟩ := u_known (C := RX2) (T := TX2) (N := 2) (n := 2) hts (fun w hw => bigT (inBX2 w hw)) (hts _ (bigT mK_X2))
  obtain ⟨c3, i3, k3⟩ := u_known (C := RX3) (T := TX3) (N := 4) (n := 4) hts (fun w hw => bigT (inBX3 w hw)) (hts _ (bigT mK_X3))
  obtain ⟨c4, i4, k4⟩ := u_known (C := RX4) (T := TX4) (N := 6) (n := 6) hts (fun w hw => bigT (inBX4 w hw)) (hts _ (bigT mK_X4))
  obtain ⟨c5, i5, k5⟩ := u_known (C := RX5) (T := TX5) (N := 4) (n := 4) hts (fun w hw => bigT (inBX5 w hw)) (hts _ (bigT mK_X5))
  obtain ⟨c6, i6, k6⟩ := u_known (C := RX6) (T := TX6) (N := 10) (n := 10) hts (fun w hw => bigT (inBX6 w hw)) (hts _ (bigT mK_X6))
  obtain ⟨c7, i7, k7⟩ := u_known (C := RX7) (T := TX7) (N := 8) (n := 8) hts (fun w hw => bigT (inBX7 w hw)) (hts _ (bigT mK_X7))
  obtain ⟨c8, i8, k8⟩ := u_known (C := RX8) (T := TX8) (N := 29) (n := 29) hts (fun w hw => bigT (inBX8 w hw)) (hts _ (bigT mK_X8))
  obtain ⟨aI0, a1, a2⟩ := lArr (hts _ (bigT mA_int))
  obtain ⟨aJ0, a3, a4⟩ := lArr (hts _ (bigT mA_long))
  obtain ⟨aC0, a5, a6⟩ := lArr (hts _ (bigT mA_char))
  obtain ⟨comp, aL0, kA, b1, -, b2, b3, b4⟩ := Cond.arrayOver_spec (hts _ aoT)
  refine ⟨((fun k => match k with | 0 => c0 | 1 => c1 | 2 => c2 | 3 => c3 | 4 => c4 | 5 => c5 | 6 => c6 | 7 => c7 | _ => c8, fun k => match k with | 0 => i0 | 1 => i1 | 2 => i2 | 3 => i3 | 4 => i4 | 5 => i5 | 6 => i6 | 7 => i7 | _ => i8), aI0, aJ0, aC0, aL0), ⟨?_, ?_⟩, ?_, ?_⟩
  · intro k q hq
    match k, hq with
    | 0, hq => cases hq; exact k0
    | 1, hq => cases hq; exact k1
    | 2, hq => cases hq; exact k2
    | 3, hq => cases hq; exact k3
    | 4, hq => cases hq; exact k4
    | 5, hq => cases hq; exact k5
    | 6, hq => cases hq; exact k6
    | 7, hq => cases hq; exact k7
    | 8, hq => cases hq; exact k8
    | k + 9, hq => simp [vwM] at hq
  · intro k q hq
    match k, hq with
    | 0, hq => cases hq; exact ⟨a1, a2⟩
    | 1, hq => cases hq; exact ⟨a3, a4⟩
    | 2, hq => cases hq; exact ⟨a5, a6⟩
    | 3, hq => cases hq; exact ⟨fun n z => ⟨fun k h => (by cases h), kA, b2, comp, b3⟩, kA, comp, b2, b3, b1, b4⟩
    | k + 4, hq => simp [tyG] at hq
  · intro w hw
    have h := hts w (nestT w hw)
    simp only [nestW, List.mem_cons, List.not_mem_nil, or_false] at hw
    rcases hw with rfl | rfl | rfl | rfl | rfl | rfl | rfl | rfl | rfl | rfl | rfl <;> exact va_Nw.of rfl h
  · exact va_AO.of (hts _ aoT)
/-! THE CLAIM OUT OF ONE WALK OF THE LAW'S BODY. Your part is whole_start (and what it stands on); all else here is the same for every law, but numbers. -/
def R_law : String := "MountedPathsLaw"
def lw_P (b : Addr) (xs : List Int32) (args : Array Value) (s : State) : Prop := args = #[.ref b] ∧ s.IntsAt b xs ∧ xs.length ≤ 1536 ∧ (Jvm.Cond.and given_1 narrow_1).before args s = true
def lw_Q (_ : Array Value) (s : State) (o : Outcome) (t : State) : Prop := o = .returned (some (.int 1)) ∧ Framed s o t [] 600000 7302250
def lw_Z (below : List Frame) (a : Array Value) (s : State) : State → Prop := fun t => ∃ o, t.status = .running ∧ Ended t below o ∧ lw_Q a s o t
/-- the law's own end, with 1 on the stack, nothing written that was there before, its room as the claim has it -/
theorem lw_ret {p : Program} {l : Launch} {e : Env} {s : State} {m : MethodId} {below : List Frame} {meth : Method} {c : Code} {b : Nat} (hx : p.tables.exec = Jvm.exec) (hb : c.code = code) (hr : meth.sig.returnType = ret) (hlocks : meth.locks = false) {pc : Nat} {H : Heap} {ls : Array Slot} (hdg : decode code pc = .ok (.ireturn, 1)) : W p l e room_1 s m #[Value.ref b] below meth c H [] 600000 7302250 (lw_Z below #[Value.ref b] s) (F0 m pc ls [.int 1]) := by
  intro T hT X
  obtain ⟨fs, hret, hrun, hended, hW, hframe⟩ := X.leave (v := some (.int 1)) (hlocks := hlocks) (fun h => by rw [hr] at h; cases h)
  have hmeth' : T.vm.method? m = some meth := X.method'
  refine ⟨T.setFrames fs, ?_, .returned (some (.int 1)), hrun, hended, rfl, ⟨_, rfl⟩, hW, hframe⟩
  jvm_step X.here [X.here.top, hx, hb, hdg, hmeth', hr, ret, narrow_b1]
  (try refine ⟨rfl, ?_⟩); (try refine ⟨rfl, ?_⟩)
  first | (intro acts; rw [hret _ acts rfl rfl rfl]) | rw [hret _ _ rfl rfl rfl]
  exact Steps.refl _
/-- what holds at the law's entry: the machine, the code, the tables' words (any of lw_tbl by 'hts w (by decide +kernel)'), the script of L ints xs at the cell b, what the Statement gives of the start (any of its parts by flat_of_before) -/
def lw_At (p : Program) (s : State) (m : MethodId) (meth : Method) (c : Code) (b L : Nat) (xs : Nat → Int32) : Prop :=
  p.tables.exec = Jvm.exec ∧ c.code = code ∧ meth.sig.returnType = ret ∧ c.maxLocals = 4 ∧ s.vm.findClass R_law = some m.cls ∧ (∀ w ∈ lw_tbl, w.before #[Value.ref b] s = true) ∧ va_X b L xs s s.heap ∧ b < s.heap.size ∧ meth.locks = false ∧ (Jvm.Cond.and given_1 narrow_1).before #[Value.ref b] s = true
section LLOOP
variable {p : Program} {l : Launch} {e : Env} {s : State} {m : MethodId} {below : List Frame} {meth : Method} {c : Code} {G : GG} {A : Nat → Prop} {b L x y : Nat} {xs : Nat → Int32}
set_option maxHeartbeats 4000000 in
set_option maxRecDepth 100000 in
theorem law_loop (hF : CallFix p m c code 4 s #[Value.ref b] lw_tbl RL) (hr : meth.sig.returnType = ret) (hlocks : meth.locks = false) (hK : KG G s) (hA : ∀ q, s.heap.size ≤ q → A q) (hA2 : ∀ q, A q → s.heap.size ≤ q) (hX : va_X b L xs s s.heap) (hbl : b < s.heap.size) (hbA : ¬ A b) (hL : L ≤ 1536) : ∀ (n i : Nat), i ≤ L → L + 1 ≤ i + 3 * n → ∀ (H : Heap) (locs : List Loc) (xa : Nat) (ya : Nat) (za : Nat) (t : Nat) (en : Nat) (vo : Nat) (se : Nat) (wk : Nat) (xb : Nat) (yb : Nat) (zb : Nat) (rs : Nat) (ra : Nat) (tk : Nat) (tm : Nat) (to_ : Nat) (tv : Nat) (tp : Nat) (tl : Nat) (ed : Nat) (em : Nat) (eo : Nat) (vr : Nat) (vc : Nat) (ak : Nat) (am : Nat) (ao : Nat) (av : Nat) (ap : Nat) (ax : Nat) (ay : Nat) (ad : Nat) (an : Nat) (ab : Nat) (ar : Nat) (ac : Nat) (at_ : Nat) (as_ : Nat) (aq : Nat) (xn : Nat) (yn : Nat) (zs : Nat) (st : Nat) (hp : Nat) (ec : Nat) (vn : Nat) (qn : Nat) (hp2 : Nat) (ns : Nat) (wa : Int32) (us : Int32) (ro : Int32) (pr : Int32) (wa2 : Int32) (nm : Int64) (nm2 : Int64) (la : Prop) (sl : Prop) (la2 : Prop) (sl2 : Prop) (xf : Nat → Int32) (yf : Nat → Int32) (zf : Nat → Int32) (f : Nat → Int32) (kF : Nat → Int32) (mF : Nat → Int32) (oF : Nat → Int32) (vF : Nat → Int32) (pC : Nat → Int32) (dF : Nat → Int32) (bF : Nat → Int32) (rF : Nat → Int32) (cF : Nat → Int32) (pR : Nat → Int32) (xF : Nat → Int32) (tx : Nat → Int32) (sx : Nat → Int32) (qF : Nat → Int32) (nC : Nat → Int64) (nR : Nat → Int64) (tF : Nat → Option Nat) (LC : Nat → Nat) (LR : Nat → Nat) (LF : Nat → Nat → Int32) (pl : va_W), SW G A s x y H locs xa ya za t en vo se wk xb yb zb rs ra tk tm to_ tv tp tl ed em eo vr vc ak am ao av ap ax ay ad an ab ar ac at_ as_ aq xn yn zs st hp ec vn qn hp2 ns wa us ro pr wa2 nm nm2 la sl la2 sl2 xf yf zf f kF mF oF vF pC dF bF rF cF pR xF tx sx qF nC nR tF LC LR LF pl → ∀ ls : Array Slot, lv_has ls 4 [(0, .ref b), (1, .ref x), (2, .ref y), (3, .int (nI i))] → W p l e room_1 s m #[Value.ref b] below meth c H locs (100 + 2 * i) (4000 + 42 * i) (lw_Z below #[Value.ref b] s) (F0 m 18 ls []) := by
  intro n
  induction n with
  | zero => intro i h1 h2; exact absurd h2 (by omega)
  | succ n ih =>
    intro i hiL hin H locs xa ya za t en vo se wk xb yb zb rs ra tk tm to_ tv tp tl ed em eo vr vc ak am ao av ap ax ay ad an ab ar ac at_ as_ aq xn yn zs st hp ec vn qn hp2 ns wa us ro pr wa2 nm nm2 la sl la2 sl2 xf yf zf f kF mF oF vF pC dF bF rF cF pR xF tx sx qF nC nR tF LC LR LF pl hI ls hl
    have hS := hI.2.2.1
    refine lv_iload_n hF.1 hF.2.1 d_law_18 rfl (lv_at hl 3 rfl) ?_
    refine lv_aload_n hF.1 hF.2.1 d_law_19 rfl (lv_at hl 0 rfl) ?_
    refine va_slen hF.1 hF.2.1 hX hbl hbA hS d_law_20 ?_
    refine lv_iconst (v := nI 3) hF.1 hF.2.1 d_law_21 (by decide) ?_
    refine lv_isub hF.1 hF.2.1 d_law_22 ?_
    refine lv_icmp_gt (tgt := 545) hF.1 hF.2.1 d_law_23 (by decide) (fun hc => ?_) (fun hc => ?_)
    · refine lv_iconst (v := 1) hF.1 hF.2.1 d_law_545 (by decide) ?_
      refine va_forget (fun q hq => hA2 _ (hS.2.2 q hq)) ?_
      refine W.widen (k := 600000) (n := 7302250) (by omega) (by omega) ?_
      exact lw_ret hF.1 hF.2.1 hr hlocks d_law_546
    · have hi : i + 2 < L := lIx hL hiL hc
      have kk : ∀ (H : Heap) (locs : List Loc) (xa : Nat) (ya : Nat) (za : Nat) (t : Nat) (en : Nat) (vo : Nat) (se : Nat) (wk : Nat) (xb : Nat) (yb : Nat) (zb : Nat) (rs : Nat) (ra : Nat) (tk : Nat) (tm : Nat) (to_ : Nat) (tv : Nat) (tp : Nat) (tl : Nat) (ed : Nat) (em : Nat) (eo : Nat) (vr : Nat) (vc : Nat) (ak : Nat) (am : Nat) (ao : Nat) (av : Nat) (ap : Nat) (ax : Nat) (ay : Nat) (ad : Nat) (an : Nat) (ab : Nat) (ar : Nat) (ac : Nat) (at_ : Nat) (as_ : Nat) (aq : Nat) (xn : Nat) (yn : Nat) (zs : Nat) (st : Nat) (hp : Nat) (ec : Nat) (vn : Nat) (qn : Nat) (hp2 : Nat) (ns : Nat) (wa : Int32) (us : Int32) (ro : Int32) (pr : Int32) (wa2 : Int32) (nm : Int64) (nm2 : Int64) (la : Prop) (sl : Prop) (la2 : Prop) (sl2 : Prop) (xf : Nat → Int32) (yf : Nat → Int32) (zf : Nat → Int32) (f : Nat → Int32) (kF : Nat → Int32) (mF : Nat → Int32) (oF : Nat → Int32) (vF : Nat → Int32) (pC : Nat → Int32) (dF : Nat → Int32) (bF : Nat → Int32) (rF : Nat → Int32) (cF : Nat → Int32) (pR : Nat → Int32) (xF : Nat → Int32) (tx : Nat → Int32) (sx : Nat → Int32) (qF : Nat → Int32) (nC : Nat → Int64) (nR : Nat → Int64) (tF : Nat → Option Nat) (LC : Nat → Nat) (LR : Nat → Nat) (LF : Nat → Nat → Int32) (pl : va_W), SW G A s x y H locs xa ya za t en vo se wk xb yb zb rs ra tk tm to_ tv tp tl ed em eo vr vc ak am ao av ap ax ay ad an ab ar ac at_ as_ aq xn yn zs st hp ec vn qn hp2 ns wa us ro pr wa2 nm nm2 la sl la2 sl2 xf yf zf f kF mF oF vF pC dF bF rF cF pR xF tx sx qF nC nR tF LC LR LF pl → W p l e room_1 s m #[Value.ref b] below meth c H locs (100 + 2 * i + 2) (4000 + 42 * i + 42) (lw_Z below #[Value.ref b] s) (F0 m 539 ls []) := by
        intro H locs xa ya za t en vo se wk xb yb zb rs ra tk tm to_ tv tp tl ed em eo vr vc ak am ao av ap ax ay ad an ab ar ac at_ as_ aq xn yn zs st hp ec vn qn hp2 ns wa us ro pr wa2 nm nm2 la sl la2 sl2 xf yf zf f kF mF oF vF pC dF bF rF cF pR xF tx sx qF nC nR tF LC LR LF pl hI
        refine lv_iinc (v := nI (i + 3)) (lv' := [(3, .int (nI (i + 3))), (0, .ref b), (1, .ref x), (2, .ref y)]) hF.1 hF.2.1 d_law_539 hl (k := 3) rfl (by rw [← nI_add]; rfl) (by decide) rfl (fun ls hl => ?_)
        refine lv_goto (tgt := 18) hF.1 hF.2.1 d_law_542 (by decide) ?_
        refine W.widen (k := 100 + 2 * (i + 3)) (n := 4000 + 42 * (i + 3)) (by omega) (by omega) ?_
        exact ih (i + 3) (by omega) (by omega) H locs xa ya za t en vo se wk xb yb zb rs ra tk tm to_ tv tp tl ed em eo vr vc ak am ao av ap ax ay ad an ab ar ac at_ as_ aq xn yn zs st hp ec vn qn hp2 ns wa us ro pr wa2 nm nm2 la sl la2 sl2 xf yf zf f kF mF oF vF pC dF bF rF cF pR xF tx sx qF nC nR tF LC LR LF pl hI ls (lv_sub hl [1, 2, 3, 0] rfl)
      refine lv_aload_n hF.1 hF.2.1 d_law_26 rfl (lv_at hl 0 rfl) ?_
      refine lv_iload_n hF.1 hF.2.1 d_law_27 rfl (lv_at hl 3 rfl) ?_
      refine va_sld hF.1 hF.2.1 hX hbl hbA hS (vp_in_nI (by omega) (by omega)) d_law_28 ?_
      refine lv_bipush (v := nI 31) hF.1 hF.2.1 d_law_29 (by decide) ?_
      refine lv_iand hF.1 hF.2.1 d_law_31 ?_
      refine lv_topi (fun z _ => ?_)
      have hcl : 100 + 2 * i ≤ 500000 := by omega
      have hsl : 4000 + 42 * i ≤ 7000000 := by omega
      rcases lTab z with ⟨k, hk, rfl⟩ | hz
      · rcases (show k = 0 ∨ k = 1 ∨ k = 2 ∨ k = 3 ∨ k = 4 ∨ k = 5 ∨ k = 6 ∨ k = 7 ∨ k = 8 ∨ k = 9 ∨ k = 10 ∨ k = 11 ∨ k = 12 ∨ k = 13 ∨ k = 14 ∨ k = 15 ∨ k = 16 ∨ k = 17 ∨ k = 18 by omega) with rfl | rfl | rfl | rfl | rfl | rfl | rfl | rfl | rfl | rfl | rfl | rfl | rfl | rfl | rfl | rfl | rfl | rfl | rfl
        · exact lv_tableIn (tgt := 124) (off := 92) hF.1 hF.2.1 d_law_32 (by decide) (by decide) (by decide) (by decide) (law_type hF hK hA hX hbl hbA hL hi hcl hsl hI hl kk)
        · exact lv_tableIn (tgt := 147) (off := 115) hF.1 hF.2.1 d_law_32 (by decide) (by decide) (by decide) (by decide) (law_wipe hF hK hA hX hbl hbA hL hi hcl hsl hI hl kk)
        · exact lv_tableIn (tgt := 158) (off := 126) hF.1 hF.2.1 d_law_32 (by decide) (by decide) (by decide) (by decide) (law_keep hF hK hA hX hbl hbA hL hi hcl hsl hI hl kk)
        · exact lv_tableIn (tgt := 169) (off := 137) hF.1 hF.2.1 d_law_32 (by decide) (by decide) (by decide) (by decide) (law_length hF hK hA hX hbl hbA hL hi hcl hsl hI hl kk)
        · exact lv_tableIn (tgt := 182) (off := 150) hF.1 hF.2.1 d_law_32 (by decide) (by decide) (by decide) (by decide) (law_at hF hK hA hX hbl hbA hL hi hcl hsl hI hl kk)
        · exact lv_tableIn (tgt := 205) (off := 173) hF.1 hF.2.1 d_law_32 (by decide) (by decide) (by decide) (by decide) (law_resolve hF hK hA hX hbl hbA hL hi hcl hsl hI hl kk)
        · exact lv_tableIn (tgt := 244) (off := 212) hF.1 hF.2.1 d_law_32 (by decide) (by decide) (by decide) (by decide) (law_make hF hK hA hX hbl hbA hL hi hcl hsl hI hl kk)
        · exact lv_tableIn (tgt := 277) (off := 245) hF.1 hF.2.1 d_law_32 (by decide) (by decide) (by decide) (by decide) (law_link hF hK hA hX hbl hbA hL hi hcl hsl hI hl kk)
        · exact lv_tableIn (tgt := 290) (off := 258) hF.1 hF.2.1 d_law_32 (by decide) (by decide) (by decide) (by decide) (law_remove hF hK hA hX hbl hbA hL hi hcl hsl hI hl kk)
        · exact lv_tableIn (tgt := 303) (off := 271) hF.1 hF.2.1 d_law_32 (by decide) (by decide) (by decide) (by decide) (law_volume hF hK hA hX hbl hbA hL hi hcl hsl hI hl kk)
        · exact lv_tableIn (tgt := 316) (off := 284) hF.1 hF.2.1 d_law_32 (by decide) (by decide) (by decide) (by decide) (law_mount hF hK hA hX hbl hbA hL hi hcl hsl hI hl kk)
        · exact lv_tableIn (tgt := 339) (off := 307) hF.1 hF.2.1 d_law_32 (by decide) (by decide) (by decide) (by decide) (law_unmount hF hK hA hX hbl hbA hL hi hcl hsl hI hl kk)
        · exact lv_tableIn (tgt := 352) (off := 320) hF.1 hF.2.1 d_law_32 (by decide) (by decide) (by decide) (by decide) (law_enter hF hK hA hX hbl hbA hL hi hcl hsl hI hl kk)
        · exact lv_tableIn (tgt := 391) (off := 359) hF.1 hF.2.1 d_law_32 (by decide) (by decide) (by decide) (by decide) (law_user hF hK hA hX hbl hbA hL hi hcl hsl hI hl kk)
        · exact lv_tableIn (tgt := 414) (off := 382) hF.1 hF.2.1 d_law_32 (by decide) (by decide) (by decide) (by decide) (law_change hF hK hA hX hbl hbA hL hi hcl hsl hI hl kk)
        · exact lv_tableIn (tgt := 437) (off := 405) hF.1 hF.2.1 d_law_32 (by decide) (by decide) (by decide) (by decide) (law_path hF hK hA hX hbl hbA hL hi hcl hsl hI hl kk)
        · exact lv_tableIn (tgt := 450) (off := 418) hF.1 hF.2.1 d_law_32 (by decide) (by decide) (by decide) (by decide) (law_kind hF hK hA hX hbl hbA hL hi hcl hsl hI hl kk)
        · exact lv_tableIn (tgt := 473) (off := 441) hF.1 hF.2.1 d_law_32 (by decide) (by decide) (by decide) (by decide) (law_about hF hK hA hX hbl hbA hL hi hcl hsl hI hl kk)
        · exact lv_tableIn (tgt := 506) (off := 474) hF.1 hF.2.1 d_law_32 (by decide) (by decide) (by decide) (by decide) (law_entry hF hK hA hX hbl hbA hL hi hcl hsl hI hl kk)
      · refine lv_tableOut (tgt := 539) hF.1 hF.2.1 d_law_32 hz (by decide) ?_
        refine W.widen (k := 100 + 2 * i + 2) (n := 4000 + 42 * i + 42) (by omega) (by omega) ?_
        exact kk H locs xa ya za t en vo se wk xb yb zb rs ra tk tm to_ tv tp tl ed em eo vr vc ak am ao av ap ax ay ad an ab ar ac at_ as_ aq xn yn zs st hp ec vn qn hp2 ns wa us ro pr wa2 nm nm2 la sl la2 sl2 xf yf zf f kF mF oF vF pC dF bF rF cF pR xF tx sx qF nC nR tF LC LR LF pl hI
end LLOOP
