/-! the law: its kit -/
def fl (v : Int32) : Int32 := if v = 0 then nI 0 else nI 1
abbrev SW (G : GG) (A : Nat → Prop) (s : State) (x y : Nat) (H : Heap) (locs : List Loc) (xa : Nat) (ya : Nat) (za : Nat) (t : Nat) (en : Nat) (vo : Nat) (se : Nat) (wk : Nat) (xb : Nat) (yb : Nat) (zb : Nat) (rs : Nat) (ra : Nat) (tk : Nat) (tm : Nat) (to_ : Nat) (tv : Nat) (tp : Nat) (tl : Nat) (ed : Nat) (em : Nat) (eo : Nat) (vr : Nat) (vc : Nat) (ak : Nat) (am : Nat) (ao : Nat) (av : Nat) (ap : Nat) (ax : Nat) (ay : Nat) (ad : Nat) (an : Nat) (ab : Nat) (ar : Nat) (ac : Nat) (at_ : Nat) (as_ : Nat) (aq : Nat) (xn : Nat) (yn : Nat) (zs : Nat) (st : Nat) (hp : Nat) (ec : Nat) (vn : Nat) (qn : Nat) (hp2 : Nat) (ns : Nat) (wa : Int32) (us : Int32) (ro : Int32) (pr : Int32) (wa2 : Int32) (nm : Int64) (nm2 : Int64) (la : Prop) (sl : Prop) (la2 : Prop) (sl2 : Prop) (xf : Nat → Int32) (yf : Nat → Int32) (zf : Nat → Int32) (f : Nat → Int32) (kF : Nat → Int32) (mF : Nat → Int32) (oF : Nat → Int32) (vF : Nat → Int32) (pC : Nat → Int32) (dF : Nat → Int32) (bF : Nat → Int32) (rF : Nat → Int32) (cF : Nat → Int32) (pR : Nat → Int32) (xF : Nat → Int32) (tx : Nat → Int32) (sx : Nat → Int32) (qF : Nat → Int32) (nC : Nat → Int64) (nR : Nat → Int64) (tF : Nat → Option Nat) (LC : Nat → Nat) (LR : Nat → Nat) (LF : Nat → Nat → Int32) (pl : va_W) : Prop := PG G ([oC x 7 [.ref xa, .ref ya, .ref za, .ref t, .ref en, .ref vo, .ref se, .ref wk], oC xa 1 [.ref xb, .int (nI xn)], aC G xb 40 xf, oC ya 1 [.ref yb, .int (nI yn)], aC G yb 40 yf, oC za 2 [.ref zb, .int (nI zs)], aC G zb 60 zf, oC wk 6 [.ref t, .ref en, .ref vo, .ref se, .ref rs, .int wa, .int (nI hp), .long nm, .int (zI la), .int (zI sl)], oC rs 2 [.ref ra, .int (nI st)], aC G ra 60 f, oC se 3 [.ref t, .int us, .int ro, .int pr], oC t 4 [.ref tk, .ref tm, .ref to_, .ref tv, .ref tp, .ref tl], aI G tk 40 kF, aI G tm 40 mF, aI G to_ 40 oF, aI G tv 40 vF, aI G tp 40 pC, aL G tl 40 tF, oC en 0 [.ref ed, .ref em, .ref eo, .int (nI ec)], aI G ed 80 dF, aJ G em 80 nC, aI G eo 80 bF, oC vo 5 [.ref t, .ref vr, .ref vc, .int (nI vn)], aI G vr 4 rF, aI G vc 4 cF, oC y 8 [.ref ak, .ref am, .ref ao, .ref av, .ref ap, .ref ax, .ref ay, .int (nI ec), .ref ad, .ref an, .ref ab, .int (nI vn), .ref ar, .ref ac, .int us, .int ro, .int pr, .ref at_, .int (nI xn), .ref as_, .int (nI yn), .ref aq, .int (nI qn), .int wa2, .int (nI hp2), .long nm2, .int (nI ns), .int (zI la2), .int (zI sl2)], aI G ak 40 kF, aI G am 40 mF, aI G ao 40 oF, aI G av 40 vF, aI G ap 40 pR, aI G ax 1600 xF, aI G ay 40 (fun lv => nI (LR lv)), aI G ad 80 dF, aJ G an 80 nR, aI G ab 80 bF, aI G ar 4 rF, aI G ac 4 cF, aI G at_ 40 tx, aI G as_ 40 sx, aI G aq 100 qF] ++ pl) H ∧ va_D A ([oC x 7 [.ref xa, .ref ya, .ref za, .ref t, .ref en, .ref vo, .ref se, .ref wk], oC xa 1 [.ref xb, .int (nI xn)], aC G xb 40 xf, oC ya 1 [.ref yb, .int (nI yn)], aC G yb 40 yf, oC za 2 [.ref zb, .int (nI zs)], aC G zb 60 zf, oC wk 6 [.ref t, .ref en, .ref vo, .ref se, .ref rs, .int wa, .int (nI hp), .long nm, .int (zI la), .int (zI sl)], oC rs 2 [.ref ra, .int (nI st)], aC G ra 60 f, oC se 3 [.ref t, .int us, .int ro, .int pr], oC t 4 [.ref tk, .ref tm, .ref to_, .ref tv, .ref tp, .ref tl], aI G tk 40 kF, aI G tm 40 mF, aI G to_ 40 oF, aI G tv 40 vF, aI G tp 40 pC, aL G tl 40 tF, oC en 0 [.ref ed, .ref em, .ref eo, .int (nI ec)], aI G ed 80 dF, aJ G em 80 nC, aI G eo 80 bF, oC vo 5 [.ref t, .ref vr, .ref vc, .int (nI vn)], aI G vr 4 rF, aI G vc 4 cF, oC y 8 [.ref ak, .ref am, .ref ao, .ref av, .ref ap, .ref ax, .ref ay, .int (nI ec), .ref ad, .ref an, .ref ab, .int (nI vn), .ref ar, .ref ac, .int us, .int ro, .int pr, .ref at_, .int (nI xn), .ref as_, .int (nI yn), .ref aq, .int (nI qn), .int wa2, .int (nI hp2), .long nm2, .int (nI ns), .int (zI la2), .int (zI sl2)], aI G ak 40 kF, aI G am 40 mF, aI G ao 40 oF, aI G av 40 vF, aI G ap 40 pR, aI G ax 1600 xF, aI G ay 40 (fun lv => nI (LR lv)), aI G ad 80 dF, aJ G an 80 nR, aI G ab 80 bF, aI G ar 4 rF, aI G ac 4 cF, aI G at_ 40 tx, aI G as_ 40 sx, aI G aq 100 qF] ++ pl) ∧ va_S A s.heap H locs ∧ JI kF vF pC pR rF cF vn dF nC nR bF ec LC LR LF xF ro pr ∧ PoolOK G tF pl LC LF ∧ (∀ i, i < 40 → kF i = nI 3 → ∃ y, tF i = some y) ∧ TX xn xf tx ∧ TX yn yf sx ∧ (∀ j, okC (xf j)) ∧ (∀ j, okC (yf j)) ∧ (∀ j, okC (zf j)) ∧ (∀ j, okC (f j))
theorem lroom {a k n : Nat} (h : a ≤ n) {N : Nat} (h2 : n + k ≤ N) : a + k ≤ N := by omega
section LAWK
variable {p : Program} {l : Launch} {e : Env} {R : Room} {s : State} {m : MethodId} {args : Array Value} {below : List Frame} {meth : Method} {c : Code} {H : Heap} {locs : List Loc} {cells slots mc ms pc : Nat} {Q : State → Prop} {G : GG} {A : Nat → Prop} {ws wc wr WS : va_W} {ls : Array Slot} {rest st0 : List Value} {cc : ByteArray} {nL : Nat} {own : String} {a : Array Value}
theorem cwVL {C : String} {index maxL : Nat} {y : MethodName} {bytes : ByteArray} {ret : Option FieldType} {wsy : List Cond} {rm : Room} (n : Nat) (hF : CallFix p m c cc nL s args lw_tbl own) (hws : wsy = Cond.code y bytes maxL ret :: BIG) (hl : Cond.methodLink own index y ∈ BIG) (hi : Cond.instanceMethod y ∈ BIG) (hse : Cond.selects C y y ∈ BIG) (hini : Cond.initialized C ∈ BIG) (hco : Cond.code y bytes maxL ret ∈ BIG) (hC : y.cls = C) (hd : y.cls ≠ "java/lang/invoke/MethodHandle" ∧ y.cls ≠ "java/lang/invoke/VarHandle" ∧ (parseMethodDescriptor y.desc).map (fun d => d.parameters.length) = some n) (hrc : rm.cells = mc) (hrs : rm.slots = ms) (hR : rm.frames + 1 ≤ R.frames ∧ 8 + (maxL + 11) + rm.locals ≤ R.locals) : CallW R s args own C index y bytes maxL ret wsy rm mc ms n := by
  subst hws
  refine cwV n hF.2.2.2.2 ?_ rfl hrc hrs ⟨hC, hd⟩ hR
  exact gTbl (pre := [.methodLink own index y, .instanceMethod y, .selects C y y, .initialized C, .code y bytes maxL ret]) (by
    intro w hw
    simp only [List.mem_cons, List.not_mem_nil, or_false] at hw
    rcases hw with rfl | rfl | rfl | rfl | rfl <;> assumption)
theorem cwIL {index maxL : Nat} {y : MethodName} {bytes : ByteArray} {wsy : List Cond} {rm : Room} (n : Nat) (hF : CallFix p m c cc nL s args lw_tbl own) (hws : wsy = Cond.code y bytes maxL none :: BIG) (hl : Cond.methodLink own index y ∈ BIG) (hi : Cond.instanceMethod y ∈ BIG) (hini : Cond.initialized y.cls ∈ BIG) (hco : Cond.code y bytes maxL none ∈ BIG) (hy1 : y.name = "<init>") (hd : y.cls ≠ "java/lang/invoke/MethodHandle" ∧ y.cls ≠ "java/lang/invoke/VarHandle" ∧ (parseMethodDescriptor y.desc).map (fun d => d.parameters.length) = some n) (hrc : rm.cells = mc) (hrs : rm.slots = ms) (hR : rm.frames + 1 ≤ R.frames ∧ 8 + (maxL + 11) + rm.locals ≤ R.locals) : CallB R s args own index y bytes maxL none wsy rm mc ms n ∧ y.name = "<init>" ∧ (Cond.instanceMethod y).before args s = true := by
  subst hws
  refine cwI n hF.2.2.2.2 ?_ rfl hrc hrs (hF.2.2.2.2 _ (bigT hini)) (hF.2.2.2.2 _ (bigT hl)) (hF.2.2.2.2 _ (bigT hi)) hy1 hd hR
  exact gTbl (pre := [.code y bytes maxL none]) (by
    intro w hw
    simp only [List.mem_cons, List.not_mem_nil, or_false] at hw
    rcases hw with rfl; assumption)
theorem kCallIE {S : Type} {post : Int32 → S → Prop} {out : S → va_W} {X pl : va_W} (hr : va_Run p l e R s m args below meth c H locs cells slots mc ms (F0 m pc ls st0) rest (va_Qi post (Bw G (va_A (wc ++ pl) H.size) out) (va_A (wc ++ pl) H.size) a) (va_A (wc ++ pl) H.size)) (hP : PG G (X ++ pl) H) (hD : va_D A (X ++ pl)) (hS : va_S A s.heap H locs) (hA : ∀ q, s.heap.size ≤ q → A q) (isC isR : List Nat) (hC : isC.map (fun i => X[i]?) = wc.map some) (hR : isR.map (fun i => X[i]?) = wr.map some) (hn : va_nd isR = true) (hdis : ∀ i ∈ isR, i ∉ isC)
    (kk : ∀ (r : Int32) (u : S) (H1 : Heap) (locs1 : List Loc), post r u → (∀ rx pl1 : va_W, out u = rx ++ pl1 → PG G ((wr ++ rx) ++ pl1) H1 ∧ va_D A ((wr ++ rx) ++ pl1)) → va_S A s.heap H1 locs1 → W p l e R s m args below meth c H1 locs1 (cells + mc) (slots + ms) Q (F0 m (pc + 3) ls (.int r :: rest))) : W p l e R s m args below meth c H locs cells slots Q (F0 m pc ls st0) := by
  have hFc : ∀ q, va_A (wc ++ pl) H.size q → A q := va_freeP hD hS hA isC hC
  refine va_calli hr hS (fun q _ h => hFc q h) hFc (fun r u t H1 locs1 ht hvm hw hB hz1 hk1 hS1 => ?_)
  obtain ⟨hP1, hD1⟩ := hB
  rw [ht] at hP1
  refine kk r u H1 locs1 hw (fun rx pl1 ho => ?_) hS1
  rw [ho] at hP1 hD1
  exact va_joinP hP hD isC isR hC hR hn hdis hk1 hFc hP1 hD1
/-- the script's word i + k -/
theorem lRd {b L i x y : Nat} {xs : Nat → Int32} (hF : CallFix p m c code 4 s args lw_tbl own) (hX : va_X b L xs s s.heap) (hbl : b < s.heap.size) (hbA : ¬ A b) (hS : va_S A s.heap H locs) (hl : lv_has ls 4 [(0, .ref b), (1, .ref x), (2, .ref y), (3, .int (nI i))]) (k : Nat) (hL : L ≤ 1536) (hi : i + k < L) (d0 : decode code pc = .ok (.aload_n 0, 1)) (d1 : decode code (pc + 1) = .ok (.iload_n 3, 1)) (d2 : decode code (pc + 2) = .ok (.iconst k, 1)) (d3 : decode code (pc + 3) = .ok (.iadd, 1)) (d4 : decode code (pc + 4) = .ok (.iaload, 1))
    (kk : W p l e R s m args below meth c H locs cells slots Q (F0 m (pc + 5) ls (.int (xs (i + k)) :: rest))) : W p l e R s m args below meth c H locs cells slots Q (F0 m pc ls rest) := by
  refine lv_aload_n hF.1 hF.2.1 d0 rfl (lv_at hl 0 rfl) ?_
  refine lv_iload_n hF.1 hF.2.1 d1 rfl (lv_at hl 3 rfl) ?_
  refine lv_iconst (v := nI k) hF.1 hF.2.1 d2 rfl ?_
  refine lv_iadd hF.1 hF.2.1 d3 ?_
  rw [nI_add]
  refine va_sld hF.1 hF.2.1 hX hbl hbA hS (vp_in_nI hi (by omega)) d4 ?_
  rw [show (nI (i + k)).toNatClampNeg = i + k from ix_nI (by omega)]
  exact kk
/-- a flag -/
theorem lFl {v : Int32} (hF : CallFix p m c code 4 s args lw_tbl own) (d0 : decode code pc = .ok (.ifCond .eq 7, 3)) (d1 : decode code (pc + 3) = .ok (.iconst 1, 1)) (d2 : decode code (pc + 4) = .ok (.goto 4, 3)) (d3 : decode code (pc + 7) = .ok (.iconst 0, 1))
    (kk : W p l e R s m args below meth c H locs cells slots Q (F0 m (pc + 8) ls (.int (fl v) :: rest))) : W p l e R s m args below meth c H locs cells slots Q (F0 m pc ls (.int v :: rest)) := by
  refine lv_if_eq (tgt := pc + 7) hF.1 hF.2.1 d0 (by omega) (fun h => ?_) (fun h => ?_)
  · refine lv_iconst (v := nI 0) hF.1 hF.2.1 d3 (by decide) ?_
    rw [show fl v = nI 0 from if_pos h] at kk
    exact kk
  · refine lv_iconst (v := nI 1) hF.1 hF.2.1 d1 (by decide) ?_
    refine lv_goto (tgt := pc + 8) hF.1 hF.2.1 d2 (by omega) ?_
    rw [show fl v = nI 1 from if_neg h] at kk
    exact kk
end LAWK
