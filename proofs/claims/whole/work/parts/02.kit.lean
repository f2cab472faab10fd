/-! my own rows over the kit's: one world shape for all contracts, calls with their frame, returns, reads and writes by a number -/
abbrev GG : Type := va_G × ClassId × ClassId × ClassId × ClassId
def tyG (G : GG) : List (ClassId × FieldType) := [(G.2.1, .int), (G.2.2.1, .long), (G.2.2.2.1, .char), (G.2.2.2.2, .object "MountedPaths$Line")]
abbrev KG (G : GG) (U : State) : Prop := va_K G.1 vwM (tyG G) U ∧ NW U
theorem KG.warm {G : GG} {s U : State} (hW : s.WarmedH U.vm) (h : KG G s) : KG G U := ⟨va_K.moved hW.alike h.1, h.2.warm hW⟩
theorem KG.same {G : GG} {s U : State} (hv : s.vm = U.vm) (h : KG G s) : KG G U := ⟨va_K.moved (hv ▸ Vm.Alike.refl s.vm) h.1, h.2.same hv⟩
theorem inT {c0 : Cond} {l : List Cond} (h : ∀ w ∈ l, w ∈ BIG) : ∀ w ∈ l, w ∈ c0 :: BIG := fun w hw => List.mem_cons_of_mem _ (h w hw)
abbrev PG (G : GG) (ws : va_W) (H : Heap) : Prop := va_P G.1 vwM ws H
abbrev oC (a ci : Nat) (fs : List Value) : Nat × va_E := (a, .inr (ci, fs))
abbrev aI (G : GG) (a n : Nat) (f : Nat → Int32) : Nat × va_E := (a, .inl (G.2.1, n, .inl f))
abbrev aJ (G : GG) (a n : Nat) (f : Nat → Int64) : Nat × va_E := (a, .inl (G.2.2.1, n, .inr (.inl f)))
abbrev aC (G : GG) (a n : Nat) (f : Nat → Int32) : Nat × va_E := (a, .inl (G.2.2.2.1, n, .inl f))
abbrev aL (G : GG) (a n : Nat) (f : Nat → Option Nat) : Nat × va_E := (a, .inl (G.2.2.2.2, n, .inr (.inr (.inr (.inr f)))))
abbrev Rm (fr mc ms lo : Nat) : Room := { frames := fr, cells := mc, slots := ms, locals := lo }
abbrev PreG (G : GG) (av : List Value) (WS : va_W) (sz : Nat) : Array Value → State → Prop := va_Pc av (fun U => U.heap.size = sz ∧ PG G WS U.heap ∧ KG G U ∧ va_D (fun _ => True) WS)
abbrev Bw {S : Type} (G : GG) (A : Nat → Prop) (out : S → va_W) : S → State → Prop := fun u t => PG G (out u) t.heap ∧ va_D A (out u)
abbrev CtI {S : Type} (l : Launch) (G : GG) (y : MethodName) (ws : List Cond) (fr lo mc ms sz : Nat) (av : List Value) (WS : va_W) (post : Int32 → S → Prop) (out : S → va_W) : Prop := Met l y ws (Rm fr mc ms lo) (PreG G av WS sz) (va_Qi post (Bw G (va_A WS sz) out) (va_A WS sz)) mc ms (va_A WS sz)
abbrev CtL {S : Type} (l : Launch) (G : GG) (y : MethodName) (ws : List Cond) (fr lo mc ms sz : Nat) (av : List Value) (WS : va_W) (post : Int64 → S → Prop) (out : S → va_W) : Prop := Met l y ws (Rm fr mc ms lo) (PreG G av WS sz) (va_Ql post (Bw G (va_A WS sz) out) (va_A WS sz)) mc ms (va_A WS sz)
abbrev CtV {S : Type} (l : Launch) (G : GG) (y : MethodName) (ws : List Cond) (fr lo mc ms sz : Nat) (av : List Value) (WS : va_W) (post : S → Prop) (out : S → va_W) : Prop := Met l y ws (Rm fr mc ms lo) (PreG G av WS sz) (va_Qv post (Bw G (va_A WS sz) out) (va_A WS sz)) mc ms (va_A WS sz)
abbrev CtQ {S : Type} (l : Launch) (G : GG) (y : MethodName) (ws : List Cond) (fr lo mc ms sz : Nat) (av : List Value) (WS : va_W) (post : Option Nat → S → Prop) (out : S → va_W) : Prop := Met l y ws (Rm fr mc ms lo) (PreG G av WS sz) (va_Qq post (Bw G (va_A WS sz) out) (va_A WS sz)) mc ms (va_A WS sz)
/-- a proposition as Java's boolean -/
noncomputable def zI (P : Prop) : Int32 := @ite Int32 P (Classical.propDecidable P) (nI 1) (nI 0)
theorem zI_t {P : Prop} (h : P) : zI P = nI 1 := if_pos h
theorem zI_f {P : Prop} (h : ¬ P) : zI P = nI 0 := if_neg h
theorem zI_1 {P : Prop} (h : P) : nI 1 = zI P := (zI_t h).symm
theorem zI_0 {P : Prop} (h : ¬ P) : nI 0 = zI P := (zI_f h).symm
theorem zI_eq0 {P : Prop} : zI P = 0 ↔ ¬ P := by
  by_cases h : P
  · rw [zI_t h]; exact ⟨fun h2 => absurd h2 (by decide), fun h2 => absurd h h2⟩
  · rw [zI_f h]; exact ⟨fun _ => h, fun _ => by decide⟩
theorem zI_ne0 {P : Prop} : ¬ zI P = 0 ↔ P := by rw [zI_eq0, Classical.not_not]
theorem zI_cg {P Q : Prop} (h : P ↔ Q) : zI P = zI Q := by rw [propext h]
theorem zI_nar (P : Prop) : narrow .boolean (.int (zI P)) = .int (zI P) := by
  by_cases h : P
  · rw [zI_t h]; rfl
  · rw [zI_f h]; rfl
theorem zI_fit (P : Prop) : fits .boolean (.int (zI P)) = true := by
  by_cases h : P
  · rw [zI_t h]; rfl
  · rw [zI_f h]; rfl
/-- a choice without a decision at hand -/
noncomputable def pI {α : Type} (P : Prop) (a b : α) : α := @ite α P (Classical.propDecidable P) a b
theorem pI_t {α : Type} {P : Prop} {a b : α} (h : P) : pI P a b = a := if_pos h
theorem pI_f {α : Type} {P : Prop} {a b : α} (h : ¬ P) : pI P a b = b := if_neg h
abbrev ix (i : Int32) : Nat := i.toNatClampNeg
/-- a char's value -/
def okC (x : Int32) : Prop := ∃ q : Nat, q < 65536 ∧ x = nI q
theorem okC_cn {x : Int32} (h : okC x) : narrow .char (.int x) = .int x := by obtain ⟨q, hq, rfl⟩ := h; exact (pk_charN hq).1
theorem okC_fit {x : Int32} (h : okC x) : fits .char (.int x) = true := by obtain ⟨q, hq, rfl⟩ := h; exact (pk_charN hq).2
theorem okC_nar {x : Int32} (h : okC x) : vp_nar .char x = x := by unfold vp_nar; rw [okC_cn h]
theorem okC_n {q : Nat} (h : q < 65536) : okC (nI q) := ⟨q, h, rfl⟩
theorem okC_upd {f : Nat → Int32} {k : Nat} {x : Int32} (hf : ∀ j, okC (f j)) (hx : okC x) : ∀ j, okC (upd f k x j) := fun j => by unfold upd; split; exact hx; exact hf j
theorem okC_cpy {f g : Nat → Int32} {a b n : Nat} (hf : ∀ j, okC (f j)) (hg : ∀ j, okC (g j)) : ∀ j, okC (va_cpy f g a b n j) := fun j => by unfold va_cpy; split; exact hf _; exact hg j
section MKC
variable {p : Program} {l : Launch} {e : Env} {R : Room} {s : State} {m : MethodId} {args : Array Value} {below : List Frame} {meth : Method} {c : Code} {H : Heap} {locs : List Loc} {cells slots mc ms pc : Nat} {Q : State → Prop} {G : GG} {A : Nat → Prop} {ws wc wr WS : va_W} {ls : Array Slot} {rest st0 : List Value} {cc : ByteArray} {nL : Nat} {Ts : List Cond} {own : String} {a : Array Value}
theorem cwVB {c0 : Cond} {C : String} {index maxL : Nat} {y : MethodName} {bytes : ByteArray} {ret : Option FieldType} {wsy : List Cond} {rm : Room} (n : Nat) (hF : CallFix p m c cc nL s args (c0 :: BIG) own) (hws : wsy = Cond.code y bytes maxL ret :: BIG) (hl : Cond.methodLink own index y ∈ BIG) (hi : Cond.instanceMethod y ∈ BIG) (hse : Cond.selects C y y ∈ BIG) (hini : Cond.initialized C ∈ BIG) (hco : Cond.code y bytes maxL ret ∈ BIG) (hC : y.cls = C) (hd : y.cls ≠ "java/lang/invoke/MethodHandle" ∧ y.cls ≠ "java/lang/invoke/VarHandle" ∧ (parseMethodDescriptor y.desc).map (fun d => d.parameters.length) = some n) (hrc : rm.cells = mc) (hrs : rm.slots = ms) (hR : rm.frames + 1 ≤ R.frames ∧ 8 + (maxL + 11) + rm.locals ≤ R.locals) : CallW R s args own C index y bytes maxL ret wsy rm mc ms n := by
  subst hws
  refine cwV n hF.2.2.2.2 ?_ rfl hrc hrs ⟨hC, hd⟩ hR
  exact gBig (c0 := c0) (pre := [.methodLink own index y, .instanceMethod y, .selects C y y, .initialized C, .code y bytes maxL ret]) (by
    intro w hw
    simp only [List.mem_cons, List.not_mem_nil, or_false] at hw
    rcases hw with rfl | rfl | rfl | rfl | rfl <;> assumption)
theorem cwSB {c0 : Cond} {index maxL : Nat} {y : MethodName} {bytes : ByteArray} {ret : Option FieldType} {wsy : List Cond} {rm : Room} (n : Nat) (hF : CallFix p m c cc nL s args (c0 :: BIG) own) (hws : wsy = Cond.code y bytes maxL ret :: BIG) (hl : Cond.methodLink own index y ∈ BIG) (hi : Cond.static y ∈ BIG) (hini : Cond.initialized y.cls ∈ BIG) (hco : Cond.code y bytes maxL ret ∈ BIG) (hd : y.cls ≠ "java/lang/invoke/MethodHandle" ∧ y.cls ≠ "java/lang/invoke/VarHandle" ∧ (parseMethodDescriptor y.desc).map (fun d => d.parameters.length) = some n) (hrc : rm.cells = mc) (hrs : rm.slots = ms) (hR : rm.frames + 1 ≤ R.frames ∧ 8 + (maxL + 11) + rm.locals ≤ R.locals) : CallB R s args own index y bytes maxL ret wsy rm mc ms n ∧ (Cond.static y).before args s = true := by
  subst hws
  refine va_cwS n hF.2.2.2.2 ?_ rfl hrc hrs hd hR
  exact gBig (c0 := c0) (pre := [.methodLink own index y, .static y, .initialized y.cls, .code y bytes maxL ret]) (by
    intro w hw
    simp only [List.mem_cons, List.not_mem_nil, or_false] at hw
    rcases hw with rfl | rfl | rfl | rfl <;> assumption)
theorem cwIB {c0 : Cond} {index maxL : Nat} {y : MethodName} {bytes : ByteArray} {wsy : List Cond} {rm : Room} (n : Nat) (hF : CallFix p m c cc nL s args (c0 :: BIG) own) (hws : wsy = Cond.code y bytes maxL none :: BIG) (hl : Cond.methodLink own index y ∈ BIG) (hi : Cond.instanceMethod y ∈ BIG) (hini : Cond.initialized y.cls ∈ BIG) (hco : Cond.code y bytes maxL none ∈ BIG) (hy1 : y.name = "<init>") (hd : y.cls ≠ "java/lang/invoke/MethodHandle" ∧ y.cls ≠ "java/lang/invoke/VarHandle" ∧ (parseMethodDescriptor y.desc).map (fun d => d.parameters.length) = some n) (hrc : rm.cells = mc) (hrs : rm.slots = ms) (hR : rm.frames + 1 ≤ R.frames ∧ 8 + (maxL + 11) + rm.locals ≤ R.locals) : CallB R s args own index y bytes maxL none wsy rm mc ms n ∧ y.name = "<init>" ∧ (Cond.instanceMethod y).before args s = true := by
  subst hws
  refine cwI n hF.2.2.2.2 ?_ rfl hrc hrs (hF.2.2.2.2 _ (List.mem_cons_of_mem _ hini)) (hF.2.2.2.2 _ (List.mem_cons_of_mem _ hl)) (hF.2.2.2.2 _ (List.mem_cons_of_mem _ hi)) hy1 hd hR
  exact gBig (c0 := c0) (pre := [.code y bytes maxL none]) (by
    intro w hw
    simp only [List.mem_cons, List.not_mem_nil, or_false] at hw
    rcases hw with rfl; assumption)
theorem cwIN {c0 : Cond} {host : String} {index maxL : Nat} {y : MethodName} {bytes : ByteArray} {wsy : List Cond} {rm : Room} (n : Nat) (hF : CallFix p m c cc nL s args (c0 :: BIG) own) (hws : wsy = Cond.code y bytes maxL none :: BIG) (hl : va_Nw (.methodLinkNest own index y host) s) (hi : Cond.instanceMethod y ∈ BIG) (hini : Cond.initialized y.cls ∈ BIG) (hco : Cond.code y bytes maxL none ∈ BIG) (hy1 : y.name = "<init>") (hd : y.cls ≠ "java/lang/invoke/MethodHandle" ∧ y.cls ≠ "java/lang/invoke/VarHandle" ∧ (parseMethodDescriptor y.desc).map (fun d => d.parameters.length) = some n) (hrc : rm.cells = mc) (hrs : rm.slots = ms) (hR : rm.frames + 1 ≤ R.frames ∧ 8 + (maxL + 11) + rm.locals ≤ R.locals) : va_CN R s args own index y host bytes maxL none wsy rm mc ms n ∧ y.name = "<init>" ∧ (Cond.instanceMethod y).before args s = true := by
  subst hws
  refine ⟨va_cnB n hF.2.2.2.2 ?_ rfl hrc hrs hl (hF.2.2.2.2 _ (List.mem_cons_of_mem _ hini)) hd hR, hy1, hF.2.2.2.2 _ (List.mem_cons_of_mem _ hi)⟩
  exact gBig (c0 := c0) (pre := [.code y bytes maxL none]) (by
    intro w hw
    simp only [List.mem_cons, List.not_mem_nil, or_false] at hw
    rcases hw with rfl; assumption)
theorem kPre {b : Nat} {As : List Value} {C : String} (hK : KG G s) (hP : PG G ws H) (hD : va_D A ws) (isC : List Nat) (hn : va_nd isC = true) (hC : isC.map (fun i => ws[i]?) = wc.map some) {q0 ci : Nat} {q : vw_C} {fs : List Value} (hc : vwM[ci]? = some q) (he : ws[q0]? = some (b, .inr (ci, fs))) (hq : q.1 = C) : PreV s H C b (PreG G (.ref b :: As) wc H.size) As := by
  subst hq
  have hPc : PG G wc H := fun k x hk => by
    have h1 : (isC.map (fun i => ws[i]?))[k]? = some (some x) := by rw [hC, List.getElem?_map, hk]; rfl
    rw [List.getElem?_map] at h1
    cases hi : isC[k]? with
    | none => rw [hi] at h1; cases h1
    | some i => rw [hi] at h1; exact hP i x (Option.some.inj h1)
  have hDc := hD.sub isC hn hC
  exact ⟨fun a U g mk z => by obtain ⟨z0, z1, zP, zK, zD⟩ := z; exact ⟨z0, z1, zP, KG.same (s := U) (U := U.calling g mk a) rfl zK, zD⟩, va_recv hK.1 hP hc he, fun U hU hW => ⟨rfl, by rw [hU], by rw [hU]; exact hPc, hK.warm hW, hDc.weaken (fun _ _ _ _ => trivial)⟩⟩
theorem kPreS {As : List Value} (hK : KG G s) (hP : PG G ws H) (hD : va_D A ws) (isC : List Nat) (hn : va_nd isC = true) (hC : isC.map (fun i => ws[i]?) = wc.map some) : PreS s H (PreG G As wc H.size) As := by
  have hPc : PG G wc H := fun k x hk => by
    have h1 : (isC.map (fun i => ws[i]?))[k]? = some (some x) := by rw [hC, List.getElem?_map, hk]; rfl
    rw [List.getElem?_map] at h1
    cases hi : isC[k]? with
    | none => rw [hi] at h1; cases h1
    | some i => rw [hi] at h1; exact hP i x (Option.some.inj h1)
  have hDc := hD.sub isC hn hC
  exact ⟨fun a U g mk z => by obtain ⟨z0, z1, zP, zK, zD⟩ := z; exact ⟨z0, z1, zP, KG.same (s := U) (U := U.calling g mk a) rfl zK, zD⟩, fun U hU hW => ⟨rfl, by rw [hU], by rw [hU]; exact hPc, hK.warm hW, hDc.weaken (fun _ _ _ _ => trivial)⟩⟩
theorem kApp {X pl : va_W} (hP : PG G (X ++ pl) H) : PG G X H := fun k x hx => hP k x (by rw [List.getElem?_append_left (List.getElem?_eq_some_iff.mp hx).1]; exact hx)
theorem kAppD {X pl : va_W} (hD : va_D A (X ++ pl)) : va_D A X := ⟨fun i j x y hx hy h => hD.1 i j x y (by rw [List.getElem?_append_left (List.getElem?_eq_some_iff.mp hx).1]; exact hx) (by rw [List.getElem?_append_left (List.getElem?_eq_some_iff.mp hy).1]; exact hy) h, fun k x hx => hD.2 k x (by rw [List.getElem?_append_left (List.getElem?_eq_some_iff.mp hx).1]; exact hx)⟩
theorem kPreQ {b : Nat} {As : List Value} {C : String} {X pl : va_W} (hK : KG G s) (hP : PG G (X ++ pl) H) (hD : va_D A (X ++ pl)) (isC : List Nat) (hn : va_nd isC = true) (hC : isC.map (fun i => X[i]?) = wc.map some) {q0 ci : Nat} {q : vw_C} {fs : List Value} (hc : vwM[ci]? = some q) (he : X[q0]? = some (b, .inr (ci, fs))) (hq : q.1 = C) : PreV s H C b (PreG G (.ref b :: As) wc H.size) As := kPre hK (kApp hP) (kAppD hD) isC hn hC hc he hq
theorem kPreSQ {As : List Value} {X pl : va_W} (hK : KG G s) (hP : PG G (X ++ pl) H) (hD : va_D A (X ++ pl)) (isC : List Nat) (hn : va_nd isC = true) (hC : isC.map (fun i => X[i]?) = wc.map some) : PreS s H (PreG G As wc H.size) As := kPreS hK (kApp hP) (kAppD hD) isC hn hC
theorem kPreP {b : Nat} {As : List Value} {C : String} {X pl : va_W} (hK : KG G s) (hP : PG G (X ++ pl) H) (hD : va_D A (X ++ pl)) (isC : List Nat) (hn : va_nd isC = true) (hC : isC.map (fun i => X[i]?) = wc.map some) {q0 ci : Nat} {q : vw_C} {fs : List Value} (hc : vwM[ci]? = some q) (he : X[q0]? = some (b, .inr (ci, fs))) (hq : q.1 = C) : PreV s H C b (PreG G (.ref b :: As) (wc ++ pl) H.size) As := by
  subst hq
  have hPc : PG G (wc ++ pl) H := hP.part isC hC
  have hDc : va_D A (wc ++ pl) := hD.part isC hn hC
  exact ⟨fun a U g mk z => by obtain ⟨z0, z1, zP, zK, zD⟩ := z; exact ⟨z0, z1, zP, KG.same (s := U) (U := U.calling g mk a) rfl zK, zD⟩, va_recv hK.1 (kApp hP) hc he, fun U hU hW => ⟨rfl, by rw [hU], by rw [hU]; exact hPc, hK.warm hW, hDc.weaken (fun _ _ _ _ => trivial)⟩⟩
theorem kCallI {S : Type} {post : Int32 → S → Prop} {out : S → va_W} (hr : va_Run p l e R s m args below meth c H locs cells slots mc ms (F0 m pc ls st0) rest (va_Qi post (Bw G (va_A wc H.size) out) (va_A wc H.size) a) (va_A wc H.size)) (hP : PG G ws H) (hD : va_D A ws) (hS : va_S A s.heap H locs) (hA : ∀ q, s.heap.size ≤ q → A q) (isC isR : List Nat) (hC : isC.map (fun i => ws[i]?) = wc.map some) (hR : isR.map (fun i => ws[i]?) = wr.map some) (hn : va_nd isR = true) (hdis : ∀ i ∈ isR, i ∉ isC)
    (kk : ∀ (r : Int32) (u : S) (H1 : Heap) (locs1 : List Loc), post r u → PG G (wr ++ out u) H1 → va_D A (wr ++ out u) → va_S A s.heap H1 locs1 → W p l e R s m args below meth c H1 locs1 (cells + mc) (slots + ms) Q (F0 m (pc + 3) ls (.int r :: rest))) : W p l e R s m args below meth c H locs cells slots Q (F0 m pc ls st0) := by
  have hFc := va_free (wc := wc) hD hS hA isC hC
  refine va_calli hr hS (fun q _ h => hFc q h) hFc (fun r u t H1 locs1 ht hvm hw hB hz1 hk1 hS1 => ?_)
  obtain ⟨hP1, hD1⟩ := hB
  rw [ht] at hP1
  obtain ⟨hP2, hD2⟩ := va_join (wr := wr) hP hD isC isR hC hR hn hdis hk1 hFc hP1 hD1
  exact kk r u H1 locs1 hw hP2 hD2 hS1
theorem kCallL {S : Type} {post : Int64 → S → Prop} {out : S → va_W} (hr : va_Run p l e R s m args below meth c H locs cells slots mc ms (F0 m pc ls st0) rest (va_Ql post (Bw G (va_A wc H.size) out) (va_A wc H.size) a) (va_A wc H.size)) (hP : PG G ws H) (hD : va_D A ws) (hS : va_S A s.heap H locs) (hA : ∀ q, s.heap.size ≤ q → A q) (isC isR : List Nat) (hC : isC.map (fun i => ws[i]?) = wc.map some) (hR : isR.map (fun i => ws[i]?) = wr.map some) (hn : va_nd isR = true) (hdis : ∀ i ∈ isR, i ∉ isC)
    (kk : ∀ (r : Int64) (u : S) (H1 : Heap) (locs1 : List Loc), post r u → PG G (wr ++ out u) H1 → va_D A (wr ++ out u) → va_S A s.heap H1 locs1 → W p l e R s m args below meth c H1 locs1 (cells + mc) (slots + ms) Q (F0 m (pc + 3) ls (.long r :: rest))) : W p l e R s m args below meth c H locs cells slots Q (F0 m pc ls st0) := by
  have hFc := va_free (wc := wc) hD hS hA isC hC
  refine va_calll hr hS (fun q _ h => hFc q h) hFc (fun r u t H1 locs1 ht hvm hw hB hz1 hk1 hS1 => ?_)
  obtain ⟨hP1, hD1⟩ := hB
  rw [ht] at hP1
  obtain ⟨hP2, hD2⟩ := va_join (wr := wr) hP hD isC isR hC hR hn hdis hk1 hFc hP1 hD1
  exact kk r u H1 locs1 hw hP2 hD2 hS1
theorem kCallQ {S : Type} {post : Option Nat → S → Prop} {out : S → va_W} (hr : va_Run p l e R s m args below meth c H locs cells slots mc ms (F0 m pc ls st0) rest (va_Qq post (Bw G (va_A wc H.size) out) (va_A wc H.size) a) (va_A wc H.size)) (hP : PG G ws H) (hD : va_D A ws) (hS : va_S A s.heap H locs) (hA : ∀ q, s.heap.size ≤ q → A q) (isC isR : List Nat) (hC : isC.map (fun i => ws[i]?) = wc.map some) (hR : isR.map (fun i => ws[i]?) = wr.map some) (hn : va_nd isR = true) (hdis : ∀ i ∈ isR, i ∉ isC)
    (kk : ∀ (r : Option Nat) (u : S) (H1 : Heap) (locs1 : List Loc), post r u → PG G (wr ++ out u) H1 → va_D A (wr ++ out u) → va_S A s.heap H1 locs1 → W p l e R s m args below meth c H1 locs1 (cells + mc) (slots + ms) Q (F0 m (pc + 3) ls (va_rf r :: rest))) : W p l e R s m args below meth c H locs cells slots Q (F0 m pc ls st0) := by
  have hFc := va_free (wc := wc) hD hS hA isC hC
  refine va_callq hr hS (fun q _ h => hFc q h) hFc (fun r u t H1 locs1 ht hvm hw hB hz1 hk1 hS1 => ?_)
  obtain ⟨hP1, hD1⟩ := hB
  rw [ht] at hP1
  obtain ⟨hP2, hD2⟩ := va_join (wr := wr) hP hD isC isR hC hR hn hdis hk1 hFc hP1 hD1
  exact kk r u H1 locs1 hw hP2 hD2 hS1
theorem kCallV {S : Type} {post : S → Prop} {out : S → va_W} (hr : va_Run p l e R s m args below meth c H locs cells slots mc ms (F0 m pc ls st0) rest (va_Qv post (Bw G (va_A wc H.size) out) (va_A wc H.size) a) (va_A wc H.size)) (hP : PG G ws H) (hD : va_D A ws) (hS : va_S A s.heap H locs) (hA : ∀ q, s.heap.size ≤ q → A q) (isC isR : List Nat) (hC : isC.map (fun i => ws[i]?) = wc.map some) (hR : isR.map (fun i => ws[i]?) = wr.map some) (hn : va_nd isR = true) (hdis : ∀ i ∈ isR, i ∉ isC)
    (kk : ∀ (u : S) (H1 : Heap) (locs1 : List Loc), post u → PG G (wr ++ out u) H1 → va_D A (wr ++ out u) → va_S A s.heap H1 locs1 → W p l e R s m args below meth c H1 locs1 (cells + mc) (slots + ms) Q (F0 m (pc + 3) ls rest)) : W p l e R s m args below meth c H locs cells slots Q (F0 m pc ls st0) := by
  have hFc := va_free (wc := wc) hD hS hA isC hC
  refine va_callv hr hS (fun q _ h => hFc q h) hFc (fun u t H1 locs1 ht hvm hw hB hz1 hk1 hS1 => ?_)
  obtain ⟨hP1, hD1⟩ := hB
  rw [ht] at hP1
  obtain ⟨hP2, hD2⟩ := va_join (wr := wr) hP hD isC isR hC hR hn hdis hk1 hFc hP1 hD1
  exact kk u H1 locs1 hw hP2 hD2 hS1
theorem kFreeQ {X pl : va_W} (hD : va_D A (X ++ pl)) (hS : va_S A s.heap H locs) (hA : ∀ q, s.heap.size ≤ q → A q) (isC : List Nat) (hC : isC.map (fun i => X[i]?) = wc.map some) : ∀ q, va_A wc H.size q → A q := by
  refine va_free (wc := wc) (ws := X) ⟨fun i j x y hx hy h => hD.1 i j x y ?_ ?_ h, fun k x hx => hD.2 k x ?_⟩ hS hA isC hC
  · rw [List.getElem?_append_left (List.getElem?_eq_some_iff.mp hx).1]; exact hx
  · rw [List.getElem?_append_left (List.getElem?_eq_some_iff.mp hy).1]; exact hy
  · rw [List.getElem?_append_left (List.getElem?_eq_some_iff.mp hx).1]; exact hx
theorem kCallIQ {S : Type} {post : Int32 → S → Prop} {out : S → va_W} {X pl : va_W} (hr : va_Run p l e R s m args below meth c H locs cells slots mc ms (F0 m pc ls st0) rest (va_Qi post (Bw G (va_A wc H.size) out) (va_A wc H.size) a) (va_A wc H.size)) (hP : PG G (X ++ pl) H) (hD : va_D A (X ++ pl)) (hS : va_S A s.heap H locs) (hA : ∀ q, s.heap.size ≤ q → A q) (isC isR : List Nat) (hC : isC.map (fun i => X[i]?) = wc.map some) (hR : isR.map (fun i => X[i]?) = wr.map some) (hn : va_nd isR = true) (hdis : ∀ i ∈ isR, i ∉ isC)
    (kk : ∀ (r : Int32) (u : S) (H1 : Heap) (locs1 : List Loc), post r u → PG G ((wr ++ out u) ++ pl) H1 → va_D A ((wr ++ out u) ++ pl) → va_S A s.heap H1 locs1 → W p l e R s m args below meth c H1 locs1 (cells + mc) (slots + ms) Q (F0 m (pc + 3) ls (.int r :: rest))) : W p l e R s m args below meth c H locs cells slots Q (F0 m pc ls st0) := by
  have hFc : ∀ q, va_A wc H.size q → A q := kFreeQ hD hS hA isC hC
  refine va_calli hr hS (fun q _ h => hFc q h) hFc (fun r u t H1 locs1 ht hvm hw hB hz1 hk1 hS1 => ?_)
  obtain ⟨hP1, hD1⟩ := hB
  rw [ht] at hP1
  obtain ⟨hP2, hD2⟩ := va_joinQ hP hD isC isR hC hR hn hdis hk1 hFc hP1 hD1
  exact kk r u H1 locs1 hw hP2 hD2 hS1
theorem kCallIP {S : Type} {post : Int32 → S → Prop} {out : S → va_W} {X pl : va_W} (hr : va_Run p l e R s m args below meth c H locs cells slots mc ms (F0 m pc ls st0) rest (va_Qi post (Bw G (va_A (wc ++ pl) H.size) (fun u => out u ++ pl)) (va_A (wc ++ pl) H.size) a) (va_A (wc ++ pl) H.size)) (hP : PG G (X ++ pl) H) (hD : va_D A (X ++ pl)) (hS : va_S A s.heap H locs) (hA : ∀ q, s.heap.size ≤ q → A q) (isC isR : List Nat) (hC : isC.map (fun i => X[i]?) = wc.map some) (hR : isR.map (fun i => X[i]?) = wr.map some) (hn : va_nd isR = true) (hdis : ∀ i ∈ isR, i ∉ isC)
    (kk : ∀ (r : Int32) (u : S) (H1 : Heap) (locs1 : List Loc), post r u → PG G ((wr ++ out u) ++ pl) H1 → va_D A ((wr ++ out u) ++ pl) → va_S A s.heap H1 locs1 → W p l e R s m args below meth c H1 locs1 (cells + mc) (slots + ms) Q (F0 m (pc + 3) ls (.int r :: rest))) : W p l e R s m args below meth c H locs cells slots Q (F0 m pc ls st0) := by
  have hFc : ∀ q, va_A (wc ++ pl) H.size q → A q := va_freeP hD hS hA isC hC
  refine va_calli hr hS (fun q _ h => hFc q h) hFc (fun r u t H1 locs1 ht hvm hw hB hz1 hk1 hS1 => ?_)
  obtain ⟨hP1, hD1⟩ := hB
  rw [ht] at hP1
  obtain ⟨hP2, hD2⟩ := va_joinP hP hD isC isR hC hR hn hdis hk1 hFc hP1 hD1
  exact kk r u H1 locs1 hw hP2 hD2 hS1
theorem kCallLQ {S : Type} {post : Int64 → S → Prop} {out : S → va_W} {X pl : va_W} (hr : va_Run p l e R s m args below meth c H locs cells slots mc ms (F0 m pc ls st0) rest (va_Ql post (Bw G (va_A wc H.size) out) (va_A wc H.size) a) (va_A wc H.size)) (hP : PG G (X ++ pl) H) (hD : va_D A (X ++ pl)) (hS : va_S A s.heap H locs) (hA : ∀ q, s.heap.size ≤ q → A q) (isC isR : List Nat) (hC : isC.map (fun i => X[i]?) = wc.map some) (hR : isR.map (fun i => X[i]?) = wr.map some) (hn : va_nd isR = true) (hdis : ∀ i ∈ isR, i ∉ isC)
    (kk : ∀ (r : Int64) (u : S) (H1 : Heap) (locs1 : List Loc), post r u → PG G ((wr ++ out u) ++ pl) H1 → va_D A ((wr ++ out u) ++ pl) → va_S A s.heap H1 locs1 → W p l e R s m args below meth c H1 locs1 (cells + mc) (slots + ms) Q (F0 m (pc + 3) ls (.long r :: rest))) : W p l e R s m args below meth c H locs cells slots Q (F0 m pc ls st0) := by
  have hFc : ∀ q, va_A wc H.size q → A q := kFreeQ hD hS hA isC hC
  refine va_calll hr hS (fun q _ h => hFc q h) hFc (fun r u t H1 locs1 ht hvm hw hB hz1 hk1 hS1 => ?_)
  obtain ⟨hP1, hD1⟩ := hB
  rw [ht] at hP1
  obtain ⟨hP2, hD2⟩ := va_joinQ hP hD isC isR hC hR hn hdis hk1 hFc hP1 hD1
  exact kk r u H1 locs1 hw hP2 hD2 hS1
theorem kCallLP {S : Type} {post : Int64 → S → Prop} {out : S → va_W} {X pl : va_W} (hr : va_Run p l e R s m args below meth c H locs cells slots mc ms (F0 m pc ls st0) rest (va_Ql post (Bw G (va_A (wc ++ pl) H.size) (fun u => out u ++ pl)) (va_A (wc ++ pl) H.size) a) (va_A (wc ++ pl) H.size)) (hP : PG G (X ++ pl) H) (hD : va_D A (X ++ pl)) (hS : va_S A s.heap H locs) (hA : ∀ q, s.heap.size ≤ q → A q) (isC isR : List Nat) (hC : isC.map (fun i => X[i]?) = wc.map some) (hR : isR.map (fun i => X[i]?) = wr.map some) (hn : va_nd isR = true) (hdis : ∀ i ∈ isR, i ∉ isC)
    (kk : ∀ (r : Int64) (u : S) (H1 : Heap) (locs1 : List Loc), post r u → PG G ((wr ++ out u) ++ pl) H1 → va_D A ((wr ++ out u) ++ pl) → va_S A s.heap H1 locs1 → W p l e R s m args below meth c H1 locs1 (cells + mc) (slots + ms) Q (F0 m (pc + 3) ls (.long r :: rest))) : W p l e R s m args below meth c H locs cells slots Q (F0 m pc ls st0) := by
  have hFc : ∀ q, va_A (wc ++ pl) H.size q → A q := va_freeP hD hS hA isC hC
  refine va_calll hr hS (fun q _ h => hFc q h) hFc (fun r u t H1 locs1 ht hvm hw hB hz1 hk1 hS1 => ?_)
  obtain ⟨hP1, hD1⟩ := hB
  rw [ht] at hP1
  obtain ⟨hP2, hD2⟩ := va_joinP hP hD isC isR hC hR hn hdis hk1 hFc hP1 hD1
  exact kk r u H1 locs1 hw hP2 hD2 hS1
theorem kCallQQ {S : Type} {post : Option Nat → S → Prop} {out : S → va_W} {X pl : va_W} (hr : va_Run p l e R s m args below meth c H locs cells slots mc ms (F0 m pc ls st0) rest (va_Qq post (Bw G (va_A wc H.size) out) (va_A wc H.size) a) (va_A wc H.size)) (hP : PG G (X ++ pl) H) (hD : va_D A (X ++ pl)) (hS : va_S A s.heap H locs) (hA : ∀ q, s.heap.size ≤ q → A q) (isC isR : List Nat) (hC : isC.map (fun i => X[i]?) = wc.map some) (hR : isR.map (fun i => X[i]?) = wr.map some) (hn : va_nd isR = true) (hdis : ∀ i ∈ isR, i ∉ isC)
    (kk : ∀ (r : Option Nat) (u : S) (H1 : Heap) (locs1 : List Loc), post r u → PG G ((wr ++ out u) ++ pl) H1 → va_D A ((wr ++ out u) ++ pl) → va_S A s.heap H1 locs1 → W p l e R s m args below meth c H1 locs1 (cells + mc) (slots + ms) Q (F0 m (pc + 3) ls (va_rf r :: rest))) : W p l e R s m args below meth c H locs cells slots Q (F0 m pc ls st0) := by
  have hFc : ∀ q, va_A wc H.size q → A q := kFreeQ hD hS hA isC hC
  refine va_callq hr hS (fun q _ h => hFc q h) hFc (fun r u t H1 locs1 ht hvm hw hB hz1 hk1 hS1 => ?_)
  obtain ⟨hP1, hD1⟩ := hB
  rw [ht] at hP1
  obtain ⟨hP2, hD2⟩ := va_joinQ hP hD isC isR hC hR hn hdis hk1 hFc hP1 hD1
  exact kk r u H1 locs1 hw hP2 hD2 hS1
theorem kCallQP {S : Type} {post : Option Nat → S → Prop} {out : S → va_W} {X pl : va_W} (hr : va_Run p l e R s m args below meth c H locs cells slots mc ms (F0 m pc ls st0) rest (va_Qq post (Bw G (va_A (wc ++ pl) H.size) (fun u => out u ++ pl)) (va_A (wc ++ pl) H.size) a) (va_A (wc ++ pl) H.size)) (hP : PG G (X ++ pl) H) (hD : va_D A (X ++ pl)) (hS : va_S A s.heap H locs) (hA : ∀ q, s.heap.size ≤ q → A q) (isC isR : List Nat) (hC : isC.map (fun i => X[i]?) = wc.map some) (hR : isR.map (fun i => X[i]?) = wr.map some) (hn : va_nd isR = true) (hdis : ∀ i ∈ isR, i ∉ isC)
    (kk : ∀ (r : Option Nat) (u : S) (H1 : Heap) (locs1 : List Loc), post r u → PG G ((wr ++ out u) ++ pl) H1 → va_D A ((wr ++ out u) ++ pl) → va_S A s.heap H1 locs1 → W p l e R s m args below meth c H1 locs1 (cells + mc) (slots + ms) Q (F0 m (pc + 3) ls (va_rf r :: rest))) : W p l e R s m args below meth c H locs cells slots Q (F0 m pc ls st0) := by
  have hFc : ∀ q, va_A (wc ++ pl) H.size q → A q := va_freeP hD hS hA isC hC
  refine va_callq hr hS (fun q _ h => hFc q h) hFc (fun r u t H1 locs1 ht hvm hw hB hz1 hk1 hS1 => ?_)
  obtain ⟨hP1, hD1⟩ := hB
  rw [ht] at hP1
  obtain ⟨hP2, hD2⟩ := va_joinP hP hD isC isR hC hR hn hdis hk1 hFc hP1 hD1
  exact kk r u H1 locs1 hw hP2 hD2 hS1
theorem kCallVQ {S : Type} {post : S → Prop} {out : S → va_W} {X pl : va_W} (hr : va_Run p l e R s m args below meth c H locs cells slots mc ms (F0 m pc ls st0) rest (va_Qv post (Bw G (va_A wc H.size) out) (va_A wc H.size) a) (va_A wc H.size)) (hP : PG G (X ++ pl) H) (hD : va_D A (X ++ pl)) (hS : va_S A s.heap H locs) (hA : ∀ q, s.heap.size ≤ q → A q) (isC isR : List Nat) (hC : isC.map (fun i => X[i]?) = wc.map some) (hR : isR.map (fun i => X[i]?) = wr.map some) (hn : va_nd isR = true) (hdis : ∀ i ∈ isR, i ∉ isC)
    (kk : ∀ (u : S) (H1 : Heap) (locs1 : List Loc), post u → PG G ((wr ++ out u) ++ pl) H1 → va_D A ((wr ++ out u) ++ pl) → va_S A s.heap H1 locs1 → W p l e R s m args below meth c H1 locs1 (cells + mc) (slots + ms) Q (F0 m (pc + 3) ls rest)) : W p l e R s m args below meth c H locs cells slots Q (F0 m pc ls st0) := by
  have hFc : ∀ q, va_A wc H.size q → A q := kFreeQ hD hS hA isC hC
  refine va_callv hr hS (fun q _ h => hFc q h) hFc (fun u t H1 locs1 ht hvm hw hB hz1 hk1 hS1 => ?_)
  obtain ⟨hP1, hD1⟩ := hB
  rw [ht] at hP1
  obtain ⟨hP2, hD2⟩ := va_joinQ hP hD isC isR hC hR hn hdis hk1 hFc hP1 hD1
  exact kk u H1 locs1 hw hP2 hD2 hS1
theorem kCallVP {S : Type} {post : S → Prop} {out : S → va_W} {X pl : va_W} (hr : va_Run p l e R s m args below meth c H locs cells slots mc ms (F0 m pc ls st0) rest (va_Qv post (Bw G (va_A (wc ++ pl) H.size) (fun u => out u ++ pl)) (va_A (wc ++ pl) H.size) a) (va_A (wc ++ pl) H.size)) (hP : PG G (X ++ pl) H) (hD : va_D A (X ++ pl)) (hS : va_S A s.heap H locs) (hA : ∀ q, s.heap.size ≤ q → A q) (isC isR : List Nat) (hC : isC.map (fun i => X[i]?) = wc.map some) (hR : isR.map (fun i => X[i]?) = wr.map some) (hn : va_nd isR = true) (hdis : ∀ i ∈ isR, i ∉ isC)
    (kk : ∀ (u : S) (H1 : Heap) (locs1 : List Loc), post u → PG G ((wr ++ out u) ++ pl) H1 → va_D A ((wr ++ out u) ++ pl) → va_S A s.heap H1 locs1 → W p l e R s m args below meth c H1 locs1 (cells + mc) (slots + ms) Q (F0 m (pc + 3) ls rest)) : W p l e R s m args below meth c H locs cells slots Q (F0 m pc ls st0) := by
  have hFc : ∀ q, va_A (wc ++ pl) H.size q → A q := va_freeP hD hS hA isC hC
  refine va_callv hr hS (fun q _ h => hFc q h) hFc (fun u t H1 locs1 ht hvm hw hB hz1 hk1 hS1 => ?_)
  obtain ⟨hP1, hD1⟩ := hB
  rw [ht] at hP1
  obtain ⟨hP2, hD2⟩ := va_joinP hP hD isC isR hC hR hn hdis hk1 hFc hP1 hD1
  exact kk u H1 locs1 hw hP2 hD2 hS1
/-- a field is read -/
theorem kGet (hF : CallFix p m c cc nL s args Ts own) (hK : KG G s) (hP : PG G ws H) {C : String} {T : u_T} {N ci index b : Nat} (hin : ∀ w ∈ u_ws C T N, w ∈ Ts) (q0 : Nat) {fs : List Value} (he : ws[q0]? = some (b, .inr (ci, fs))) (hc : vwM[ci]? = some (C, T, N)) (k : Nat) (hk : k < N) (hsm : (T k).1 = C) (hlink : Cond.fieldLink own index C (T k).2.1 (T k).2.2.1 ∈ Ts) {v : Value} (hv : fs[k]? = some v) (hdg : decode cc pc = .ok (.getfield index, 3))
    (kk : W p l e R s m args below meth c H locs cells slots Q (F0 m (pc + 3) ls (v :: rest))) : W p l e R s m args below meth c H locs cells slots Q (F0 m pc ls (.ref b :: rest)) :=
  va_get (D := G.1) hF.1 hF.2.1 hF.2.2.2.2 hin hF.2.2.2.1 hK.1 hP q0 he hc k hk (hF.2.2.2.2 _ hlink) (fun x h => by rw [← hsm]; exact h) hv hdg kk
theorem kGetN {host : String} (hF : CallFix p m c cc nL s args Ts own) (hK : KG G s) (hP : PG G ws H) {C : String} {T : u_T} {N ci index b : Nat} (hin : ∀ w ∈ u_ws C T N, w ∈ Ts) (q0 : Nat) {fs : List Value} (he : ws[q0]? = some (b, .inr (ci, fs))) (hc : vwM[ci]? = some (C, T, N)) (k : Nat) (hk : k < N) (hsm : (T k).1 = C) (hlink : va_Nw (.fieldLinkNest own index C (T k).2.1 (T k).2.2.1 host) s) {v : Value} (hv : fs[k]? = some v) (hdg : decode cc pc = .ok (.getfield index, 3))
    (kk : W p l e R s m args below meth c H locs cells slots Q (F0 m (pc + 3) ls (v :: rest))) : W p l e R s m args below meth c H locs cells slots Q (F0 m pc ls (.ref b :: rest)) :=
  va_getN (D := G.1) hF.1 hF.2.1 hF.2.2.2.2 hin hF.2.2.2.1 hK.1 hP q0 he hc k hk (va_Nw.use rfl hlink) (fun x h => by rw [← hsm]; exact h) hv hdg kk
/-- a field is written -/
theorem kPut (hF : CallFix p m c cc nL s args Ts own) (hK : KG G s) (hP : PG G ws H) (hD : va_D A ws) (hS : va_S A s.heap H locs) {C : String} {T : u_T} {N ci index b : Nat} (hin : ∀ w ∈ u_ws C T N, w ∈ Ts) {ty0 : Nat → FieldType} (hty : ∀ k, k < N → parseFieldDescriptor (T k).2.2.1 = some (ty0 k)) (hnm : ∀ a, a < N → ∀ b, b < N → a ≠ b → (T a).2.1 ≠ (T b).2.1) (q0 : Nat) {fs : List Value} (he : ws[q0]? = some (b, .inr (ci, fs))) (hc : vwM[ci]? = some (C, T, N)) (k : Nat) (hk : k < N) (hsm : (T k).1 = C) (hlink : Cond.fieldLink own index C (T k).2.1 (T k).2.2.1 ∈ Ts) (hfin : (T k).2.2.2 = false) {v : Value} (hn : narrow (ty0 k) v = v) (hfit : fits (ty0 k) v = true) (hl : k < fs.length) (hdg : decode cc pc = .ok (.putfield index, 3))
    (kk : ∀ (H1 : Heap) (locs1 : List Loc), PG G (ws.set q0 (b, .inr (ci, fs.set k v))) H1 → va_D A (ws.set q0 (b, .inr (ci, fs.set k v))) → va_S A s.heap H1 locs1 → W p l e R s m args below meth c H1 locs1 cells slots Q (F0 m (pc + 3) ls rest)) : W p l e R s m args below meth c H locs cells slots Q (F0 m pc ls (v :: .ref b :: rest)) :=
  va_put (D := G.1) hF.1 hF.2.1 hF.2.2.2.2 hin ty0 hty hnm hF.2.2.2.1 hK.1 hP hD hS q0 he hc k hk (hF.2.2.2.2 _ hlink) (fun x h => by rw [← hsm]; exact h) hfin (hty k hk) hn hfit hl hdg kk
theorem kPutN {host : String} (hF : CallFix p m c cc nL s args Ts own) (hK : KG G s) (hP : PG G ws H) (hD : va_D A ws) (hS : va_S A s.heap H locs) {C : String} {T : u_T} {N ci index b : Nat} (hin : ∀ w ∈ u_ws C T N, w ∈ Ts) {ty0 : Nat → FieldType} (hty : ∀ k, k < N → parseFieldDescriptor (T k).2.2.1 = some (ty0 k)) (hnm : ∀ a, a < N → ∀ b, b < N → a ≠ b → (T a).2.1 ≠ (T b).2.1) (q0 : Nat) {fs : List Value} (he : ws[q0]? = some (b, .inr (ci, fs))) (hc : vwM[ci]? = some (C, T, N)) (k : Nat) (hk : k < N) (hsm : (T k).1 = C) (hlink : va_Nw (.fieldLinkNest own index C (T k).2.1 (T k).2.2.1 host) s) (hfin : (T k).2.2.2 = false) {v : Value} (hn : narrow (ty0 k) v = v) (hfit : fits (ty0 k) v = true) (hl : k < fs.length) (hdg : decode cc pc = .ok (.putfield index, 3))
    (kk : ∀ (H1 : Heap) (locs1 : List Loc), PG G (ws.set q0 (b, .inr (ci, fs.set k v))) H1 → va_D A (ws.set q0 (b, .inr (ci, fs.set k v))) → va_S A s.heap H1 locs1 → W p l e R s m args below meth c H1 locs1 cells slots Q (F0 m (pc + 3) ls rest)) : W p l e R s m args below meth c H locs cells slots Q (F0 m pc ls (v :: .ref b :: rest)) :=
  va_putN (D := G.1) hF.1 hF.2.1 hF.2.2.2.2 hin ty0 hty hnm hF.2.2.2.1 hK.1 hP hD hS q0 he hc k hk (va_Nw.use rfl hlink) (fun x h => by rw [← hsm]; exact h) hfin (hty k hk) hn hfit hl hdg kk
theorem kPutF (hF : CallFix p m c cc nL s args Ts own) (hnme : meth.name = "<init>") (hK : KG G s) (hP : PG G ws H) (hD : va_D A ws) (hS : va_S A s.heap H locs) {C : String} {T : u_T} {N ci index b : Nat} (hin : ∀ w ∈ u_ws C T N, w ∈ Ts) {ty0 : Nat → FieldType} (hty : ∀ k, k < N → parseFieldDescriptor (T k).2.2.1 = some (ty0 k)) (hnm : ∀ a, a < N → ∀ b, b < N → a ≠ b → (T a).2.1 ≠ (T b).2.1) (q0 : Nat) {fs : List Value} (he : ws[q0]? = some (b, .inr (ci, fs))) (hc : vwM[ci]? = some (C, T, N)) (k : Nat) (hk : k < N) (hsm : (T k).1 = C) (hlink : Cond.fieldLink own index C (T k).2.1 (T k).2.2.1 ∈ Ts) (hfin : (T k).2.2.2 = true) (hdecl : (T k).1 = own) {v : Value} (hn : narrow (ty0 k) v = v) (hfit : fits (ty0 k) v = true) (hl : k < fs.length) (hdg : decode cc pc = .ok (.putfield index, 3))
    (kk : ∀ (H1 : Heap) (locs1 : List Loc), PG G (ws.set q0 (b, .inr (ci, fs.set k v))) H1 → va_D A (ws.set q0 (b, .inr (ci, fs.set k v))) → va_S A s.heap H1 locs1 → W p l e R s m args below meth c H1 locs1 cells slots Q (F0 m (pc + 3) ls rest)) : W p l e R s m args below meth c H locs cells slots Q (F0 m pc ls (v :: .ref b :: rest)) :=
  va_putF (D := G.1) hF.1 hF.2.1 hF.2.2.2.2 hin ty0 hty hnm hF.2.2.2.1 hK.1 hP hD hS q0 he hc k hk (hF.2.2.2.2 _ hlink) (fun x h => by rw [← hsm]; exact h) hfin hnme hdecl (hty k hk) hn hfit hl hdg kk
/-- arrays by a number -/
theorem kIald (hF : CallFix p m c cc nL s args Ts own) (hK : KG G s) (hP : PG G ws H) (q0 : Nat) {b n : Nat} {f : Nat → Int32} (ha : ws[q0]? = some (aI G b n f)) {i : Int32} (hin : vp_in i n) (hdg : decode cc pc = .ok (.iaload, 1))
    (kk : W p l e R s m args below meth c H locs cells slots Q (F0 m (pc + 1) ls (.int (f (ix i)) :: rest))) : W p l e R s m args below meth c H locs cells slots Q (F0 m pc ls (.int i :: .ref b :: rest)) :=
  va_iald (D := G.1) hF.1 hF.2.1 hK.1 hP q0 0 ha rfl hin hdg kk
theorem kIaldN (hF : CallFix p m c cc nL s args Ts own) (hK : KG G s) (hP : PG G ws H) (q0 : Nat) {b n k : Nat} {f : Nat → Int32} (ha : ws[q0]? = some (aI G b n f)) (hk : k < n) (hn : n < 2 ^ 31) (hdg : decode cc pc = .ok (.iaload, 1))
    (kk : W p l e R s m args below meth c H locs cells slots Q (F0 m (pc + 1) ls (.int (f k) :: rest))) : W p l e R s m args below meth c H locs cells slots Q (F0 m pc ls (.int (nI k) :: .ref b :: rest)) :=
  va_iald (D := G.1) hF.1 hF.2.1 hK.1 hP q0 0 ha rfl (vp_in_nI hk hn) hdg (by rw [nI_clamp (Nat.lt_trans hk hn)]; exact kk)
theorem kCald (hF : CallFix p m c cc nL s args Ts own) (hK : KG G s) (hP : PG G ws H) (q0 : Nat) {b n : Nat} {f : Nat → Int32} (ha : ws[q0]? = some (aC G b n f)) {i : Int32} (hin : vp_in i n) (hdg : decode cc pc = .ok (.caload, 1))
    (kk : W p l e R s m args below meth c H locs cells slots Q (F0 m (pc + 1) ls (.int (f (ix i)) :: rest))) : W p l e R s m args below meth c H locs cells slots Q (F0 m pc ls (.int i :: .ref b :: rest)) :=
  va_cald (D := G.1) hF.1 hF.2.1 hK.1 hP q0 2 ha rfl hin hdg kk
theorem kCaldN (hF : CallFix p m c cc nL s args Ts own) (hK : KG G s) (hP : PG G ws H) (q0 : Nat) {b n k : Nat} {f : Nat → Int32} (ha : ws[q0]? = some (aC G b n f)) (hk : k < n) (hn : n < 2 ^ 31) (hdg : decode cc pc = .ok (.caload, 1))
    (kk : W p l e R s m args below meth c H locs cells slots Q (F0 m (pc + 1) ls (.int (f k) :: rest))) : W p l e R s m args below meth c H locs cells slots Q (F0 m pc ls (.int (nI k) :: .ref b :: rest)) :=
  va_cald (D := G.1) hF.1 hF.2.1 hK.1 hP q0 2 ha rfl (vp_in_nI hk hn) hdg (by rw [nI_clamp (Nat.lt_trans hk hn)]; exact kk)
theorem kLald (hF : CallFix p m c cc nL s args Ts own) (hK : KG G s) (hP : PG G ws H) (q0 : Nat) {b n : Nat} {f : Nat → Int64} (ha : ws[q0]? = some (aJ G b n f)) {i : Int32} (hin : vp_in i n) (hdg : decode cc pc = .ok (.laload, 1))
    (kk : W p l e R s m args below meth c H locs cells slots Q (F0 m (pc + 1) ls (.long (f (ix i)) :: rest))) : W p l e R s m args below meth c H locs cells slots Q (F0 m pc ls (.int i :: .ref b :: rest)) :=
  va_lald (D := G.1) hF.1 hF.2.1 hK.1 hP q0 1 ha rfl hin hdg kk
theorem kLaldN (hF : CallFix p m c cc nL s args Ts own) (hK : KG G s) (hP : PG G ws H) (q0 : Nat) {b n k : Nat} {f : Nat → Int64} (ha : ws[q0]? = some (aJ G b n f)) (hk : k < n) (hn : n < 2 ^ 31) (hdg : decode cc pc = .ok (.laload, 1))
    (kk : W p l e R s m args below meth c H locs cells slots Q (F0 m (pc + 1) ls (.long (f k) :: rest))) : W p l e R s m args below meth c H locs cells slots Q (F0 m pc ls (.int (nI k) :: .ref b :: rest)) :=
  va_lald (D := G.1) hF.1 hF.2.1 hK.1 hP q0 1 ha rfl (vp_in_nI hk hn) hdg (by rw [nI_clamp (Nat.lt_trans hk hn)]; exact kk)
theorem kAald (hF : CallFix p m c cc nL s args Ts own) (hK : KG G s) (hP : PG G ws H) (q0 : Nat) {b n : Nat} {f : Nat → Option Nat} (ha : ws[q0]? = some (aL G b n f)) {i : Int32} (hin : vp_in i n) (hdg : decode cc pc = .ok (.aaload, 1))
    (kk : W p l e R s m args below meth c H locs cells slots Q (F0 m (pc + 1) ls (va_rf (f (ix i)) :: rest))) : W p l e R s m args below meth c H locs cells slots Q (F0 m pc ls (.int i :: .ref b :: rest)) :=
  va_aldq (D := G.1) (C := "MountedPaths$Line") hF.1 hF.2.1 hK.1 hP q0 3 ha rfl hin hdg kk
theorem kIast (hF : CallFix p m c cc nL s args Ts own) (hK : KG G s) (hP : PG G ws H) (hD : va_D A ws) (hS : va_S A s.heap H locs) (q0 : Nat) {b n : Nat} {f : Nat → Int32} (ha : ws[q0]? = some (aI G b n f)) {i x : Int32} (hin : vp_in i n) (hdg : decode cc pc = .ok (.iastore, 1))
    (kk : ∀ (H1 : Heap) (locs1 : List Loc), PG G (ws.set q0 (aI G b n (upd f (ix i) x))) H1 → va_D A (ws.set q0 (aI G b n (upd f (ix i) x))) → va_S A s.heap H1 locs1 → W p l e R s m args below meth c H1 locs1 cells slots Q (F0 m (pc + 1) ls rest)) : W p l e R s m args below meth c H locs cells slots Q (F0 m pc ls (.int x :: .int i :: .ref b :: rest)) :=
  va_iast (D := G.1) hF.1 hF.2.1 hK.1 hP hD hS q0 0 ha rfl hin hdg kk
theorem kIastN (hF : CallFix p m c cc nL s args Ts own) (hK : KG G s) (hP : PG G ws H) (hD : va_D A ws) (hS : va_S A s.heap H locs) (q0 : Nat) {b n k : Nat} {f : Nat → Int32} (ha : ws[q0]? = some (aI G b n f)) {x : Int32} (hk : k < n) (hn : n < 2 ^ 31) (hdg : decode cc pc = .ok (.iastore, 1))
    (kk : ∀ (H1 : Heap) (locs1 : List Loc), PG G (ws.set q0 (aI G b n (upd f k x))) H1 → va_D A (ws.set q0 (aI G b n (upd f k x))) → va_S A s.heap H1 locs1 → W p l e R s m args below meth c H1 locs1 cells slots Q (F0 m (pc + 1) ls rest)) : W p l e R s m args below meth c H locs cells slots Q (F0 m pc ls (.int x :: .int (nI k) :: .ref b :: rest)) :=
  va_iast (D := G.1) hF.1 hF.2.1 hK.1 hP hD hS q0 0 ha rfl (vp_in_nI hk hn) hdg (by rw [nI_clamp (Nat.lt_trans hk hn)]; exact kk)
theorem kLastN (hF : CallFix p m c cc nL s args Ts own) (hK : KG G s) (hP : PG G ws H) (hD : va_D A ws) (hS : va_S A s.heap H locs) (q0 : Nat) {b n k : Nat} {f : Nat → Int64} (ha : ws[q0]? = some (aJ G b n f)) {x : Int64} (hk : k < n) (hn : n < 2 ^ 31) (hdg : decode cc pc = .ok (.lastore, 1))
    (kk : ∀ (H1 : Heap) (locs1 : List Loc), PG G (ws.set q0 (aJ G b n (vp_updL f k x))) H1 → va_D A (ws.set q0 (aJ G b n (vp_updL f k x))) → va_S A s.heap H1 locs1 → W p l e R s m args below meth c H1 locs1 cells slots Q (F0 m (pc + 1) ls rest)) : W p l e R s m args below meth c H locs cells slots Q (F0 m pc ls (.long x :: .int (nI k) :: .ref b :: rest)) :=
  va_last (D := G.1) hF.1 hF.2.1 hK.1 hP hD hS q0 1 ha rfl (vp_in_nI hk hn) hdg (by rw [nI_clamp (Nat.lt_trans hk hn)]; exact kk)
theorem kCastN (hF : CallFix p m c cc nL s args Ts own) (hK : KG G s) (hP : PG G ws H) (hD : va_D A ws) (hS : va_S A s.heap H locs) (q0 : Nat) {b n k : Nat} {f : Nat → Int32} (ha : ws[q0]? = some (aC G b n f)) {x : Int32} (hx : vp_nar .char x = x) (hk : k < n) (hn : n < 2 ^ 31) (hdg : decode cc pc = .ok (.castore, 1))
    (kk : ∀ (H1 : Heap) (locs1 : List Loc), PG G (ws.set q0 (aC G b n (upd f k x))) H1 → va_D A (ws.set q0 (aC G b n (upd f k x))) → va_S A s.heap H1 locs1 → W p l e R s m args below meth c H1 locs1 cells slots Q (F0 m (pc + 1) ls rest)) : W p l e R s m args below meth c H locs cells slots Q (F0 m pc ls (.int x :: .int (nI k) :: .ref b :: rest)) :=
  va_cast (D := G.1) hF.1 hF.2.1 hK.1 hP hD hS q0 2 ha rfl (vp_in_nI hk hn) hdg (by rw [nI_clamp (Nat.lt_trans hk hn), hx]; exact kk)
/-- what is made -/
theorem kNew {C : String} {T : u_T} {N ci index : Nat} {ty : Nat → FieldType} (hF : CallFix p m c cc nL s args Ts own) (hK : KG G s) (hP : PG G ws H) (hD : va_D A ws) (hS : va_S A s.heap H locs) (hA : ∀ q, s.heap.size ≤ q → A q) (hin : ∀ w ∈ u_ws C T N, w ∈ Ts) (hty : ∀ k, k < N → parseFieldDescriptor (T k).2.2.1 = some (ty k)) (hcl : Cond.classLink own index C ∈ Ts) (hinst : Cond.instantiable C N ∈ Ts) (hini : Cond.initialized C ∈ Ts) (hc : vwM[ci]? = some (C, T, N)) {fs : List Value} (hfs : ∀ j, j < N → defaultValue (ty j) = vp_V fs j) (hcells : cells + 1 ≤ R.cells) (hslots : slots + N ≤ R.slots) (hdg : decode cc pc = .ok (.new index, 3))
    (kk : ∀ (q : Nat) (H1 : Heap), PG G (ws ++ [(q, .inr (ci, fs))]) H1 → va_D A (ws ++ [(q, .inr (ci, fs))]) → va_S A s.heap H1 locs → W p l e R s m args below meth c H1 locs (cells + 1) (slots + N) Q (F0 m (pc + 3) ls (.ref q :: rest))) : W p l e R s m args below meth c H locs cells slots Q (F0 m pc ls rest) :=
  va_new (D := G.1) hF.1 hF.2.1 hF.2.2.2.2 hin ty hty hF.2.2.2.1 (hF.2.2.2.2 _ hcl) (hF.2.2.2.2 _ hinst) (hF.2.2.2.2 _ hini) hK.1 hP hD hS hA hc hfs hcells hslots hdg kk
theorem kNewX {c0 : Cond} {atype : ArrayType} {ty : FieldType} {t0 N0 : Nat} {cA0 : ClassId} {a0 : vp_A} (hF : CallFix p m c cc nL s args (c0 :: BIG) own) (hK : KG G s) (hP : PG G ws H) (hD : va_D A ws) (hS : va_S A s.heap H locs) (hA : ∀ q, s.heap.size ≤ q → A q) (harr : Cond.arrayClass (newarray.typeOf atype) ∈ BIG) (hty : newarray.typeOf atype = ty) (ht : (tyG G)[t0]? = some (cA0, ty)) (hra : ∀ cA, va_RA s cA ty → s.vm.findClass ("[" ++ ty.toString) = some cA) (ha : ∀ cA : ClassId, vp_cell cA a0 = arrV cA N0 (fun _ => defaultValue ty)) (hN0 : N0 < 2 ^ 20) (hbytes : N0 * componentBytes ty ≤ 536870912) (hcells : cells + 1 ≤ R.cells) (hslots : slots + N0 ≤ R.slots) (hdg : decode cc pc = .ok (.newarray atype, 2))
    (kk : ∀ (q : Nat) (H1 : Heap), PG G (ws ++ [(q, .inl (cA0, a0))]) H1 → va_D A (ws ++ [(q, .inl (cA0, a0))]) → va_S A s.heap H1 locs → W p l e R s m args below meth c H1 locs (cells + 1) (slots + N0) Q (F0 m (pc + 2) ls (.ref q :: rest))) : W p l e R s m args below meth c H locs cells slots Q (F0 m pc ls (.int (nI N0) :: rest)) := by
  refine va_newa (D := G.1) hF.1 hF.2.1 (hF.2.2.2.2 _ (List.mem_cons_of_mem _ harr)) hty hK.1 hP hD hS hA ha (nI_pos (by omega)) (nI_clamp (by omega)) hbytes hcells hslots hdg (fun q cA H1 hK1 hP1 hD1 hS1 => ?_)
  have h1 := hra cA (hK1.2 (tyG G).length (cA, ty) (by simp)).2
  have h2 := hra cA0 (hK.1.2 t0 (cA0, ty) ht).2
  have h3 : cA = cA0 := Option.some.inj (h1.symm.trans h2)
  subst h3
  exact kk q H1 hP1 hD1 hS1
theorem kNewI {c0 : Cond} {N0 : Nat} (hF : CallFix p m c cc nL s args (c0 :: BIG) own) (hK : KG G s) (hP : PG G ws H) (hD : va_D A ws) (hS : va_S A s.heap H locs) (hA : ∀ q, s.heap.size ≤ q → A q) (hN0 : N0 < 2 ^ 20) (hcells : cells + 1 ≤ R.cells) (hslots : slots + N0 ≤ R.slots) (hdg : decode cc pc = .ok (.newarray .int, 2))
    (kk : ∀ (q : Nat) (H1 : Heap), PG G (ws ++ [aI G q N0 (fun _ => nI 0)]) H1 → va_D A (ws ++ [aI G q N0 (fun _ => nI 0)]) → va_S A s.heap H1 locs → W p l e R s m args below meth c H1 locs (cells + 1) (slots + N0) Q (F0 m (pc + 2) ls (.ref q :: rest))) : W p l e R s m args below meth c H locs cells slots Q (F0 m pc ls (.int (nI N0) :: rest)) :=
  kNewX (atype := .int) (ty := .int) (t0 := 0) hF hK hP hD hS hA mA_int rfl rfl (fun _ h => h) (fun cA => rfl) hN0 (by show N0 * 4 ≤ _; omega) hcells hslots hdg kk
theorem kNewJ {c0 : Cond} {N0 : Nat} (hF : CallFix p m c cc nL s args (c0 :: BIG) own) (hK : KG G s) (hP : PG G ws H) (hD : va_D A ws) (hS : va_S A s.heap H locs) (hA : ∀ q, s.heap.size ≤ q → A q) (hN0 : N0 < 2 ^ 20) (hcells : cells + 1 ≤ R.cells) (hslots : slots + N0 ≤ R.slots) (hdg : decode cc pc = .ok (.newarray .long, 2))
    (kk : ∀ (q : Nat) (H1 : Heap), PG G (ws ++ [aJ G q N0 (fun _ => lN 0)]) H1 → va_D A (ws ++ [aJ G q N0 (fun _ => lN 0)]) → va_S A s.heap H1 locs → W p l e R s m args below meth c H1 locs (cells + 1) (slots + N0) Q (F0 m (pc + 2) ls (.ref q :: rest))) : W p l e R s m args below meth c H locs cells slots Q (F0 m pc ls (.int (nI N0) :: rest)) :=
  kNewX (atype := .long) (ty := .long) (t0 := 1) hF hK hP hD hS hA mA_long rfl rfl (fun _ h => h) (fun cA => rfl) hN0 (by show N0 * 8 ≤ _; omega) hcells hslots hdg kk
theorem kNewC {c0 : Cond} {N0 : Nat} (hF : CallFix p m c cc nL s args (c0 :: BIG) own) (hK : KG G s) (hP : PG G ws H) (hD : va_D A ws) (hS : va_S A s.heap H locs) (hA : ∀ q, s.heap.size ≤ q → A q) (hN0 : N0 < 2 ^ 20) (hcells : cells + 1 ≤ R.cells) (hslots : slots + N0 ≤ R.slots) (hdg : decode cc pc = .ok (.newarray .char, 2))
    (kk : ∀ (q : Nat) (H1 : Heap), PG G (ws ++ [aC G q N0 (fun _ => nI 0)]) H1 → va_D A (ws ++ [aC G q N0 (fun _ => nI 0)]) → va_S A s.heap H1 locs → W p l e R s m args below meth c H1 locs (cells + 1) (slots + N0) Q (F0 m (pc + 2) ls (.ref q :: rest))) : W p l e R s m args below meth c H locs cells slots Q (F0 m pc ls (.int (nI N0) :: rest)) :=
  kNewX (atype := .char) (ty := .char) (t0 := 2) hF hK hP hD hS hA mA_char rfl rfl (fun _ h => h) (fun cA => rfl) hN0 (by show N0 * 2 ≤ _; omega) hcells hslots hdg kk
theorem kNewL {c0 : Cond} {index N0 : Nat} (hF : CallFix p m c cc nL s args (c0 :: BIG) own) (hK : KG G s) (hP : PG G ws H) (hD : va_D A ws) (hS : va_S A s.heap H locs) (hA : ∀ q, s.heap.size ≤ q → A q) (hcl : Cond.classLink own index RX1 ∈ c0 :: BIG) (hN0 : N0 < 2 ^ 20) (hcells : cells + 1 ≤ R.cells) (hslots : slots + N0 ≤ R.slots) (hdg : decode cc pc = .ok (.anewarray index, 3))
    (kk : ∀ (q : Nat) (H1 : Heap), PG G (ws ++ [aL G q N0 (fun _ => none)]) H1 → va_D A (ws ++ [aL G q N0 (fun _ => none)]) → va_S A s.heap H1 locs → W p l e R s m args below meth c H1 locs (cells + 1) (slots + N0) Q (F0 m (pc + 3) ls (.ref q :: rest))) : W p l e R s m args below meth c H locs cells slots Q (F0 m pc ls (.int (nI N0) :: rest)) := by
  refine va_newq (D := G.1) hF.1 hF.2.1 hF.2.2.2.1 (hF.2.2.2.2 _ hcl) hK.2.2 hK.1 hP hD hS hA (nI_pos (by omega)) (nI_clamp (by omega)) (by omega) hcells hslots hdg (fun q cA H1 hK1 hP1 hD1 hS1 => ?_)
  obtain ⟨_, _, _, _, _, h1⟩ := (hK1.2 (tyG G).length (cA, .object RX1) (by simp)).2
  obtain ⟨_, _, _, _, _, h2⟩ := (hK.1.2 3 (G.2.2.2.2, .object "MountedPaths$Line") rfl).2
  have h3 : cA = G.2.2.2.2 := Option.some.inj (h1.symm.trans h2)
  subst h3
  exact kk q H1 hP1 hD1 hS1
/-- System.arraycopy among char arrays -/
theorem kCopyC {c0 : Cond} {index a0 b n0 n1 sp dp n : Nat} {f g : Nat → Int32} (hF : CallFix p m c cc nL s args (c0 :: BIG) own) (hl : Cond.methodLink own index arraycopyName ∈ BIG) (hsz : ls.size = nL) (hK : KG G s) (hP : PG G ws H) (hD : va_D A ws) (hS : va_S A s.heap H locs) (q0 q1 : Nat) (ha0 : ws[q0]? = some (aC G a0 n0 f)) (ha1 : ws[q1]? = some (aC G b n1 g)) (h1 : sp + n ≤ n0) (h2 : dp + n ≤ n1) (h3 : n0 < 2 ^ 31) (h4 : n1 < 2 ^ 31) (h5 : n < 2 ^ 31) (hfit : ∀ j, okC (f j)) (hframes : 1 ≤ R.frames) (hlocals : (rest.map fun v => v.category).sum + (nativeFrameWords "java/lang/System" "arraycopy" 5 + 11) ≤ R.locals) (hdg : decode cc pc = .ok (.invokestatic index, 3))
    (kk : ∀ (H1 : Heap) (locs1 : List Loc), PG G (ws.set q1 (aC G b n1 (va_cpy f g sp dp n))) H1 → va_D A (ws.set q1 (aC G b n1 (va_cpy f g sp dp n))) → va_S A s.heap H1 locs1 → W p l e R s m args below meth c H1 locs1 cells slots Q (F0 m (pc + 3) ls rest)) : W p l e R s m args below meth c H locs cells slots Q (F0 m pc ls (.int (nI n) :: .int (nI dp) :: .ref b :: .int (nI sp) :: .ref a0 :: rest)) := by
  have e1 : (nI sp).toNatClampNeg = sp := nI_clamp (by omega)
  have e2 : (nI dp).toNatClampNeg = dp := nI_clamp (by omega)
  have e3 : (nI n).toNatClampNeg = n := nI_clamp h5
  refine va_copyi (D := G.1) hF.1 hF.2.1 (hF.2.2.1.trans hsz.symm) hF.2.2.2.1 (hF.2.2.2.2 _ (List.mem_cons_of_mem _ hl)) (hF.2.2.2.2 _ (List.mem_cons_of_mem _ mY_n)) (hF.2.2.2.2 _ (List.mem_cons_of_mem _ mY_s)) (hF.2.2.2.2 _ (List.mem_cons_of_mem _ mY_i)) hK.1 hP hD hS q0 q1 2 2 ha0 ha1 rfl rfl rfl (nI_pos (by omega)) (nI_pos (by omega)) (nI_pos h5) (by rw [e1, e3]; exact h1) (by rw [e2, e3]; exact h2) (fun i _ => okC_fit (hfit _)) hframes hlocals hdg ?_
  rw [e1, e2, e3]
  exact kk
/-- the top of the stack under another name -/
theorem kTop {x y : Int32} (h : x = y) (k : W p l e R s m args below meth c H locs cells slots Q (F0 m pc ls (.int y :: rest))) : W p l e R s m args below meth c H locs cells slots Q (F0 m pc ls (.int x :: rest)) := h ▸ k
theorem kTopL {x y : Int64} (h : x = y) (k : W p l e R s m args below meth c H locs cells slots Q (F0 m pc ls (.long y :: rest))) : W p l e R s m args below meth c H locs cells slots Q (F0 m pc ls (.long x :: rest)) := h ▸ k
theorem kTopV {x y : Value} (h : x = y) (k : W p l e R s m args below meth c H locs cells slots Q (F0 m pc ls (y :: rest))) : W p l e R s m args below meth c H locs cells slots Q (F0 m pc ls (x :: rest)) := h ▸ k
/-- branches over numbers -/
theorem kLtN (hF : CallFix p m c cc nL s args Ts own) {x y : Nat} {off : Int} {tgt : Nat} (hdg : decode cc pc = .ok (.if_icmp .lt off, 3)) (ht : (pc : Int) + off = (tgt : Int)) (hx : x < 2 ^ 31) (hy : y < 2 ^ 31) (kt : x < y → W p l e R s m args below meth c H locs cells slots Q (F0 m tgt ls rest)) (kf : y ≤ x → W p l e R s m args below meth c H locs cells slots Q (F0 m (pc + 3) ls rest)) : W p l e R s m args below meth c H locs cells slots Q (F0 m pc ls (.int (nI y) :: .int (nI x) :: rest)) :=
  lv_icmp_lt hF.1 hF.2.1 hdg ht (fun h => kt ((nI_ltI hx hy).1 h)) (fun h => kf (Nat.le_of_not_lt fun h2 => h ((nI_ltI hx hy).2 h2)))
theorem kGeN (hF : CallFix p m c cc nL s args Ts own) {x y : Nat} {off : Int} {tgt : Nat} (hdg : decode cc pc = .ok (.if_icmp .ge off, 3)) (ht : (pc : Int) + off = (tgt : Int)) (hx : x < 2 ^ 31) (hy : y < 2 ^ 31) (kt : y ≤ x → W p l e R s m args below meth c H locs cells slots Q (F0 m tgt ls rest)) (kf : x < y → W p l e R s m args below meth c H locs cells slots Q (F0 m (pc + 3) ls rest)) : W p l e R s m args below meth c H locs cells slots Q (F0 m pc ls (.int (nI y) :: .int (nI x) :: rest)) :=
  lv_icmp_ge hF.1 hF.2.1 hdg ht (fun h => kt ((nI_leI hy hx).1 h)) (fun h => kf (Nat.lt_of_not_le fun h2 => h ((nI_leI hy hx).2 h2)))
theorem kGtN (hF : CallFix p m c cc nL s args Ts own) {x y : Nat} {off : Int} {tgt : Nat} (hdg : decode cc pc = .ok (.if_icmp .gt off, 3)) (ht : (pc : Int) + off = (tgt : Int)) (hx : x < 2 ^ 31) (hy : y < 2 ^ 31) (kt : y < x → W p l e R s m args below meth c H locs cells slots Q (F0 m tgt ls rest)) (kf : x ≤ y → W p l e R s m args below meth c H locs cells slots Q (F0 m (pc + 3) ls rest)) : W p l e R s m args below meth c H locs cells slots Q (F0 m pc ls (.int (nI y) :: .int (nI x) :: rest)) :=
  lv_icmp_gt hF.1 hF.2.1 hdg ht (fun h => kt ((nI_ltI hy hx).1 h)) (fun h => kf (Nat.le_of_not_lt fun h2 => h ((nI_ltI hy hx).2 h2)))
theorem kLeN (hF : CallFix p m c cc nL s args Ts own) {x y : Nat} {off : Int} {tgt : Nat} (hdg : decode cc pc = .ok (.if_icmp .le off, 3)) (ht : (pc : Int) + off = (tgt : Int)) (hx : x < 2 ^ 31) (hy : y < 2 ^ 31) (kt : x ≤ y → W p l e R s m args below meth c H locs cells slots Q (F0 m tgt ls rest)) (kf : y < x → W p l e R s m args below meth c H locs cells slots Q (F0 m (pc + 3) ls rest)) : W p l e R s m args below meth c H locs cells slots Q (F0 m pc ls (.int (nI y) :: .int (nI x) :: rest)) :=
  lv_icmp_le hF.1 hF.2.1 hdg ht (fun h => kt ((nI_leI hx hy).1 h)) (fun h => kf (Nat.lt_of_not_le fun h2 => h ((nI_leI hx hy).2 h2)))
theorem kEqN (hF : CallFix p m c cc nL s args Ts own) {x y : Nat} {off : Int} {tgt : Nat} (hdg : decode cc pc = .ok (.if_icmp .eq off, 3)) (ht : (pc : Int) + off = (tgt : Int)) (hx : x < 2 ^ 31) (hy : y < 2 ^ 31) (kt : x = y → W p l e R s m args below meth c H locs cells slots Q (F0 m tgt ls rest)) (kf : ¬ x = y → W p l e R s m args below meth c H locs cells slots Q (F0 m (pc + 3) ls rest)) : W p l e R s m args below meth c H locs cells slots Q (F0 m pc ls (.int (nI y) :: .int (nI x) :: rest)) :=
  lv_icmp_eq hF.1 hF.2.1 hdg ht (fun h => kt ((nI_eq hx hy).1 h)) (fun h => kf (fun h2 => h ((nI_eq hx hy).2 h2)))
theorem kNeN (hF : CallFix p m c cc nL s args Ts own) {x y : Nat} {off : Int} {tgt : Nat} (hdg : decode cc pc = .ok (.if_icmp .ne off, 3)) (ht : (pc : Int) + off = (tgt : Int)) (hx : x < 2 ^ 31) (hy : y < 2 ^ 31) (kt : ¬ x = y → W p l e R s m args below meth c H locs cells slots Q (F0 m tgt ls rest)) (kf : x = y → W p l e R s m args below meth c H locs cells slots Q (F0 m (pc + 3) ls rest)) : W p l e R s m args below meth c H locs cells slots Q (F0 m pc ls (.int (nI y) :: .int (nI x) :: rest)) :=
  lv_icmp_ne hF.1 hF.2.1 hdg ht (fun h => kt (fun h2 => h ((nI_eq hx hy).2 h2))) (fun h => kf ((nI_eq hx hy).1 h))
theorem nI_eq0 {x : Nat} (hx : x < 2 ^ 31) : nI x = 0 ↔ x = 0 := nI_eq hx (by decide)
theorem kIfEqN (hF : CallFix p m c cc nL s args Ts own) {x : Nat} {off : Int} {tgt : Nat} (hdg : decode cc pc = .ok (.ifCond .eq off, 3)) (ht : (pc : Int) + off = (tgt : Int)) (hx : x < 2 ^ 31) (kt : x = 0 → W p l e R s m args below meth c H locs cells slots Q (F0 m tgt ls rest)) (kf : 0 < x → W p l e R s m args below meth c H locs cells slots Q (F0 m (pc + 3) ls rest)) : W p l e R s m args below meth c H locs cells slots Q (F0 m pc ls (.int (nI x) :: rest)) :=
  lv_if_eq hF.1 hF.2.1 hdg ht (fun h => kt ((nI_eq0 hx).1 h)) (fun h => kf (Nat.pos_of_ne_zero fun h2 => h ((nI_eq0 hx).2 h2)))
theorem kIfNeN (hF : CallFix p m c cc nL s args Ts own) {x : Nat} {off : Int} {tgt : Nat} (hdg : decode cc pc = .ok (.ifCond .ne off, 3)) (ht : (pc : Int) + off = (tgt : Int)) (hx : x < 2 ^ 31) (kt : 0 < x → W p l e R s m args below meth c H locs cells slots Q (F0 m tgt ls rest)) (kf : x = 0 → W p l e R s m args below meth c H locs cells slots Q (F0 m (pc + 3) ls rest)) : W p l e R s m args below meth c H locs cells slots Q (F0 m pc ls (.int (nI x) :: rest)) :=
  lv_if_ne hF.1 hF.2.1 hdg ht (fun h => kt (Nat.pos_of_ne_zero fun h2 => h ((nI_eq0 hx).2 h2))) (fun h => kf ((nI_eq0 hx).1 h))
theorem kIfLtN (hF : CallFix p m c cc nL s args Ts own) {x : Nat} {off : Int} (hdg : decode cc pc = .ok (.ifCond .lt off, 3)) {tgt : Nat} (ht : (pc : Int) + off = (tgt : Int)) (hx : x < 2 ^ 31) (kf : W p l e R s m args below meth c H locs cells slots Q (F0 m (pc + 3) ls rest)) : W p l e R s m args below meth c H locs cells slots Q (F0 m pc ls (.int (nI x) :: rest)) :=
  lv_if_lt hF.1 hF.2.1 hdg ht (fun h => absurd h (nI_pos hx)) (fun _ => kf)
theorem kIfGeN (hF : CallFix p m c cc nL s args Ts own) {x : Nat} {off : Int} (hdg : decode cc pc = .ok (.ifCond .ge off, 3)) {tgt : Nat} (ht : (pc : Int) + off = (tgt : Int)) (hx : x < 2 ^ 31) (kf : W p l e R s m args below meth c H locs cells slots Q (F0 m tgt ls rest)) : W p l e R s m args below meth c H locs cells slots Q (F0 m pc ls (.int (nI x) :: rest)) :=
  lv_if_ge hF.1 hF.2.1 hdg ht (fun _ => kf) (fun h => absurd (nI_pos' hx) h)
theorem kIfLeN (hF : CallFix p m c cc nL s args Ts own) {x : Nat} {off : Int} {tgt : Nat} (hdg : decode cc pc = .ok (.ifCond .le off, 3)) (ht : (pc : Int) + off = (tgt : Int)) (hx : x < 2 ^ 31) (kt : x = 0 → W p l e R s m args below meth c H locs cells slots Q (F0 m tgt ls rest)) (kf : 0 < x → W p l e R s m args below meth c H locs cells slots Q (F0 m (pc + 3) ls rest)) : W p l e R s m args below meth c H locs cells slots Q (F0 m pc ls (.int (nI x) :: rest)) :=
  lv_if_le hF.1 hF.2.1 hdg ht (fun h => kt (Nat.le_zero.1 ((nI_leI hx (by decide : 0 < 2 ^ 31)).1 h))) (fun h => kf (Nat.pos_of_ne_zero fun h2 => h (by rw [h2]; decide)))
theorem kIfGtN (hF : CallFix p m c cc nL s args Ts own) {x : Nat} {off : Int} {tgt : Nat} (hdg : decode cc pc = .ok (.ifCond .gt off, 3)) (ht : (pc : Int) + off = (tgt : Int)) (hx : x < 2 ^ 31) (kt : 0 < x → W p l e R s m args below meth c H locs cells slots Q (F0 m tgt ls rest)) (kf : x = 0 → W p l e R s m args below meth c H locs cells slots Q (F0 m (pc + 3) ls rest)) : W p l e R s m args below meth c H locs cells slots Q (F0 m pc ls (.int (nI x) :: rest)) :=
  lv_if_gt hF.1 hF.2.1 hdg ht (fun h => kt ((nI_ltI (by decide : 0 < 2 ^ 31) hx).1 h)) (fun h => kf (Nat.eq_zero_of_not_pos fun h2 => h ((nI_ltI (by decide : 0 < 2 ^ 31) hx).2 h2)))
theorem kIfEqZ (hF : CallFix p m c cc nL s args Ts own) {P : Prop} {off : Int} {tgt : Nat} (hdg : decode cc pc = .ok (.ifCond .eq off, 3)) (ht : (pc : Int) + off = (tgt : Int)) (kt : ¬ P → W p l e R s m args below meth c H locs cells slots Q (F0 m tgt ls rest)) (kf : P → W p l e R s m args below meth c H locs cells slots Q (F0 m (pc + 3) ls rest)) : W p l e R s m args below meth c H locs cells slots Q (F0 m pc ls (.int (zI P) :: rest)) :=
  lv_if_eq hF.1 hF.2.1 hdg ht (fun h => kt (zI_eq0.1 h)) (fun h => kf (zI_ne0.1 h))
theorem kIfNeZ (hF : CallFix p m c cc nL s args Ts own) {P : Prop} {off : Int} {tgt : Nat} (hdg : decode cc pc = .ok (.ifCond .ne off, 3)) (ht : (pc : Int) + off = (tgt : Int)) (kt : P → W p l e R s m args below meth c H locs cells slots Q (F0 m tgt ls rest)) (kf : ¬ P → W p l e R s m args below meth c H locs cells slots Q (F0 m (pc + 3) ls rest)) : W p l e R s m args below meth c H locs cells slots Q (F0 m pc ls (.int (zI P) :: rest)) :=
  lv_if_ne hF.1 hF.2.1 hdg ht (fun h => kt (zI_ne0.1 h)) (fun h => kf (zI_eq0.1 h))
theorem kRetI {S : Type} {post : Int32 → S → Prop} {out : S → va_W} {v : Int32} {ty : FieldType} (hF : CallFix p m c cc nL s args Ts own) (hr : meth.sig.returnType = some ty) (hlk : meth.locks = false) (hK : KG G s) (hP : PG G ws H) (hD : va_D A ws) (hS : va_S A s.heap H locs) (hQ : Q = MQ below (va_Qi post (Bw G A out) A) args s mc ms A) (hn : narrow ty (.int v) = .int v) (u : S) (is : List Nat) (hnd : va_nd is = true) (hs : is.map (fun i => ws[i]?) = (out u).map some) (hc : cells ≤ mc) (hsl : slots ≤ ms) (hdg : decode cc pc = .ok (.ireturn, 1)) (hp : post v u) : W p l e R s m args below meth c H locs cells slots Q (F0 m pc ls [.int v]) := by
  rw [hQ]
  refine W.widen hc hsl ?_
  have hD9 := hD.sub is hnd hs
  have hP9 : PG G (out u) H := fun k x hk => by
    have h1 : (is.map (fun i => ws[i]?))[k]? = some (some x) := by rw [hs, List.getElem?_map, hk]; rfl
    rw [List.getElem?_map] at h1
    cases hi : is[k]? with
    | none => rw [hi] at h1; cases h1
    | some i => rw [hi] at h1; exact hP i x (Option.some.inj h1)
  exact W.zret hF.1 hF.2.1 hr hn (fun t ht hW => ⟨⟨v, u, rfl, hp, by rw [ht]; exact hP9, hD9⟩, hS.F ht⟩) hS.2.2 hdg hlk
theorem kRetL {S : Type} {post : Int64 → S → Prop} {out : S → va_W} {v : Int64} (hF : CallFix p m c cc nL s args Ts own) (hr : meth.sig.returnType = some .long) (hlk : meth.locks = false) (hK : KG G s) (hP : PG G ws H) (hD : va_D A ws) (hS : va_S A s.heap H locs) (hQ : Q = MQ below (va_Ql post (Bw G A out) A) args s mc ms A) (u : S) (is : List Nat) (hnd : va_nd is = true) (hs : is.map (fun i => ws[i]?) = (out u).map some) (hc : cells ≤ mc) (hsl : slots ≤ ms) (hdg : decode cc pc = .ok (.lreturn, 1)) (hp : post v u) : W p l e R s m args below meth c H locs cells slots Q (F0 m pc ls [.long v]) := by
  rw [hQ]
  refine W.widen hc hsl ?_
  have hD9 := hD.sub is hnd hs
  have hP9 : PG G (out u) H := fun k x hk => by
    have h1 : (is.map (fun i => ws[i]?))[k]? = some (some x) := by rw [hs, List.getElem?_map, hk]; rfl
    rw [List.getElem?_map] at h1
    cases hi : is[k]? with
    | none => rw [hi] at h1; cases h1
    | some i => rw [hi] at h1; exact hP i x (Option.some.inj h1)
  exact W.lret hF.1 hF.2.1 hr (fun t ht hW => ⟨⟨v, u, rfl, hp, by rw [ht]; exact hP9, hD9⟩, hS.F ht⟩) hS.2.2 hdg hlk
theorem kRetV {S : Type} {post : S → Prop} {out : S → va_W} (hF : CallFix p m c cc nL s args Ts own) (hr : meth.sig.returnType = none) (hlk : meth.locks = false) (hK : KG G s) (hP : PG G ws H) (hD : va_D A ws) (hS : va_S A s.heap H locs) (hQ : Q = MQ below (va_Qv post (Bw G A out) A) args s mc ms A) (u : S) (is : List Nat) (hnd : va_nd is = true) (hs : is.map (fun i => ws[i]?) = (out u).map some) (hc : cells ≤ mc) (hsl : slots ≤ ms) (hdg : decode cc pc = .ok (.return_, 1)) (hp : post u) : W p l e R s m args below meth c H locs cells slots Q (F0 m pc ls []) := by
  rw [hQ]
  refine W.widen hc hsl ?_
  have hD9 := hD.sub is hnd hs
  have hP9 : PG G (out u) H := fun k x hk => by
    have h1 : (is.map (fun i => ws[i]?))[k]? = some (some x) := by rw [hs, List.getElem?_map, hk]; rfl
    rw [List.getElem?_map] at h1
    cases hi : is[k]? with
    | none => rw [hi] at h1; cases h1
    | some i => rw [hi] at h1; exact hP i x (Option.some.inj h1)
  exact W.vret hF.1 hF.2.1 hr (fun t ht hW => ⟨⟨u, rfl, hp, by rw [ht]; exact hP9, hD9⟩, hS.F ht⟩) hS.2.2 hdg hlk
theorem kRetQ {S : Type} {post : Option Nat → S → Prop} {out : S → va_W} {v : Option Nat} {rt : FieldType} (hF : CallFix p m c cc nL s args Ts own) (hr : meth.sig.returnType = some rt) (hrt : (∃ n, rt = .object n) ∨ ∃ t, rt = .array t) (hlk : meth.locks = false) (hK : KG G s) (hP : PG G ws H) (hD : va_D A ws) (hS : va_S A s.heap H locs) (hQ : Q = MQ below (va_Qq post (Bw G A out) A) args s mc ms A) (u : S) (is : List Nat) (hnd : va_nd is = true) (hs : is.map (fun i => ws[i]?) = (out u).map some) (hc : cells ≤ mc) (hsl : slots ≤ ms) (hdg : decode cc pc = .ok (.areturn, 1)) (hp : post v u) : W p l e R s m args below meth c H locs cells slots Q (F0 m pc ls [va_rf v]) := by
  rw [hQ]
  refine W.widen hc hsl ?_
  have hD9 := hD.sub is hnd hs
  have hP9 : PG G (out u) H := fun k x hk => by
    have h1 : (is.map (fun i => ws[i]?))[k]? = some (some x) := by rw [hs, List.getElem?_map, hk]; rfl
    rw [List.getElem?_map] at h1
    cases hi : is[k]? with
    | none => rw [hi] at h1; cases h1
    | some i => rw [hi] at h1; exact hP i x (Option.some.inj h1)
  exact W.aret hF.1 hF.2.1 hr hrt (va_rf_or v) (fun t ht hW => ⟨⟨v, u, rfl, hp, by rw [ht]; exact hP9, hD9⟩, hS.F ht⟩) hS.2.2 hdg hlk
theorem kRetIT {S : Type} {post : Int32 → S → Prop} {ox : S → va_W} {X pl : va_W} {v : Int32} {ty : FieldType} (hF : CallFix p m c cc nL s args Ts own) (hr : meth.sig.returnType = some ty) (hlk : meth.locks = false) (hK : KG G s) (hP : PG G (X ++ pl) H) (hD : va_D A (X ++ pl)) (hS : va_S A s.heap H locs) (hQ : Q = MQ below (va_Qi post (Bw G A (fun u => ox u ++ pl)) A) args s mc ms A) (hn : narrow ty (.int v) = .int v) (u : S) (is : List Nat) (hnd : va_nd is = true) (hs : is.map (fun i => X[i]?) = (ox u).map some) (hc : cells ≤ mc) (hsl : slots ≤ ms) (hdg : decode cc pc = .ok (.ireturn, 1)) (hp : post v u) : W p l e R s m args below meth c H locs cells slots Q (F0 m pc ls [.int v]) := by
  rw [hQ]
  refine W.widen hc hsl ?_
  have hD9 : va_D A (ox u ++ pl) := hD.part is hnd hs
  have hP9 : PG G (ox u ++ pl) H := hP.part is hs
  exact W.zret hF.1 hF.2.1 hr hn (fun t ht hW => ⟨⟨v, u, rfl, hp, by rw [ht]; exact hP9, hD9⟩, hS.F ht⟩) hS.2.2 hdg hlk
theorem kRetVT {S : Type} {post : S → Prop} {ox : S → va_W} {X pl : va_W} (hF : CallFix p m c cc nL s args Ts own) (hr : meth.sig.returnType = none) (hlk : meth.locks = false) (hK : KG G s) (hP : PG G (X ++ pl) H) (hD : va_D A (X ++ pl)) (hS : va_S A s.heap H locs) (hQ : Q = MQ below (va_Qv post (Bw G A (fun u => ox u ++ pl)) A) args s mc ms A) (u : S) (is : List Nat) (hnd : va_nd is = true) (hs : is.map (fun i => X[i]?) = (ox u).map some) (hc : cells ≤ mc) (hsl : slots ≤ ms) (hdg : decode cc pc = .ok (.return_, 1)) (hp : post u) : W p l e R s m args below meth c H locs cells slots Q (F0 m pc ls []) := by
  rw [hQ]
  refine W.widen hc hsl ?_
  have hD9 : va_D A (ox u ++ pl) := hD.part is hnd hs
  have hP9 : PG G (ox u ++ pl) H := hP.part is hs
  exact W.vret hF.1 hF.2.1 hr (fun t ht hW => ⟨⟨u, rfl, hp, by rw [ht]; exact hP9, hD9⟩, hS.F ht⟩) hS.2.2 hdg hlk
end MKC
/-- a contract out of the walk of its body -/
theorem kMet {l : Launch} {G : GG} {y : MethodName} {ws : List Cond} {fr lo mc ms sz : Nat} {av : List Value} {WS : va_W} {Qc : (Nat → Prop) → Array Value → State → Outcome → State → Prop} {cc : ByteArray} {nL : Nat} {ret : Option FieldType} (hy : plainName y.cls = true) (hw : ws = Cond.code y cc nL ret :: BIG) (hlen : (lg_sl av).length ≤ nL)
    (body : ∀ (p : Program) (e : Env) (s : State) (m : MethodId) (args : Array Value) (below : List Frame) (meth : Method) (c : Code) (A : Nat → Prop) (Q : State → Prop), CallFix p m c cc nL s args (Cond.code y cc nL ret :: BIG) y.cls → meth.sig.returnType = ret → meth.locks = false → meth.name = y.name → KG G s → PG G WS s.heap → va_D A WS → (∀ q, s.heap.size ≤ q → A q) → va_S A s.heap s.heap [] → Q = MQ below (Qc A) args s mc ms A → s.heap.size = sz → ∀ ls : Array Slot, lv_has ls nL (lv_args 0 av) → W p l e (Rm fr mc ms lo) s m args below meth c s.heap [] 0 0 Q (F0 m 0 ls [])) :
    Met l y ws (Rm fr mc ms lo) (PreG G av WS sz) (Qc (va_A WS sz)) mc ms (va_A WS sz) := by
  subst hw
  refine Met.ofW (cc := cc) (maxL := nL) (ret := ret) hy rfl ?_
  intro p e s m args below meth c s₁ B hml hv
  obtain ⟨rfl, hsz, hP, hK, hD0⟩ := hv
  have hts := atoms_spec (ws := Cond.code y cc nL ret :: BIG) B.pre
  have hown : s.vm.findClass y.cls = some m.cls := findClass_of_methodNamed B.named
  subst hsz
  have hD := hD0.self (sz := s.heap.size)
  have hl := lv_entry av (n := nL) hlen
  rw [lg_entry_eq]
  exact body p e s m av.toArray below meth c _ _ ⟨B.exec, B.bytes, hml, hown, hts⟩ B.returns B.notSynchronized (name_of_methodNamed B.named B.method).1 hK hP hD (fun q h => Or.inr h) va_S.rf rfl rfl _ hl
