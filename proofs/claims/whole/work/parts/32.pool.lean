section PQ
variable {p : Program} {l : Launch} {e : Env} {R : Room} {s : State} {m : MethodId} {args : Array Value} {below : List Frame} {meth : Method} {c : Code} {H : Heap} {locs : List Loc} {cells slots mc ms pc : Nat} {Q : State → Prop} {G : GG} {A : Nat → Prop} {ws : va_W} {ls : Array Slot} {rest : List Value} {cc : ByteArray} {nL : Nat} {Ts : List Cond} {own : String}
theorem kAast (hF : CallFix p m c cc nL s args Ts own) (hK : KG G s) (hP : PG G ws H) (hD : va_D A ws) (hS : va_S A s.heap H locs) (q0 qk : Nat) {b n v : Nat} {vs : List Value} {f : Nat → Option Nat} (ha : ws[q0]? = some (aL G b n f)) (hv : ws[qk]? = some (v, .inr (1, vs))) {i : Int32} (hin : vp_in i n) (hdg : decode cc pc = .ok (.aastore, 1))
    (kk : ∀ (H1 : Heap) (locs1 : List Loc), PG G (ws.set q0 (aL G b n (va_up f (ix i) (some v)))) H1 → va_D A (ws.set q0 (aL G b n (va_up f (ix i) (some v)))) → va_S A s.heap H1 locs1 → W p l e R s m args below meth c H1 locs1 cells slots Q (F0 m (pc + 1) ls rest)) : W p l e R s m args below meth c H locs cells slots Q (F0 m pc ls (.ref v :: .int i :: .ref b :: rest)) :=
  va_astq (D := G.1) (r := (RX1, TX1, 2)) hF.1 hF.2.1 hK.1 hP hD hS q0 3 qk 1 ha rfl hv rfl hin hdg kk
/-- a return whose world stands as it must -/
theorem kRetIE {S : Type} {post : Int32 → S → Prop} {out : S → va_W} {v : Int32} {ty : FieldType} (hF : CallFix p m c cc nL s args Ts own) (hr : meth.sig.returnType = some ty) (hlk : meth.locks = false) (hS : va_S A s.heap H locs) (hQ : Q = MQ below (va_Qi post (Bw G A out) A) args s mc ms A) (hn : narrow ty (.int v) = .int v) (u : S) (hP : PG G (out u) H) (hD : va_D A (out u)) (hc : cells ≤ mc) (hsl : slots ≤ ms) (hdg : decode cc pc = .ok (.ireturn, 1)) (hp : post v u) : W p l e R s m args below meth c H locs cells slots Q (F0 m pc ls [.int v]) := by
  rw [hQ]
  refine W.widen hc hsl ?_
  exact W.zret hF.1 hF.2.1 hr hn (fun t ht hW => ⟨⟨v, u, rfl, hp, by rw [ht]; exact hP, hD⟩, hS.F ht⟩) hS.2.2 hdg hlk
end PQ
/-- the pool of the links' texts: each number that has a line has its two cells among pl, all apart -/
def PoolOK (G : GG) (tF : Nat → Option Nat) (pl : va_W) (NN : Nat → Nat) (FF : Nat → Nat → Int32) : Prop := ∃ B : Nat → Nat, (∀ i, i < 40 → ∀ y, tF i = some y → NN i ≤ 40 ∧ (∀ j, okC (FF i j)) ∧ oC y 1 [.ref (B i), .int (nI (NN i))] ∈ pl ∧ aC G (B i) 40 (FF i) ∈ pl) ∧ (∀ i j, i < 40 → j < 40 → i ≠ j → ∀ y z, tF i = some y → tF j = some z → y ≠ z ∧ B i ≠ B j)
theorem PoolOK.tg {G : GG} {kF : Nat → Int32} {tF : Nat → Option Nat} {pl : va_W} {NN : Nat → Nat} {FF : Nat → Nat → Int32} (h : PoolOK G tF pl NN FF) (hl : ∀ i, i < 40 → kF i = nI 3 → (∃ y, tF i = some y) ∧ 0 < NN i) : TgOK G kF tF pl NN FF := by
  obtain ⟨B, h1, -⟩ := h
  intro i hi hk
  obtain ⟨⟨y, hy⟩, h0⟩ := hl i hi hk
  obtain ⟨a1, a2, a3, a4⟩ := h1 i hi y hy
  obtain ⟨k1, e1⟩ := List.getElem?_of_mem a3
  obtain ⟨k2, e2⟩ := List.getElem?_of_mem a4
  exact ⟨h0, a1, a2, y, B i, k1, k2, hy, e1, e2⟩
/-- a line comes for a number that had none -/
theorem PoolOK.new {G : GG} {A : Nat → Prop} {X : va_W} {tF : Nat → Option Nat} {pl : va_W} {NN : Nat → Nat} {FF : Nat → Nat → Int32} (h : PoolOK G tF pl NN FF) {i0 y b n : Nat} {g : Nat → Int32} (hn : n ≤ 40) (hg : ∀ j, okC (g j)) (hD : va_D A (X ++ ([oC y 1 [.ref b, .int (nI n)], aC G b 40 g] ++ pl))) : PoolOK G (va_up tF i0 (some y)) ([oC y 1 [.ref b, .int (nI n)], aC G b 40 g] ++ pl) (va_up NN i0 n) (va_up FF i0 g) := by
  obtain ⟨B, h1, h2⟩ := h
  have hnd := (vaD_iff.mp hD).1
  rw [List.map_append] at hnd
  have hnd2 := (List.nodup_append.mp hnd).2.1
  have hy : ∀ q ∈ pl, q.1 ≠ y ∧ q.1 ≠ b := by
    intro q hq
    have hm : q.1 ∈ pl.map Prod.fst := List.mem_map.mpr ⟨q, hq, rfl⟩
    have e : ([oC y 1 [.ref b, .int (nI n)], aC G b 40 g] ++ pl).map Prod.fst = y :: b :: pl.map Prod.fst := rfl
    rw [e] at hnd2
    obtain ⟨n1, n2⟩ := List.nodup_cons.mp hnd2
    obtain ⟨n3, -⟩ := List.nodup_cons.mp n2
    exact ⟨fun h => n1 (List.mem_cons_of_mem _ (h ▸ hm)), fun h => n3 (h ▸ hm)⟩
  refine ⟨va_up B i0 b, fun i hi z hz => ?_, fun i j hi hj hij z w hz hw => ?_⟩
  · by_cases he : i = i0
    · subst he
      rw [va_up_self] at hz; cases hz
      rw [va_up_self, va_up_self, va_up_self]
      exact ⟨hn, hg, List.mem_append_left _ (List.mem_cons_self), List.mem_append_left _ (List.mem_cons_of_mem _ List.mem_cons_self)⟩
    · rw [va_up_ne _ _ he] at hz
      rw [va_up_ne _ _ he, va_up_ne _ _ he, va_up_ne _ _ he]
      obtain ⟨a1, a2, a3, a4⟩ := h1 i hi z hz
      exact ⟨a1, a2, List.mem_append_right _ a3, List.mem_append_right _ a4⟩
  · by_cases he : i = i0
    · subst he
      rw [va_up_self] at hz; cases hz
      rw [va_up_ne _ _ (Ne.symm hij)] at hw
      rw [va_up_self, va_up_ne _ _ (Ne.symm hij)]
      obtain ⟨-, -, a3, a4⟩ := h1 j hj w hw
      exact ⟨fun h => (hy _ a3).1 h.symm, fun h => (hy _ a4).2 h.symm⟩
    · rw [va_up_ne _ _ he] at hz
      by_cases hf : j = i0
      · subst hf
        rw [va_up_self] at hw; cases hw
        rw [va_up_self, va_up_ne _ _ he]
        obtain ⟨-, -, a3, a4⟩ := h1 i hi z hz
        exact ⟨(hy _ a3).1, (hy _ a4).2⟩
      · rw [va_up_ne _ _ hf] at hw
        rw [va_up_ne _ _ he, va_up_ne _ _ hf]
        exact h2 i j hi hj hij z w hz hw
/-- a number's line is written anew -/
theorem PoolOK.old {G : GG} {tF : Nat → Option Nat} {pl pl' : va_W} {NN : Nat → Nat} {FF : Nat → Nat → Int32} {B : Nat → Nat} (h1 : ∀ i, i < 40 → ∀ y, tF i = some y → NN i ≤ 40 ∧ (∀ j, okC (FF i j)) ∧ oC y 1 [.ref (B i), .int (nI (NN i))] ∈ pl ∧ aC G (B i) 40 (FF i) ∈ pl) (h2 : ∀ i j, i < 40 → j < 40 → i ≠ j → ∀ y z, tF i = some y → tF j = some z → y ≠ z ∧ B i ≠ B j) {i0 y n : Nat} {g : Nat → Int32} (hi0 : i0 < 40) (hy0 : tF i0 = some y) (hn : n ≤ 40) (hg : ∀ j, okC (g j)) (hp : pl.Perm (oC y 1 [.ref (B i0), .int (nI (NN i0))] :: aC G (B i0) 40 (FF i0) :: pl')) : PoolOK G tF ([oC y 1 [.ref (B i0), .int (nI n)], aC G (B i0) 40 g] ++ pl') (va_up NN i0 n) (va_up FF i0 g) := by
  refine ⟨B, fun i hi z hz => ?_, h2⟩
  by_cases he : i = i0
  · subst he
    rw [hy0] at hz; cases hz
    rw [va_up_self, va_up_self]
    exact ⟨hn, hg, List.mem_append_left _ (List.mem_cons_self), List.mem_append_left _ (List.mem_cons_of_mem _ List.mem_cons_self)⟩
  · rw [va_up_ne _ _ he, va_up_ne _ _ he]
    obtain ⟨a1, a2, a3, a4⟩ := h1 i hi z hz
    have hne := h2 i i0 hi hi0 he z y hz hy0
    refine ⟨a1, a2, List.mem_append_right _ ?_, List.mem_append_right _ ?_⟩
    · have := hp.mem_iff.mp a3
      rcases List.mem_cons.mp this with h | h
      · exact absurd (congrArg Prod.fst h) hne.1
      · rcases List.mem_cons.mp h with h | h
        · cases h
        · exact h
    · have := hp.mem_iff.mp a4
      rcases List.mem_cons.mp this with h | h
      · cases h
      · rcases List.mem_cons.mp h with h | h
        · exact absurd (congrArg Prod.fst h) hne.2
        · exact h
