/-! a call whose callee reads two cells of the tail -/
theorem isC_app {X cx : va_W} {x y : Nat × va_E} {isC : List Nat} (hC : isC.map (fun i => X[i]?) = cx.map some) : (isC ++ [X.length, X.length + 1]).map (fun i => (X ++ [x, y])[i]?) = (cx ++ [x, y]).map some := by
  rw [List.map_append, List.map_append]
  congr 1
  · rw [← hC]
    refine List.map_congr_left (fun i hi => ?_)
    have h : X[i]? ∈ cx.map some := by rw [← hC]; exact List.mem_map.mpr ⟨i, hi, rfl⟩
    obtain ⟨q, -, hq⟩ := List.mem_map.mp h
    exact List.getElem?_append_left (List.getElem?_eq_some_iff.mp hq.symm).1
  · simp
theorem isR_app {X wr : va_W} {x y : Nat × va_E} {isR : List Nat} (hR : isR.map (fun i => X[i]?) = wr.map some) : isR.map (fun i => (X ++ [x, y])[i]?) = wr.map some ∧ ∀ i ∈ isR, i < X.length := by
  have key : ∀ i ∈ isR, i < X.length := fun i hi => by
    have h : X[i]? ∈ wr.map some := by rw [← hR]; exact List.mem_map.mpr ⟨i, hi, rfl⟩
    obtain ⟨q, -, hq⟩ := List.mem_map.mp h
    exact (List.getElem?_eq_some_iff.mp hq.symm).1
  refine ⟨?_, key⟩
  rw [← hR]
  exact List.map_congr_left (fun i hi => List.getElem?_append_left (key i hi))
section RO
variable {p : Program} {l : Launch} {e : Env} {R : Room} {s : State} {m : MethodId} {args : Array Value} {below : List Frame} {meth : Method} {c : Code} {H : Heap} {locs : List Loc} {cells slots mc ms pc : Nat} {Q : State → Prop} {G : GG} {A : Nat → Prop} {wr X pl cx : va_W} {x y : Nat × va_E} {k1 k2 : Nat} {ls : Array Slot} {rest st0 : List Value} {a : Array Value}
theorem kPermR {pl' : va_W} (hp : pl.Perm (x :: y :: pl')) : (X ++ pl).Perm ((X ++ [x, y]) ++ pl') := by rw [List.append_assoc]; exact hp.append_left X
theorem kPreR {b : Nat} {As : List Value} {C : String} (hK : KG G s) (hP : PG G (X ++ pl) H) (hD : va_D A (X ++ pl)) (isC : List Nat) (hn : va_nd (isC ++ [X.length, X.length + 1]) = true) (hC : isC.map (fun i => X[i]?) = cx.map some) (h1 : pl[k1]? = some x) (h2 : pl[k2]? = some y) (hne : x ≠ y) {q0 ci : Nat} {q : vw_C} {fs : List Value} (hc : vwM[ci]? = some q) (he : X[q0]? = some (b, .inr (ci, fs))) (hq : q.1 = C) : PreV s H C b (PreG G (.ref b :: As) (cx ++ [x, y]) H.size) As := by
  obtain ⟨pl', hp⟩ := pl_two h1 h2 hne
  exact kPreQ (X := X ++ [x, y]) (pl := pl') hK (vaP_perm (kPermR hp) hP) (vaD_perm (kPermR hp) hD) _ hn (isC_app hC) hc (by rw [List.getElem?_append_left (List.getElem?_eq_some_iff.mp he).1]; exact he) hq
theorem kCallIR {S : Type} {post : Int32 → S → Prop} {ox : S → va_W} (hr : va_Run p l e R s m args below meth c H locs cells slots mc ms (F0 m pc ls st0) rest (va_Qi post (Bw G (va_A (cx ++ [x, y]) H.size) (fun u => ox u ++ [x, y])) (va_A (cx ++ [x, y]) H.size) a) (va_A (cx ++ [x, y]) H.size)) (hP : PG G (X ++ pl) H) (hD : va_D A (X ++ pl)) (hS : va_S A s.heap H locs) (hA : ∀ q, s.heap.size ≤ q → A q) (isC isR : List Nat) (hC : isC.map (fun i => X[i]?) = cx.map some) (hR : isR.map (fun i => X[i]?) = wr.map some) (hn : va_nd isR = true) (hdis : ∀ i ∈ isR, i ∉ isC) (h1 : pl[k1]? = some x) (h2 : pl[k2]? = some y) (hne : x ≠ y)
    (kk : ∀ (r : Int32) (u : S) (H1 : Heap) (locs1 : List Loc), post r u → PG G ((wr ++ ox u) ++ pl) H1 → va_D A ((wr ++ ox u) ++ pl) → va_S A s.heap H1 locs1 → W p l e R s m args below meth c H1 locs1 (cells + mc) (slots + ms) Q (F0 m (pc + 3) ls (.int r :: rest))) : W p l e R s m args below meth c H locs cells slots Q (F0 m pc ls st0) := by
  obtain ⟨pl', hp⟩ := pl_two h1 h2 hne
  have hRa := isR_app (x := x) (y := y) hR
  refine kCallIQ (X := X ++ [x, y]) (pl := pl') (wc := cx ++ [x, y]) (wr := wr) hr (vaP_perm (kPermR hp) hP) (vaD_perm (kPermR hp) hD) hS hA (isC ++ [X.length, X.length + 1]) isR (isC_app hC) hRa.1 hn (fun i hi => ?_) (fun r u H1 locs1 hw hP1 hD1 hS1 => ?_)
  · have := hRa.2 i hi
    simp only [List.mem_append, List.mem_cons, List.not_mem_nil, or_false]
    rintro (h | h | h)
    · exact hdis i hi h
    · omega
    · omega
  · have pm : ((wr ++ (ox u ++ [x, y])) ++ pl').Perm ((wr ++ ox u) ++ pl) := by
      rw [← List.append_assoc, List.append_assoc]
      exact (hp.symm).append_left (wr ++ ox u)
    exact kk r u H1 locs1 hw (vaP_perm pm hP1) (vaD_perm pm hD1) hS1
end RO
