def RJ7 : String := "java/util/Arrays"
abbrev cJ7_fill : ByteArray := prog_12_method_103_code
def yJ7_fill : MethodName := ⟨RJ7, "fill", "([II)V"⟩
def wsJ7_fill : List Cond := .code yJ7_fill cJ7_fill 4 none :: BIG
theorem mC_J7_fill : Cond.code yJ7_fill cJ7_fill 4 none ∈ BIG := mB (List.mem_of_getElem? (i := 139) (by decide +kernel)) (by decide +kernel)
theorem mT_J7_fill : Cond.static yJ7_fill ∈ BIG := mB (List.mem_of_getElem? (i := 138) (by decide +kernel)) (by decide +kernel)
theorem mN_J7 : Cond.initialized RJ7 ∈ BIG := mB (List.mem_of_getElem? (i := 43) (by decide +kernel)) (by decide +kernel)
theorem mL_X5_22 : Cond.methodLink RX5 22 yJ7_fill ∈ BIG := mB (List.mem_of_getElem? (i := 137) (by decide +kernel)) (by decide +kernel)
theorem hd_J7_fill : yJ7_fill.cls ≠ "java/lang/invoke/MethodHandle" ∧ yJ7_fill.cls ≠ "java/lang/invoke/VarHandle" ∧ (parseMethodDescriptor yJ7_fill.desc).map (fun d => d.parameters.length) = some 2 := by decide +kernel
theorem dJ7_fill_0 : decode cJ7_fill 0 = .ok (.iconst 0, 1) := by decide +kernel
theorem dJ7_fill_1 : decode cJ7_fill 1 = .ok (.istore_n 2, 1) := by decide +kernel
theorem dJ7_fill_2 : decode cJ7_fill 2 = .ok (.aload_n 0, 1) := by decide +kernel
theorem dJ7_fill_3 : decode cJ7_fill 3 = .ok (.arraylength, 1) := by decide +kernel
theorem dJ7_fill_4 : decode cJ7_fill 4 = .ok (.istore_n 3, 1) := by decide +kernel
theorem dJ7_fill_5 : decode cJ7_fill 5 = .ok (.iload_n 2, 1) := by decide +kernel
theorem dJ7_fill_6 : decode cJ7_fill 6 = .ok (.iload_n 3, 1) := by decide +kernel
theorem dJ7_fill_7 : decode cJ7_fill 7 = .ok (.if_icmp .ge 13, 3) := by decide +kernel
theorem dJ7_fill_10 : decode cJ7_fill 10 = .ok (.aload_n 0, 1) := by decide +kernel
theorem dJ7_fill_11 : decode cJ7_fill 11 = .ok (.iload_n 2, 1) := by decide +kernel
theorem dJ7_fill_12 : decode cJ7_fill 12 = .ok (.iload_n 1, 1) := by decide +kernel
theorem dJ7_fill_13 : decode cJ7_fill 13 = .ok (.iastore, 1) := by decide +kernel
theorem dJ7_fill_14 : decode cJ7_fill 14 = .ok (.iinc 2 1, 3) := by decide +kernel
theorem dJ7_fill_17 : decode cJ7_fill 17 = .ok (.goto (-12), 3) := by decide +kernel
theorem dJ7_fill_20 : decode cJ7_fill 20 = .ok (.return_, 1) := by decide +kernel
def flF (f : Nat → Int32) (n : Nat) (v : Int32) : Nat → Int32 := fun j => if j < n then v else f j
theorem flF_0 {f : Nat → Int32} {v : Int32} : flF f 0 v = f := by funext j; unfold flF; rw [if_neg (by omega)]
theorem flF_s {f : Nat → Int32} {k : Nat} {v : Int32} : upd (flF f k v) k v = flF f (k + 1) v := by
  funext j
  unfold upd flF
  by_cases hj : j = k
  · rw [if_pos hj, if_pos (by omega)]
  · rw [if_neg hj]
    by_cases hk : j < k
    · rw [if_pos hk, if_pos (by omega)]
    · rw [if_neg hk, if_neg (by omega)]
